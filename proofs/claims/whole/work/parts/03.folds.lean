/-! the least of a row, the room below it, the masks met -/
theorem pc_minL (f : Nat → Int32) : ∀ n i, i < n → (pc_min f n).toInt ≤ (f i).toInt := by
  intro n
  induction n with
  | zero => intro i h; omega
  | succ n ih =>
    intro i hi
    unfold pc_min
    by_cases h : f n < pc_min f n
    · rw [if_pos h]
      rw [Int32.lt_iff_toInt_lt] at h
      by_cases e : i = n
      · subst e; omega
      · have := ih i (by omega); omega
    · rw [if_neg h]
      rw [Int32.lt_iff_toInt_lt] at h
      by_cases e : i = n
      · subst e; omega
      · exact ih i (by omega)
theorem pc_minE (f : Nat → Int32) : ∀ n, ∃ i, i < n + 1 ∧ pc_min f (n + 1) = f i := by
  intro n
  induction n with
  | zero => exact ⟨0, by omega, pc_min1 f⟩
  | succ n ih =>
    obtain ⟨i, hi, e⟩ := ih
    by_cases h : f (n + 1) < pc_min f (n + 1)
    · exact ⟨n + 1, by omega, if_pos h⟩
    · exact ⟨i, by omega, (if_neg h).trans e⟩
theorem pc_roomB {f : Nat → Int32} {m c : Int32} {u v N : Nat} (hc : 0 ≤ c.toInt ∧ c.toInt ≤ 20) (hf : ∀ i, i < N → 0 ≤ (f i).toInt - m.toInt ∧ (f i).toInt - m.toInt ≤ 2000) : ∀ n, n ≤ N → 0 ≤ (pc_room f m c u v n).toInt ∧ (pc_room f m c u v n).toInt ≤ c.toInt ∧ (∀ i, i < n → ¬ pc_bit (nI i) u = pc_bit (nI i) v → (pc_room f m c u v n).toInt ≤ (f i).toInt - m.toInt) ∧ ((pc_room f m c u v n).toInt = c.toInt ∨ ∃ i, i < n ∧ ¬ pc_bit (nI i) u = pc_bit (nI i) v ∧ (pc_room f m c u v n).toInt = (f i).toInt - m.toInt) := by
  intro n
  induction n with
  | zero =>
    intro _
    exact ⟨hc.1, Int.le_refl _, fun i hi => absurd hi (by omega), Or.inl rfl⟩
  | succ n ih =>
    intro hn
    obtain ⟨i1, i2, i3, i4⟩ := ih (by omega)
    have hfn := hf n (by omega)
    have ht : (f n - m).toInt = (f n).toInt - m.toInt := pc_tsub (by omega) (by omega)
    unfold pc_room
    by_cases hb : pc_bit (nI n) u = pc_bit (nI n) v
    · rw [if_pos hb]
      refine ⟨i1, i2, fun i hi hq => ?_, ?_⟩
      · by_cases e : i = n
        · subst e; exact absurd hb hq
        · exact i3 i (by omega) hq
      · rcases i4 with h | ⟨i, hi, hq, h⟩
        · exact Or.inl h
        · exact Or.inr ⟨i, by omega, hq, h⟩
    · rw [if_neg hb]
      by_cases hl : f n - m < pc_room f m c u v n
      · rw [if_pos hl]
        rw [Int32.lt_iff_toInt_lt, ht] at hl
        rw [ht]
        refine ⟨by omega, by omega, fun i hi hq => ?_, Or.inr ⟨n, by omega, hb, rfl⟩⟩
        by_cases e : i = n
        · subst e; omega
        · have := i3 i (by omega) hq; omega
      · rw [if_neg hl]
        rw [Int32.lt_iff_toInt_lt, ht] at hl
        refine ⟨i1, i2, fun i hi hq => ?_, ?_⟩
        · by_cases e : i = n
          · subst e; omega
          · exact i3 i (by omega) hq
        · rcases i4 with h | ⟨i, hi, hq, h⟩
          · exact Or.inl h
          · exact Or.inr ⟨i, by omega, hq, h⟩
theorem pc_spare {f : Nat → Int32} {c : Int32} (u v : Nat) (hc : 0 ≤ c.toInt ∧ c.toInt ≤ 20) (hf : ∀ i, 0 ≤ (f i).toInt ∧ (f i).toInt ≤ 1960) : ∃ R : Nat, (R : Int) ≤ c.toInt ∧ pc_room f (pc_min f 128) c u v 128 = nI R ∧ ∀ k : Nat, (k : Int) ≤ c.toInt → ∀ f' : Nat → Int32, (∀ i, f' i = f i - pc_dl (nI i) u v (nI k)) → (pc_min f' 128 = pc_min f 128 ↔ k ≤ R) := by
  have hm : ∀ i, i < 128 → (pc_min f 128).toInt ≤ (f i).toInt := pc_minL f 128
  obtain ⟨i0, hi0, e0⟩ : ∃ i, i < 128 ∧ pc_min f 128 = f i := pc_minE f 127
  have e0' : (pc_min f 128).toInt = (f i0).toInt := congrArg Int32.toInt e0
  have h0 := hf i0
  obtain ⟨r1, r2, r3, r4⟩ := pc_roomB (f := f) (m := pc_min f 128) (c := c) (u := u) (v := v) (N := 128) hc (fun i hi => by have := hm i hi; have := hf i; omega) 128 (by omega)
  refine ⟨(pc_room f (pc_min f 128) c u v 128).toInt.toNat, by omega, pc_toN r1, ?_⟩
  intro k hk f' hf'
  have hfk : ∀ i, (f' i).toInt = (f i).toInt - (if pc_bit (nI i) u = pc_bit (nI i) v then 0 else (k : Int)) := by
    intro i
    rw [hf' i]
    unfold pc_dl
    have hi := hf i
    by_cases hb : pc_bit (nI i) u = pc_bit (nI i) v
    · rw [if_pos hb, if_pos hb, Int32.sub_zero]; omega
    · rw [if_neg hb, if_neg hb]
      have hn : (nI k).toInt = (k : Int) := nI_toInt (by omega)
      rw [pc_tsub (by omega) (by omega), hn]
  constructor
  · intro e
    rcases r4 with h | ⟨i, hi, hb, h⟩
    · omega
    · have h2 := pc_minL f' 128 i hi
      rw [e, hfk i, if_neg hb] at h2
      omega
  · intro hkR
    apply Int32.toInt_inj.mp
    obtain ⟨j, hj, ej⟩ : ∃ i, i < 128 ∧ pc_min f' 128 = f' i := pc_minE f' 127
    have a1 := pc_minL f' 128 i0 hi0
    rw [hfk i0] at a1
    have a2 : (pc_min f 128).toInt ≤ (f' j).toInt := by
      rw [hfk j]
      by_cases hb : pc_bit (nI j) u = pc_bit (nI j) v
      · rw [if_pos hb]; have := hm j hj; omega
      · rw [if_neg hb]; have := r3 j hj hb; omega
    have a3 : (pc_min f' 128).toInt = (f' j).toInt := congrArg Int32.toInt ej
    have a5 : (0 : Int) ≤ (if pc_bit (nI i0) u = pc_bit (nI i0) v then 0 else (k : Int)) := by
      by_cases hb : pc_bit (nI i0) u = pc_bit (nI i0) v
      · rw [if_pos hb]; omega
      · rw [if_neg hb]; omega
    omega
def pc_seen (M : Nat → Nat) : Nat → Nat → Bool
  | 0, _ => false
  | n + 1, m => pc_seen M n m || decide (m = M n)
def pc_stg (M : Nat → Nat) : Nat → Int32
  | 0 => 0
  | n + 1 => if pc_seen M n (M n) = false then pc_stg M n + 1 else pc_stg M n
theorem pc_andN (f : Nat → Int32) (m : Int32) : ∀ n, ∃ j, j < 128 ∧ pc_and f m n = nI j := by
  intro n
  induction n with
  | zero => exact ⟨127, by omega, by show (127 : Int32) = nI 127; decide⟩
  | succ n ih =>
    obtain ⟨j, hj, e⟩ := ih
    unfold pc_and
    by_cases h : f n = m
    · rw [if_pos h, e, nx_and]
      exact ⟨j &&& n, Nat.lt_of_le_of_lt Nat.and_le_left hj, rfl⟩
    · rw [if_neg h]; exact ⟨j, hj, e⟩
theorem pc_sh : ∀ l, l < 64 → ((1 : Int64) <<< ((nI l).toInt64 &&& 63)).toBitVec = BitVec.twoPow 64 l := by decide +kernel
theorem pc_tp : ∀ l, l < 64 → BitVec.twoPow 64 l ≠ 0#64 := by decide +kernel
theorem pc_b0 {w m : Int64} {j : Nat} (hj : j < 64) (hm : m.toBitVec = BitVec.twoPow 64 j) : (w &&& m) = 0 ↔ w.toBitVec.getLsbD j = false := by
  rw [← Int64.toBitVec_inj, Int64.toBitVec_and, hm, BitVec.and_twoPow]
  show _ = 0#64 ↔ _
  cases hb : w.toBitVec.getLsbD j
  · exact ⟨fun _ => rfl, fun _ => if_neg (by decide)⟩
  · exact ⟨fun z => absurd ((if_pos rfl).symm.trans z) (pc_tp j hj), fun z => nomatch z⟩
theorem pc_bor {w m : Int64} {j : Nat} (hm : m.toBitVec = BitVec.twoPow 64 j) {i : Nat} (hi : i < 64) : (w ||| m).toBitVec.getLsbD i = (w.toBitVec.getLsbD i || decide (i = j)) := by
  rw [Int64.toBitVec_or, hm, BitVec.getLsbD_or, BitVec.getLsbD_twoPow]
  by_cases e : j = i
  · subst e; simp [hi]
  · have e' : ¬ i = j := fun z => e z.symm
    simp [e, e']
/-- the two long sets of the component hold the masks met before x = n -/
def pc_LH (M : Nat → Nat) (n : Nat) (L H : Int64) : Prop := (∀ i, i < 64 → L.toBitVec.getLsbD i = pc_seen M n i) ∧ (∀ i, i < 64 → H.toBitVec.getLsbD i = pc_seen M n (64 + i))
theorem pc_LH0 (M : Nat → Nat) : pc_LH M 0 0 0 := ⟨fun i _ => BitVec.getLsbD_zero, fun i _ => BitVec.getLsbD_zero⟩
theorem pc_LHl {M : Nat → Nat} {n : Nat} {L H m : Int64} (h : pc_LH M n L H) (hj : M n < 64) (hm : m.toBitVec = BitVec.twoPow 64 (M n)) : ((L &&& m) = 0 ↔ pc_seen M n (M n) = false) ∧ pc_LH M (n + 1) (L ||| m) H := by
  refine ⟨(pc_b0 hj hm).trans (by rw [h.1 _ hj]), fun i hi => ?_, fun i hi => ?_⟩
  · rw [pc_bor hm hi, h.1 i hi]; rfl
  · rw [h.2 i hi]
    show _ = (pc_seen M n (64 + i) || decide (64 + i = M n))
    rw [decide_eq_false (show ¬ 64 + i = M n by omega), Bool.or_false]
theorem pc_LHh {M : Nat → Nat} {n : Nat} {L H m : Int64} (h : pc_LH M n L H) (hj : 64 ≤ M n) (hj2 : M n < 128) (hm : m.toBitVec = BitVec.twoPow 64 (M n - 64)) : ((H &&& m) = 0 ↔ pc_seen M n (M n) = false) ∧ pc_LH M (n + 1) L (H ||| m) := by
  have e : 64 + (M n - 64) = M n := by omega
  refine ⟨(pc_b0 (by omega) hm).trans (by rw [h.2 _ (by omega), e]), fun i hi => ?_, fun i hi => ?_⟩
  · rw [h.1 i hi]
    show _ = (pc_seen M n i || decide (i = M n))
    rw [decide_eq_false (show ¬ i = M n by omega), Bool.or_false]
  · rw [pc_bor hm hi, h.2 i hi]
    show _ = (pc_seen M n (64 + i) || decide (64 + i = M n))
    by_cases z : i = M n - 64
    · rw [decide_eq_true z, decide_eq_true (show 64 + i = M n by omega)]
    · rw [decide_eq_false z, decide_eq_false (show ¬ 64 + i = M n by omega)]
/-- the reference's row of marks holds the masks met before x = n -/
def pc_SN (M : Nat → Nat) (n : Nat) (a : Nat → Int32) : Prop := ∀ m, m < 128 → a m = if pc_seen M n m = false then 0 else 1
theorem pc_SNs {M : Nat → Nat} {n : Nat} {a : Nat → Int32} (h : pc_SN M n a) : pc_SN M (n + 1) (upd a (M n) 1) := by
  intro m hm
  by_cases e : m = M n
  · subst e
    rw [pk_us, if_neg]
    show ¬ (pc_seen M n (M n) || decide (M n = M n)) = false
    rw [decide_eq_true rfl, Bool.or_true]; decide
  · rw [pk_un e, h m hm]
    have e2 : pc_seen M (n + 1) m = pc_seen M n m := by
      show (pc_seen M n m || decide (m = M n)) = _
      rw [decide_eq_false e, Bool.or_false]
    rw [e2]
