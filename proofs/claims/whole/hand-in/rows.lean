section
/-! rows pasted from kit/rows (PURE-ROWS, BITS) -/
theorem pk_us {f : Nat → Int32} {k : Nat} {x : Int32} : upd f k x k = x := if_pos rfl
theorem pk_un {f : Nat → Int32} {k j : Nat} {x : Int32} (h : j ≠ k) : upd f k x j = f j := if_neg h
theorem pk_sub {a b : Nat} (h : b ≤ a) : nI a - nI b = nI (a - b) := by
  obtain ⟨c, rfl⟩ : ∃ c, a = c + b := ⟨a - b, by omega⟩
  rw [← nI_add, Int32.add_sub_cancel, Nat.add_sub_cancel]
theorem pk_m1 (n : Nat) : nI (n + 1) + (-1) = nI n := by
  rw [← nI_1, Int32.add_assoc, show (1 : Int32) + (-1) = 0 from rfl, Int32.add_zero]
theorem pk_mul (a b : Nat) : nI a * nI b = nI (a * b) := (Int32.ofNat_mul a b).symm
theorem pk_sub_toInt {a b : Nat} (ha : a < 2 ^ 30) (hb : b < 2 ^ 30) : (nI a - nI b).toInt = (a : Int) - b := by
  rw [Int32.toInt_sub, nI_toInt (by omega), nI_toInt (by omega)]
  exact Int.bmod_eq_of_le (by omega) (by omega)
theorem pk_ix (x : Int32) {n : Nat} (hn : n < 2 ^ 31) : x < 0 ∨ nI n ≤ x ∨ ∃ j : Nat, j < n ∧ x = nI j := by
  by_cases h : x < 0
  · exact Or.inl h
  · obtain ⟨j, hj, rfl⟩ := nI_of h
    by_cases h2 : j < n
    · exact Or.inr (Or.inr ⟨j, h2, rfl⟩)
    · exact Or.inr (Or.inl (nI_le (by omega) hj))
theorem pk_le {x y : Int32} {A B : Prop} (a b : Nat) (f : a ≤ b → A) (g : b < a → B) (hx : x = nI a := by rfl) (hy : y = nI b := by rfl) (ha : a < 2 ^ 31 := by omega) (hb : b < 2 ^ 31 := by omega) : (x ≤ y → A) ∧ (¬ x ≤ y → B) := by
  subst hx hy
  rw [nI_leI ha hb]
  exact ⟨f, fun z => g (by omega)⟩
theorem pk_lt {x y : Int32} {A B : Prop} (a b : Nat) (f : a < b → A) (g : b ≤ a → B) (hx : x = nI a := by rfl) (hy : y = nI b := by rfl) (ha : a < 2 ^ 31 := by omega) (hb : b < 2 ^ 31 := by omega) : (x < y → A) ∧ (¬ x < y → B) := by
  subst hx hy
  rw [nI_ltI ha hb]
  exact ⟨f, fun z => g (by omega)⟩
theorem pk_eq {x y : Int32} {A B : Prop} (a b : Nat) (f : a = b → A) (g : a ≠ b → B) (hx : x = nI a := by rfl) (hy : y = nI b := by rfl) (ha : a < 2 ^ 31 := by omega) (hb : b < 2 ^ 31 := by omega) : (x = y → A) ∧ (¬ x = y → B) := by
  subst hx hy
  rw [nI_eq ha hb]
  exact ⟨f, g⟩
theorem pk_in {x : Int32} (n N : Nat) (h : n < N) (hx : x = nI n := by rfl) (hN : N < 2 ^ 31 := by omega) : vp_in x N := by
  subst hx
  exact vp_in_nI h hN
theorem pk_cl {x : Int32} (n : Nat) (hx : x = nI n := by rfl) (h : n < 2 ^ 31 := by omega) : x.toNatClampNeg = n := by
  subst hx
  exact nI_clamp h
theorem pk_tn {n : Nat} (h : n < 2 ^ 32) : (nI n).toBitVec.toNat = n := Nat.mod_eq_of_lt h
theorem pk_and (x : Int32) {m : Int32} (k : Nat) (hm : m.toBitVec.toNat = 2 ^ k - 1) : x &&& m = nI (x.toBitVec.toNat % 2 ^ k) := by
  apply Int32.toBitVec_inj.mp
  apply BitVec.eq_of_toNat_eq
  rw [Int32.toBitVec_and, BitVec.toNat_and, hm, Nat.and_two_pow_sub_one_eq_mod]
  show _ = (BitVec.ofNat 32 _).toNat
  rw [BitVec.toNat_ofNat]
  exact (Nat.mod_eq_of_lt (Nat.lt_of_le_of_lt (Nat.mod_le _ _) x.toBitVec.isLt)).symm
theorem pk_andE (x : Int32) {m : Int32} (k : Nat) (hm : m.toBitVec.toNat = 2 ^ k - 1) : ∃ j : Nat, j < 2 ^ k ∧ x &&& m = nI j := ⟨_, Nat.mod_lt _ (Nat.two_pow_pos k), pk_and x k hm⟩
theorem pk_shr (a s : Int32) (k : Nat) (hs : (s.toBitVec.smod 32).toNat = k) : (a >>> s).toInt = a.toInt >>> k := by
  show (a.toBitVec.sshiftRight (s.toBitVec.smod 32).toNat).toInt = _
  rw [hs, BitVec.toInt_sshiftRight]
  rfl
theorem pk_shrN {n : Nat} (h : n < 2 ^ 31) (s : Int32) (k : Nat) (hs : (s.toBitVec.smod 32).toNat = k) : nI n >>> s = nI (n / 2 ^ k) := by
  apply Int32.toInt_inj.mp
  have h2 : n / 2 ^ k ≤ n := Nat.div_le_self _ _
  rw [pk_shr _ _ k hs, nI_toInt h, nI_toInt (by omega), Int.shiftRight_eq_div_pow]
  rfl
theorem pk_loop {σ : Type} (W : Nat → Nat → σ → Prop) (I : Nat → σ → Prop) (e i0 : Nat) (s : σ) (hi : i0 ≤ e) (h0 : I i0 s) (hx : ∀ n s, I e s → W (n + 1) e s)
    (hs : ∀ n i s, i < e → I i s → (∀ s', I (i + 1) s' → W n (i + 1) s') → W (n + 1) i s) : ∃ n, W n i0 s :=
  ⟨e + 1, loop_i W I e hx hs (e + 1) i0 s hi (by omega) h0⟩
theorem nx_and (a b : Nat) : nI a &&& nI b = nI (a &&& b) := by
  apply Int32.toBitVec_inj.1
  show BitVec.ofNat 32 a &&& BitVec.ofNat 32 b = BitVec.ofNat 32 (a &&& b)
  apply BitVec.eq_of_getLsbD_eq
  intro i hi
  simp [hi]
end
section
/-! the pure picture: the cost of a cut, and the folds over the 128 cuts -/
def pc_bit (s : Int32) (v : Nat) : Int32 := (s >>> (nI v &&& 31)) &&& 1
theorem pc_01 (s : Int32) (v : Nat) : pc_bit s v = 0 ∨ pc_bit s v = 1 := by
  unfold pc_bit
  obtain ⟨j, hj, e⟩ := pk_andE (s >>> (nI v &&& 31)) (m := 1) 1 (by decide)
  rw [e]
  have h2 : j < 2 := hj
  rcases Nat.lt_or_ge j 1 with h | h
  · left
    rw [show j = 0 by omega]; decide
  · right
    rw [show j = 1 by omega]; decide
theorem pc_n0 {s : Int32} {v : Nat} (h : ¬ pc_bit s v = 0) : pc_bit s v = 1 := (pc_01 s v).resolve_left h
theorem pc_n1 {s : Int32} {v : Nat} (h : ¬ pc_bit s v = 1) : pc_bit s v = 0 := (pc_01 s v).resolve_right h
def pc_pull (b s x : Int32) : Int32 := if b + s * x < 0 then 0 else b + s * x
def pc_in (g : Nat → Int32) (s : Int32) (v : Nat) : Nat → Int32 → Int32
  | 0, a => a
  | u + 1, a => if pc_bit s u = pc_bit s v then pc_in g s v u a else pc_in g s v u a + g (u * 7 + v)
def pc_at (sb ss tb ts : Nat → Int32) (s x : Int32) (v : Nat) : Int32 := if pc_bit s v = 0 then pc_pull (sb v) (ss v) x else pc_pull (tb v) (ts v) x
def pc_out (g sb ss tb ts : Nat → Int32) (s x : Int32) : Nat → Int32
  | 0 => 0
  | v + 1 => pc_in g s v v (pc_out g sb ss tb ts s x v + pc_at sb ss tb ts s x v)
def pc_cost (g sb ss tb ts : Nat → Int32) (s x : Int32) : Int32 := pc_out g sb ss tb ts s x 7
def pc_min (f : Nat → Int32) : Nat → Int32
  | 0 => f 0
  | n + 1 => if f n < pc_min f n then f n else pc_min f n
def pc_least (g sb ss tb ts : Nat → Int32) (x : Int32) : Int32 := pc_min (fun i => pc_cost g sb ss tb ts (nI i) x) 128
def pc_and (f : Nat → Int32) (m : Int32) : Nat → Int32
  | 0 => 127
  | n + 1 => if f n = m then pc_and f m n &&& nI n else pc_and f m n
def pc_or (f : Nat → Int32) (m : Int32) : Nat → Int32
  | 0 => 0
  | n + 1 => if f n = m then pc_or f m n ||| nI n else pc_or f m n
def pc_cnt (f : Nat → Int32) (m : Int32) : Nat → Int32
  | 0 => 0
  | n + 1 => if f n = m then pc_cnt f m n + 1 else pc_cnt f m n
def pc_always (g sb ss tb ts : Nat → Int32) (x : Int32) : Int32 := pc_and (fun i => pc_cost g sb ss tb ts (nI i) x) (pc_least g sb ss tb ts x) 128
def pc_ever (g sb ss tb ts : Nat → Int32) (x : Int32) : Int32 := pc_or (fun i => pc_cost g sb ss tb ts (nI i) x) (pc_least g sb ss tb ts x) 128
def pc_ties (g sb ss tb ts : Nat → Int32) (x : Int32) : Int32 := pc_cnt (fun i => pc_cost g sb ss tb ts (nI i) x) (pc_least g sb ss tb ts x) 128
/-- worst: (the best x, its least), over x below n -/
def pc_wst (h : Nat → Int32) : Nat → Int32 × Int32
  | 0 => (0, h 0)
  | n + 1 => if (pc_wst h n).2 < h n then (nI n, h n) else pc_wst h n
def pc_room (f : Nat → Int32) (m c : Int32) (u v : Nat) : Nat → Int32
  | 0 => c
  | n + 1 => if pc_bit (nI n) u = pc_bit (nI n) v then pc_room f m c u v n else if f n - m < pc_room f m c u v n then f n - m else pc_room f m c u v n
theorem pc_min1 (f : Nat → Int32) : pc_min f 1 = f 0 := ite_self _
theorem pc_wst1 (h : Nat → Int32) : pc_wst h 1 = (0, h 0) := if_neg Int32.lt_irrefl
/-! numbers -/
theorem pc_tadd {a b : Int32} (h1 : -2000000000 ≤ a.toInt + b.toInt) (h2 : a.toInt + b.toInt ≤ 2000000000) : (a + b).toInt = a.toInt + b.toInt := by
  rw [Int32.toInt_add]
  exact Int.bmod_eq_of_le (by omega) (by omega)
theorem pc_tsub {a b : Int32} (h1 : -2000000000 ≤ a.toInt - b.toInt) (h2 : a.toInt - b.toInt ≤ 2000000000) : (a - b).toInt = a.toInt - b.toInt := by
  rw [Int32.toInt_sub]
  exact Int.bmod_eq_of_le (by omega) (by omega)
theorem pc_tmul {a b : Int32} (h1 : -2000000000 ≤ a.toInt * b.toInt) (h2 : a.toInt * b.toInt ≤ 2000000000) : (a * b).toInt = a.toInt * b.toInt := by
  rw [Int32.toInt_mul]
  exact Int.bmod_eq_of_le (by omega) (by omega)
theorem pc_t0 : (0 : Int32).toInt = 0 := by decide
theorem pc_toN {a : Int32} (h : 0 ≤ a.toInt) : a = nI a.toInt.toNat := by
  have hx := Int32.toInt_lt a
  apply Int32.toInt_inj.mp
  rw [nI_toInt (by omega)]
  omega
theorem pc_pullB {b s : Int32} {x : Nat} (hb : 0 ≤ b.toInt ∧ b.toInt ≤ 40) (hs : -2 ≤ s.toInt ∧ s.toInt ≤ 2) (hx : x ≤ 50) : 0 ≤ (pc_pull b s (nI x)).toInt ∧ (pc_pull b s (nI x)).toInt ≤ 140 := by
  have hn : (nI x).toInt = (x : Int) := nI_toInt (by omega)
  have hp : -100 ≤ s.toInt * (x : Int) ∧ s.toInt * (x : Int) ≤ 100 := by
    have h5 : s.toInt = -2 ∨ s.toInt = -1 ∨ s.toInt = 0 ∨ s.toInt = 1 ∨ s.toInt = 2 := by omega
    rcases h5 with h | h | h | h | h <;> rw [h] <;> omega
  have e1 : (s * nI x).toInt = s.toInt * (x : Int) := by
    rw [pc_tmul (by rw [hn]; omega) (by rw [hn]; omega), hn]
  have e2 : (b + s * nI x).toInt = b.toInt + s.toInt * (x : Int) := by
    rw [pc_tadd (by rw [e1]; omega) (by rw [e1]; omega), e1]
  unfold pc_pull
  by_cases h : b + s * nI x < 0
  · rw [if_pos h, pc_t0]; omega
  · rw [if_neg h]
    rw [Int32.lt_iff_toInt_lt, pc_t0, e2] at h
    rw [e2]; omega
theorem pc_inB {g : Nat → Int32} (hg : ∀ j, 0 ≤ (g j).toInt ∧ (g j).toInt ≤ 20) (s : Int32) (v : Nat) : ∀ n, n ≤ 7 → ∀ a : Int32, 0 ≤ a.toInt → a.toInt ≤ 10000 → 0 ≤ (pc_in g s v n a).toInt ∧ (pc_in g s v n a).toInt ≤ a.toInt + 20 * n := by
  intro n
  induction n with
  | zero => intro _ a h0 h1; exact ⟨h0, by show a.toInt ≤ _; omega⟩
  | succ n ih =>
    intro hn a h0 h1
    have hi := ih (by omega) a h0 h1
    have hj := hg (n * 7 + v)
    unfold pc_in
    by_cases hb : pc_bit s n = pc_bit s v
    · rw [if_pos hb]; omega
    · rw [if_neg hb, pc_tadd (by omega) (by omega)]; omega
theorem pc_outB {g sb ss tb ts : Nat → Int32} (hg : ∀ j, 0 ≤ (g j).toInt ∧ (g j).toInt ≤ 20) (h1 : ∀ j, 0 ≤ (sb j).toInt ∧ (sb j).toInt ≤ 40) (h2 : ∀ j, -2 ≤ (ss j).toInt ∧ (ss j).toInt ≤ 2) (h3 : ∀ j, 0 ≤ (tb j).toInt ∧ (tb j).toInt ≤ 40) (h4 : ∀ j, -2 ≤ (ts j).toInt ∧ (ts j).toInt ≤ 2) (s : Int32) {x : Nat} (hx : x ≤ 50) : ∀ n, n ≤ 7 → 0 ≤ (pc_out g sb ss tb ts s (nI x) n).toInt ∧ (pc_out g sb ss tb ts s (nI x) n).toInt ≤ 280 * n := by
  intro n
  induction n with
  | zero => intro _; exact ⟨by show 0 ≤ (0 : Int32).toInt; rw [pc_t0]; omega, by show (0 : Int32).toInt ≤ _; rw [pc_t0]; omega⟩
  | succ n ih =>
    intro hn
    have hi := ih (by omega)
    have hp : 0 ≤ (pc_at sb ss tb ts s (nI x) n).toInt ∧ (pc_at sb ss tb ts s (nI x) n).toInt ≤ 140 := by
      unfold pc_at
      by_cases hb : pc_bit s n = 0
      · rw [if_pos hb]; exact pc_pullB (h1 n) (h2 n) hx
      · rw [if_neg hb]; exact pc_pullB (h3 n) (h4 n) hx
    have ha := pc_tadd (a := pc_out g sb ss tb ts s (nI x) n) (b := pc_at sb ss tb ts s (nI x) n) (by omega) (by omega)
    have hq := pc_inB hg s n n (by omega) (pc_out g sb ss tb ts s (nI x) n + pc_at sb ss tb ts s (nI x) n) (by omega) (by omega)
    unfold pc_out
    omega
theorem pc_costB {g sb ss tb ts : Nat → Int32} (hg : ∀ j, 0 ≤ (g j).toInt ∧ (g j).toInt ≤ 20) (h1 : ∀ j, 0 ≤ (sb j).toInt ∧ (sb j).toInt ≤ 40) (h2 : ∀ j, -2 ≤ (ss j).toInt ∧ (ss j).toInt ≤ 2) (h3 : ∀ j, 0 ≤ (tb j).toInt ∧ (tb j).toInt ≤ 40) (h4 : ∀ j, -2 ≤ (ts j).toInt ∧ (ts j).toInt ≤ 2) (s : Int32) {x : Nat} (hx : x ≤ 50) : 0 ≤ (pc_cost g sb ss tb ts s (nI x)).toInt ∧ (pc_cost g sb ss tb ts s (nI x)).toInt ≤ 1960 := by
  have h := pc_outB hg h1 h2 h3 h4 s hx 7 (by omega)
  unfold pc_cost
  omega
/-! one cell changed -/
def pc_dl (s : Int32) (a b : Nat) (d : Int32) : Int32 := if pc_bit s a = pc_bit s b then 0 else d
theorem pc_inS (g : Nat → Int32) (s : Int32) (v : Nat) (e : Int32) : ∀ n a, pc_in g s v n (a - e) = pc_in g s v n a - e := by
  intro n
  induction n with
  | zero => intro a; rfl
  | succ n ih =>
    intro a
    unfold pc_in
    rw [ih a]
    by_cases hb : pc_bit s n = pc_bit s v
    · rw [if_pos hb, if_pos hb]
    · rw [if_neg hb, if_neg hb]; grind
theorem pc_inU {g g' : Nat → Int32} {a b : Nat} {d : Int32} (hb : b < 7) (h : ∀ u v, u < v → v < 7 → g' (u * 7 + v) = if u = a ∧ v = b then g (u * 7 + v) - d else g (u * 7 + v)) (s : Int32) (v : Nat) (hv : v < 7) : ∀ n, n ≤ v → ∀ c, pc_in g' s v n c = pc_in g s v n c - (if v = b ∧ a < n then pc_dl s a b d else 0) := by
  intro n
  induction n with
  | zero =>
    intro _ c
    rw [if_neg (by omega)]
    exact (Int32.sub_zero _).symm
  | succ n ih =>
    intro hn c
    have hi := ih (by omega) c
    have hh := h n v (by omega) hv
    unfold pc_in
    rw [hi, hh]
    by_cases e : n = a ∧ v = b
    · obtain ⟨rfl, rfl⟩ := e
      rw [if_neg (show ¬ (v = v ∧ n < n) by omega), if_pos (show v = v ∧ n < n + 1 by omega), if_pos (show n = n ∧ v = v from ⟨rfl, rfl⟩), Int32.sub_zero]
      unfold pc_dl
      by_cases hq : pc_bit s n = pc_bit s v
      · rw [if_pos hq, if_pos hq, if_pos hq, Int32.sub_zero]
      · rw [if_neg hq, if_neg hq, if_neg hq]; grind
    · rw [if_neg e]
      have ei : (if v = b ∧ a < n then pc_dl s a b d else 0) = (if v = b ∧ a < n + 1 then pc_dl s a b d else 0) := by
        by_cases e2 : v = b ∧ a < n
        · rw [if_pos e2, if_pos (by omega)]
        · rw [if_neg e2, if_neg (by omega)]
      rw [ei]
      by_cases hq : pc_bit s n = pc_bit s v
      · rw [if_pos hq, if_pos hq]
      · rw [if_neg hq, if_neg hq]; grind
theorem pc_outU {g g' sb ss tb ts : Nat → Int32} {a b : Nat} {d : Int32} (hab : a < b) (hb : b < 7) (h : ∀ u v, u < v → v < 7 → g' (u * 7 + v) = if u = a ∧ v = b then g (u * 7 + v) - d else g (u * 7 + v)) (s x : Int32) : ∀ n, n ≤ 7 → pc_out g' sb ss tb ts s x n = pc_out g sb ss tb ts s x n - (if b < n then pc_dl s a b d else 0) := by
  intro n
  induction n with
  | zero => intro _; rw [if_neg (by omega)]; exact (Int32.sub_zero _).symm
  | succ n ih =>
    intro hn
    have hi := ih (by omega)
    unfold pc_out
    rw [hi, pc_inU hb h s n (by omega) n (by omega)]
    have e1 : pc_out g sb ss tb ts s x n - (if b < n then pc_dl s a b d else 0) + pc_at sb ss tb ts s x n = (pc_out g sb ss tb ts s x n + pc_at sb ss tb ts s x n) - (if b < n then pc_dl s a b d else 0) := by grind
    rw [e1, pc_inS]
    by_cases e : n = b
    · subst e
      rw [if_neg (show ¬ n < n by omega), if_pos (show n = n ∧ a < n by omega), if_pos (show n < n + 1 by omega), Int32.sub_zero]
    · by_cases e2 : b < n
      · rw [if_pos e2, if_neg (show ¬ (n = b ∧ a < n) by omega), if_pos (show b < n + 1 by omega), Int32.sub_zero]
      · rw [if_neg e2, if_neg (show ¬ (n = b ∧ a < n) by omega), if_neg (show ¬ b < n + 1 by omega), Int32.sub_zero]
theorem pc_costU {g g' sb ss tb ts : Nat → Int32} {a b : Nat} {d : Int32} (hab : a < b) (hb : b < 7) (h : ∀ u v, u < v → v < 7 → g' (u * 7 + v) = if u = a ∧ v = b then g (u * 7 + v) - d else g (u * 7 + v)) (s x : Int32) : pc_cost g' sb ss tb ts s x = pc_cost g sb ss tb ts s x - pc_dl s a b d := by
  unfold pc_cost
  rw [pc_outU hab hb h s x 7 (by omega), if_pos hb]
theorem pc_costE {g g' sb ss tb ts : Nat → Int32} (h : ∀ u v, u < v → v < 7 → g' (u * 7 + v) = g (u * 7 + v)) (s x : Int32) : pc_cost g' sb ss tb ts s x = pc_cost g sb ss tb ts s x := by
  rw [pc_costU (a := 0) (b := 1) (d := 0) (by omega) (by omega) (fun u v h1 h2 => by rw [h u v h1 h2, Int32.sub_zero, ite_self]) s x]
  unfold pc_dl
  rw [ite_self, Int32.sub_zero]
theorem pc_dlC (s : Int32) (a b : Nat) (d : Int32) : pc_dl s a b d = pc_dl s b a d := by
  unfold pc_dl
  by_cases h : pc_bit s a = pc_bit s b
  · rw [if_pos h, if_pos h.symm]
  · rw [if_neg h, if_neg (fun z => h z.symm)]
end
section
/-! the least of a row, the room below it, the masks met -/
theorem pc_minL (f : Nat → Int32) : ∀ n i, i < n → (pc_min f n).toInt ≤ (f i).toInt := by
  intro n
  induction n with
  | zero => intro i h; omega
  | succ n ih =>
    intro i hi
    unfold pc_min
    by_cases h : f n < pc_min f n
    · rw [if_pos h]
      rw [Int32.lt_iff_toInt_lt] at h
      by_cases e : i = n
      · subst e; omega
      · have := ih i (by omega); omega
    · rw [if_neg h]
      rw [Int32.lt_iff_toInt_lt] at h
      by_cases e : i = n
      · subst e; omega
      · exact ih i (by omega)
theorem pc_minE (f : Nat → Int32) : ∀ n, ∃ i, i < n + 1 ∧ pc_min f (n + 1) = f i := by
  intro n
  induction n with
  | zero => exact ⟨0, by omega, pc_min1 f⟩
  | succ n ih =>
    obtain ⟨i, hi, e⟩ := ih
    by_cases h : f (n + 1) < pc_min f (n + 1)
    · exact ⟨n + 1, by omega, if_pos h⟩
    · exact ⟨i, by omega, (if_neg h).trans e⟩
theorem pc_roomB {f : Nat → Int32} {m c : Int32} {u v N : Nat} (hc : 0 ≤ c.toInt ∧ c.toInt ≤ 20) (hf : ∀ i, i < N → 0 ≤ (f i).toInt - m.toInt ∧ (f i).toInt - m.toInt ≤ 2000) : ∀ n, n ≤ N → 0 ≤ (pc_room f m c u v n).toInt ∧ (pc_room f m c u v n).toInt ≤ c.toInt ∧ (∀ i, i < n → ¬ pc_bit (nI i) u = pc_bit (nI i) v → (pc_room f m c u v n).toInt ≤ (f i).toInt - m.toInt) ∧ ((pc_room f m c u v n).toInt = c.toInt ∨ ∃ i, i < n ∧ ¬ pc_bit (nI i) u = pc_bit (nI i) v ∧ (pc_room f m c u v n).toInt = (f i).toInt - m.toInt) := by
  intro n
  induction n with
  | zero =>
    intro _
    exact ⟨hc.1, Int.le_refl _, fun i hi => absurd hi (by omega), Or.inl rfl⟩
  | succ n ih =>
    intro hn
    obtain ⟨i1, i2, i3, i4⟩ := ih (by omega)
    have hfn := hf n (by omega)
    have ht : (f n - m).toInt = (f n).toInt - m.toInt := pc_tsub (by omega) (by omega)
    unfold pc_room
    by_cases hb : pc_bit (nI n) u = pc_bit (nI n) v
    · rw [if_pos hb]
      refine ⟨i1, i2, fun i hi hq => ?_, ?_⟩
      · by_cases e : i = n
        · subst e; exact absurd hb hq
        · exact i3 i (by omega) hq
      · rcases i4 with h | ⟨i, hi, hq, h⟩
        · exact Or.inl h
        · exact Or.inr ⟨i, by omega, hq, h⟩
    · rw [if_neg hb]
      by_cases hl : f n - m < pc_room f m c u v n
      · rw [if_pos hl]
        rw [Int32.lt_iff_toInt_lt, ht] at hl
        rw [ht]
        refine ⟨by omega, by omega, fun i hi hq => ?_, Or.inr ⟨n, by omega, hb, rfl⟩⟩
        by_cases e : i = n
        · subst e; omega
        · have := i3 i (by omega) hq; omega
      · rw [if_neg hl]
        rw [Int32.lt_iff_toInt_lt, ht] at hl
        refine ⟨i1, i2, fun i hi hq => ?_, ?_⟩
        · by_cases e : i = n
          · subst e; omega
          · exact i3 i (by omega) hq
        · rcases i4 with h | ⟨i, hi, hq, h⟩
          · exact Or.inl h
          · exact Or.inr ⟨i, by omega, hq, h⟩
theorem pc_spare {f : Nat → Int32} {c : Int32} (u v : Nat) (hc : 0 ≤ c.toInt ∧ c.toInt ≤ 20) (hf : ∀ i, 0 ≤ (f i).toInt ∧ (f i).toInt ≤ 1960) : ∃ R : Nat, (R : Int) ≤ c.toInt ∧ pc_room f (pc_min f 128) c u v 128 = nI R ∧ ∀ k : Nat, (k : Int) ≤ c.toInt → ∀ f' : Nat → Int32, (∀ i, f' i = f i - pc_dl (nI i) u v (nI k)) → (pc_min f' 128 = pc_min f 128 ↔ k ≤ R) := by
  have hm : ∀ i, i < 128 → (pc_min f 128).toInt ≤ (f i).toInt := pc_minL f 128
  obtain ⟨i0, hi0, e0⟩ : ∃ i, i < 128 ∧ pc_min f 128 = f i := pc_minE f 127
  have e0' : (pc_min f 128).toInt = (f i0).toInt := congrArg Int32.toInt e0
  have h0 := hf i0
  obtain ⟨r1, r2, r3, r4⟩ := pc_roomB (f := f) (m := pc_min f 128) (c := c) (u := u) (v := v) (N := 128) hc (fun i hi => by have := hm i hi; have := hf i; omega) 128 (by omega)
  refine ⟨(pc_room f (pc_min f 128) c u v 128).toInt.toNat, by omega, pc_toN r1, ?_⟩
  intro k hk f' hf'
  have hfk : ∀ i, (f' i).toInt = (f i).toInt - (if pc_bit (nI i) u = pc_bit (nI i) v then 0 else (k : Int)) := by
    intro i
    rw [hf' i]
    unfold pc_dl
    have hi := hf i
    by_cases hb : pc_bit (nI i) u = pc_bit (nI i) v
    · rw [if_pos hb, if_pos hb, Int32.sub_zero]; omega
    · rw [if_neg hb, if_neg hb]
      have hn : (nI k).toInt = (k : Int) := nI_toInt (by omega)
      rw [pc_tsub (by omega) (by omega), hn]
  constructor
  · intro e
    rcases r4 with h | ⟨i, hi, hb, h⟩
    · omega
    · have h2 := pc_minL f' 128 i hi
      rw [e, hfk i, if_neg hb] at h2
      omega
  · intro hkR
    apply Int32.toInt_inj.mp
    obtain ⟨j, hj, ej⟩ : ∃ i, i < 128 ∧ pc_min f' 128 = f' i := pc_minE f' 127
    have a1 := pc_minL f' 128 i0 hi0
    rw [hfk i0] at a1
    have a2 : (pc_min f 128).toInt ≤ (f' j).toInt := by
      rw [hfk j]
      by_cases hb : pc_bit (nI j) u = pc_bit (nI j) v
      · rw [if_pos hb]; have := hm j hj; omega
      · rw [if_neg hb]; have := r3 j hj hb; omega
    have a3 : (pc_min f' 128).toInt = (f' j).toInt := congrArg Int32.toInt ej
    have a5 : (0 : Int) ≤ (if pc_bit (nI i0) u = pc_bit (nI i0) v then 0 else (k : Int)) := by
      by_cases hb : pc_bit (nI i0) u = pc_bit (nI i0) v
      · rw [if_pos hb]; omega
      · rw [if_neg hb]; omega
    omega
def pc_seen (M : Nat → Nat) : Nat → Nat → Bool
  | 0, _ => false
  | n + 1, m => pc_seen M n m || decide (m = M n)
def pc_stg (M : Nat → Nat) : Nat → Int32
  | 0 => 0
  | n + 1 => if pc_seen M n (M n) = false then pc_stg M n + 1 else pc_stg M n
theorem pc_andN (f : Nat → Int32) (m : Int32) : ∀ n, ∃ j, j < 128 ∧ pc_and f m n = nI j := by
  intro n
  induction n with
  | zero => exact ⟨127, by omega, by show (127 : Int32) = nI 127; decide⟩
  | succ n ih =>
    obtain ⟨j, hj, e⟩ := ih
    unfold pc_and
    by_cases h : f n = m
    · rw [if_pos h, e, nx_and]
      exact ⟨j &&& n, Nat.lt_of_le_of_lt Nat.and_le_left hj, rfl⟩
    · rw [if_neg h]; exact ⟨j, hj, e⟩
theorem pc_sh : ∀ l, l < 64 → ((1 : Int64) <<< ((nI l).toInt64 &&& 63)).toBitVec = BitVec.twoPow 64 l := by decide +kernel
theorem pc_tp : ∀ l, l < 64 → BitVec.twoPow 64 l ≠ 0#64 := by decide +kernel
theorem pc_b0 {w m : Int64} {j : Nat} (hj : j < 64) (hm : m.toBitVec = BitVec.twoPow 64 j) : (w &&& m) = 0 ↔ w.toBitVec.getLsbD j = false := by
  rw [← Int64.toBitVec_inj, Int64.toBitVec_and, hm, BitVec.and_twoPow]
  show _ = 0#64 ↔ _
  cases hb : w.toBitVec.getLsbD j
  · exact ⟨fun _ => rfl, fun _ => if_neg (by decide)⟩
  · exact ⟨fun z => absurd ((if_pos rfl).symm.trans z) (pc_tp j hj), fun z => nomatch z⟩
theorem pc_bor {w m : Int64} {j : Nat} (hm : m.toBitVec = BitVec.twoPow 64 j) {i : Nat} (hi : i < 64) : (w ||| m).toBitVec.getLsbD i = (w.toBitVec.getLsbD i || decide (i = j)) := by
  rw [Int64.toBitVec_or, hm, BitVec.getLsbD_or, BitVec.getLsbD_twoPow]
  by_cases e : j = i
  · subst e; simp [hi]
  · have e' : ¬ i = j := fun z => e z.symm
    simp [e, e']
/-- the two long sets of the component hold the masks met before x = n -/
def pc_LH (M : Nat → Nat) (n : Nat) (L H : Int64) : Prop := (∀ i, i < 64 → L.toBitVec.getLsbD i = pc_seen M n i) ∧ (∀ i, i < 64 → H.toBitVec.getLsbD i = pc_seen M n (64 + i))
theorem pc_LH0 (M : Nat → Nat) : pc_LH M 0 0 0 := ⟨fun i _ => BitVec.getLsbD_zero, fun i _ => BitVec.getLsbD_zero⟩
theorem pc_LHl {M : Nat → Nat} {n : Nat} {L H m : Int64} (h : pc_LH M n L H) (hj : M n < 64) (hm : m.toBitVec = BitVec.twoPow 64 (M n)) : ((L &&& m) = 0 ↔ pc_seen M n (M n) = false) ∧ pc_LH M (n + 1) (L ||| m) H := by
  refine ⟨(pc_b0 hj hm).trans (by rw [h.1 _ hj]), fun i hi => ?_, fun i hi => ?_⟩
  · rw [pc_bor hm hi, h.1 i hi]; rfl
  · rw [h.2 i hi]
    show _ = (pc_seen M n (64 + i) || decide (64 + i = M n))
    rw [decide_eq_false (show ¬ 64 + i = M n by omega), Bool.or_false]
theorem pc_LHh {M : Nat → Nat} {n : Nat} {L H m : Int64} (h : pc_LH M n L H) (hj : 64 ≤ M n) (hj2 : M n < 128) (hm : m.toBitVec = BitVec.twoPow 64 (M n - 64)) : ((H &&& m) = 0 ↔ pc_seen M n (M n) = false) ∧ pc_LH M (n + 1) L (H ||| m) := by
  have e : 64 + (M n - 64) = M n := by omega
  refine ⟨(pc_b0 (by omega) hm).trans (by rw [h.2 _ (by omega), e]), fun i hi => ?_, fun i hi => ?_⟩
  · rw [h.1 i hi]
    show _ = (pc_seen M n i || decide (i = M n))
    rw [decide_eq_false (show ¬ i = M n by omega), Bool.or_false]
  · rw [pc_bor hm hi, h.2 i hi]
    show _ = (pc_seen M n (64 + i) || decide (64 + i = M n))
    by_cases z : i = M n - 64
    · rw [decide_eq_true z, decide_eq_true (show 64 + i = M n by omega)]
    · rw [decide_eq_false z, decide_eq_false (show ¬ 64 + i = M n by omega)]
/-- the reference's row of marks holds the masks met before x = n -/
def pc_SN (M : Nat → Nat) (n : Nat) (a : Nat → Int32) : Prop := ∀ m, m < 128 → a m = if pc_seen M n m = false then 0 else 1
theorem pc_SNs {M : Nat → Nat} {n : Nat} {a : Nat → Int32} (h : pc_SN M n a) : pc_SN M (n + 1) (upd a (M n) 1) := by
  intro m hm
  by_cases e : m = M n
  · subst e
    rw [pk_us, if_neg]
    show ¬ (pc_seen M n (M n) || decide (M n = M n)) = false
    rw [decide_eq_true rfl, Bool.or_true]; decide
  · rw [pk_un e, h m hm]
    have e2 : pc_seen M (n + 1) m = pc_seen M n m := by
      show (pc_seen M n m || decide (m = M n)) = _
      rw [decide_eq_false e, Bool.or_false]
    rw [e2]
end
section
/-! the links: one cell a pair in the component, two in the reference -/
def pc_bd (lo hi : Int) (f : Nat → Int32) : Prop := ∀ j, lo ≤ (f j).toInt ∧ (f j).toInt ≤ hi
theorem pc_bdU {lo hi : Int} {f : Nat → Int32} {k : Nat} {w : Int32} (h : pc_bd lo hi f) (hw : lo ≤ w.toInt ∧ w.toInt ≤ hi) : pc_bd lo hi (upd f k w) := by
  intro j
  by_cases e : j = k
  · subst e; rw [pk_us]; exact hw
  · rw [pk_un e]; exact h j
theorem pc_bd0 {lo hi : Int} (h1 : lo ≤ 0) (h2 : 0 ≤ hi) : pc_bd lo hi (fun _ => 0) := fun _ => by
  show lo ≤ (0 : Int32).toInt ∧ (0 : Int32).toInt ≤ hi
  rw [pc_t0]; exact ⟨h1, h2⟩
def pc_P (sb ss tb ts : Nat → Int32) : Prop := pc_bd 0 40 sb ∧ pc_bd (-2) 2 ss ∧ pc_bd 0 40 tb ∧ pc_bd (-2) 2 ts
def pc_R (c g : Nat → Int32) : Prop := pc_bd 0 20 g ∧ (∀ a b, a < 7 → b < 7 → g (a * 7 + b) = g (b * 7 + a)) ∧ (∀ a b, a < b → b < 7 → c (a * 7 + b) = g (a * 7 + b))
def pc_cell (u v : Nat) : Nat := if u < v then u * 7 + v else v * 7 + u
theorem pc_cellB {u v : Nat} (hu : u < 7) (hv : v < 7) : pc_cell u v < 49 := by
  unfold pc_cell
  by_cases h : u < v
  · rw [if_pos h]; omega
  · rw [if_neg h]; omega
theorem pc_Rold {c g : Nat → Int32} (h : pc_R c g) {u v : Nat} (hu : u < 7) (hv : v < 7) (hne : u ≠ v) : c (pc_cell u v) = g (u * 7 + v) := by
  unfold pc_cell
  by_cases e : u < v
  · rw [if_pos e]; exact h.2.2 u v e hv
  · rw [if_neg e, h.2.2 v u (by omega) hu]; exact h.2.1 v u hv hu
def pc_two (g : Nat → Int32) (u v : Nat) (w : Int32) : Nat → Int32 := upd (upd g (u * 7 + v) w) (v * 7 + u) w
theorem pc_twoI {g : Nat → Int32} {u v : Nat} {w : Int32} (hu : u < 7) (hv : v < 7) {a b : Nat} (ha : a < 7) (hb : b < 7) (h : (a = u ∧ b = v) ∨ (a = v ∧ b = u)) : pc_two g u v w (a * 7 + b) = w := by
  unfold pc_two
  rcases h with ⟨rfl, rfl⟩ | ⟨rfl, rfl⟩
  · by_cases e : a * 7 + b = b * 7 + a
    · rw [e, pk_us]
    · rw [pk_un e, pk_us]
  · exact pk_us
theorem pc_twoN {g : Nat → Int32} {u v : Nat} {w : Int32} (hu : u < 7) (hv : v < 7) {a b : Nat} (ha : a < 7) (hb : b < 7) (h : ¬ ((a = u ∧ b = v) ∨ (a = v ∧ b = u))) : pc_two g u v w (a * 7 + b) = g (a * 7 + b) := by
  unfold pc_two
  rw [pk_un (by omega), pk_un (by omega)]
theorem pc_Rlink {c g : Nat → Int32} (h : pc_R c g) {u v : Nat} (hu : u < 7) (hv : v < 7) (hne : u ≠ v) {w : Int32} (hw : 0 ≤ w.toInt ∧ w.toInt ≤ 20) : pc_R (upd c (pc_cell u v) w) (pc_two g u v w) := by
  refine ⟨pc_bdU (pc_bdU h.1 hw) hw, fun a b ha hb => ?_, fun a b hab hb => ?_⟩
  · by_cases e : (a = u ∧ b = v) ∨ (a = v ∧ b = u)
    · rw [pc_twoI hu hv ha hb e, pc_twoI hu hv hb ha (by omega)]
    · rw [pc_twoN hu hv ha hb e, pc_twoN hu hv hb ha (by omega)]
      exact h.2.1 a b ha hb
  · by_cases e : (a = u ∧ b = v) ∨ (a = v ∧ b = u)
    · rw [pc_twoI hu hv (by omega) hb e]
      have ec : a * 7 + b = pc_cell u v := by
        unfold pc_cell
        by_cases e2 : u < v
        · rw [if_pos e2]; omega
        · rw [if_neg e2]; omega
      rw [ec, pk_us]
    · rw [pc_twoN hu hv (by omega) hb e]
      have ec : a * 7 + b ≠ pc_cell u v := by
        unfold pc_cell
        by_cases e2 : u < v
        · rw [if_pos e2]; omega
        · rw [if_neg e2]; omega
      rw [pk_un ec]
      exact h.2.2 a b hab hb
/-- g' is g but for the two cells of the pair u, v -/
def pc_off (g g' : Nat → Int32) (u v : Nat) : Prop := pc_bd 0 20 g' ∧ ∀ a b, a < 7 → b < 7 → ¬ ((a = u ∧ b = v) ∨ (a = v ∧ b = u)) → g' (a * 7 + b) = g (a * 7 + b)
theorem pc_offU {g g' : Nat → Int32} {u v : Nat} (hu : u < 7) (hv : v < 7) (h : pc_off g g' u v) {w : Int32} (hw : 0 ≤ w.toInt ∧ w.toInt ≤ 20) : pc_off g (pc_two g' u v w) u v :=
  ⟨pc_bdU (pc_bdU h.1 hw) hw, fun a b ha hb e => by rw [pc_twoN hu hv ha hb e]; exact h.2 a b ha hb e⟩
/-- the cost with the pair's capacity k less -/
theorem pc_offC {g g' sb ss tb ts : Nat → Int32} {u v : Nat} (hu : u < 7) (hv : v < 7) (hne : u ≠ v) (hs : ∀ a b, a < 7 → b < 7 → g (a * 7 + b) = g (b * 7 + a)) (h : pc_off g g' u v) {d : Int32} (s x : Int32) : pc_cost (pc_two g' u v (g (u * 7 + v) - d)) sb ss tb ts s x = pc_cost g sb ss tb ts s x - pc_dl s u v d := by
  by_cases e : u < v
  · refine pc_costU e hv (fun a b hab hb => ?_) s x
    by_cases e2 : a = u ∧ b = v
    · rw [if_pos e2, pc_twoI hu hv (by omega) hb (Or.inl e2), e2.1, e2.2]
    · rw [if_neg e2, pc_twoN hu hv (by omega) hb (by omega)]
      exact h.2 a b (by omega) hb (by omega)
  · rw [pc_dlC]
    refine pc_costU (show v < u by omega) hu (fun a b hab hb => ?_) s x
    by_cases e2 : a = v ∧ b = u
    · rw [if_pos e2, pc_twoI hu hv (by omega) hb (Or.inr e2), e2.1, e2.2, hs v u hv hu]
    · rw [if_neg e2, pc_twoN hu hv (by omega) hb (by omega)]
      exact h.2 a b (by omega) hb (by omega)
theorem pc_offR {c g g' : Nat → Int32} {u v : Nat} (hu : u < 7) (hv : v < 7) (hR : pc_R c g) (h : pc_off g g' u v) : pc_R c (pc_two g' u v (g (u * 7 + v))) := by
  have E : ∀ a b, a < 7 → b < 7 → pc_two g' u v (g (u * 7 + v)) (a * 7 + b) = g (a * 7 + b) := by
    intro a b ha hb
    by_cases e : (a = u ∧ b = v) ∨ (a = v ∧ b = u)
    · rw [pc_twoI hu hv ha hb e]
      rcases e with ⟨rfl, rfl⟩ | ⟨rfl, rfl⟩
      · rfl
      · exact hR.2.1 b a hb ha
    · rw [pc_twoN hu hv ha hb e]; exact h.2 a b ha hb e
  refine ⟨pc_bdU (pc_bdU h.1 (hR.1 _)) (hR.1 _), fun a b ha hb => ?_, fun a b hab hb => ?_⟩
  · rw [E a b ha hb, E b a hb ha]; exact hR.2.1 a b ha hb
  · rw [E a b (by omega) hb]; exact hR.2.2 a b hab hb
/-- both sides reckon the same cost -/
theorem pc_Rcost {c g : Nat → Int32} (h : pc_R c g) (sb ss tb ts : Nat → Int32) (s x : Int32) : pc_cost c sb ss tb ts s x = pc_cost g sb ss tb ts s x := pc_costE h.2.2 s x
/-! flip -/
def pc_mix (n : Nat) (a b : Nat → Int32) : Nat → Int32 := fun j => if j < n then a j else b j
theorem pc_mix0 (a b : Nat → Int32) : pc_mix 0 a b = b := funext fun j => if_neg (by omega)
theorem pc_mixS (n : Nat) (a b : Nat → Int32) : upd (pc_mix n a b) n (a n) = pc_mix (n + 1) a b := by
  funext j
  show (if j = n then a n else if j < n then a j else b j) = if j < n + 1 then a j else b j
  by_cases e : j = n
  · subst e; rw [if_pos rfl, if_pos (by omega)]
  · by_cases e2 : j < n
    · rw [if_neg e, if_pos e2, if_pos (by omega)]
    · rw [if_neg e, if_neg e2, if_neg (by omega)]
theorem pc_mixN (n : Nat) (a b : Nat → Int32) : pc_mix n a b n = b n := if_neg (by omega)
theorem pc_mixB {lo hi : Int} {a b : Nat → Int32} (n : Nat) (ha : pc_bd lo hi a) (hb : pc_bd lo hi b) : pc_bd lo hi (pc_mix n a b) := by
  intro j
  unfold pc_mix
  by_cases e : j < n
  · rw [if_pos e]; exact ha j
  · rw [if_neg e]; exact hb j
end
section
/-! the component's walks, each with a general post -/
theorem pc_10 : ¬ (1 : Int32) = 0 := by decide
theorem pc_ix (a b : Nat) : nI a * 7 + nI b = nI (a * 7 + b) := by
  rw [show (7 : Int32) = nI 7 from rfl, pk_mul, nI_add]
theorem pc_pull0 {b s x : Int32} (h : b + s * x ≤ 0) : pc_pull b s x = 0 := by
  unfold pc_pull
  by_cases e : b + s * x < 0
  · rw [if_pos e]
  · rw [if_neg e]; exact Int32.le_antisymm h (Int32.not_lt.mp e)
theorem pc_pullP {b s x : Int32} (h : 0 ≤ b + s * x) : pc_pull b s x = b + s * x := if_neg (Int32.not_lt.mpr h)
theorem xw_isOn {post : Int32 → Prop} {s : Int32} {v : Nat} (h : post (pc_bit s v)) : wpX_isOn post s (nI v) :=
  br_c (fun e => by have e' : pc_bit s v = 1 := e; rw [e'] at h; exact h) (fun e => by have e' : pc_bit s v = 0 := pc_n1 e; rw [e'] at h; exact h)
theorem xw_pull {post : Int32 → Prop} {b s x : Int32} (h : post (pc_pull b s x)) : wpX_pullAt post b s x := by
  unfold wpX_pullAt
  refine nm_e (br_c (fun e => ?_) (fun e => ?_))
  · rw [pc_pullP e] at h; exact h
  · rw [pc_pull0 (Int32.le_of_lt (Int32.not_le.mp e))] at h; exact h
theorem xw_cell {post : Int32 → Prop} {u v : Nat} (hu : u < 7) (hv : v < 7) (h : post (nI (pc_cell u v))) : wpX_linkCell post (nI u) (nI v) := by
  unfold wpX_linkCell
  unfold pc_cell at h
  refine pk_le v u (fun e => ?_) (fun e => ?_)
  · rw [pc_ix]; rw [if_neg (by omega)] at h; exact h
  · rw [pc_ix]; rw [if_pos e] at h; exact h
theorem xw_in {post : Int32 → Prop} {J : Int32 → Int32 → Prop} {c sb ss tb ts : Nat → Int32} {s x : Int32} {v : Nat} (hv : v < 7) (a : Int32) (h : J (pc_in c s v v a) (nI (v + 1))) : ∃ n : Nat, wX_costOf_73 post J s x (nI v) (pc_bit s v) c sb ss tb ts n a 0 := by
  refine loop_0 (fun n i y => wX_costOf_73 post J s x (nI v) (pc_bit s v) c sb ss tb ts n y (nI i)) (fun i y => y = pc_in c s v i a) v a rfl ?_ ?_
  · rintro n y rfl
    exact br_t (nI_le (Nat.le_refl v) (by omega)) (nm_r (nI_1 v) h)
  · rintro n i y hi rfl hk
    refine br_f (nI_ge hi (by omega)) (xw_isOn ?_)
    refine br_c (fun e => nm_r (nI_1 i) (hk _ (if_pos e).symm)) (fun e => xw_cell (by omega) hv ⟨vp_in_nI (pc_cellB (by omega) hv) (by omega), nm_r (e' := pc_in c s v (i + 1) a) ?_ (nm_r (nI_1 i) (hk _ rfl))⟩)
    have h1 : pc_cell i v = i * 7 + v := if_pos hi
    rw [nI_clamp (Nat.lt_of_lt_of_le (pc_cellB (show i < 7 by omega) hv) (by decide)), h1]
    exact (if_neg e).symm
theorem xw_cost {post : Int32 → Prop} {c sb ss tb ts : Nat → Int32} {s x : Int32} (h : post (pc_cost c sb ss tb ts s x)) : wpX_costOf post (c, sb, ss, tb, ts) s x := by
  unfold wpX_costOf
  dsimp only
  refine loop_0 (fun n i y => wX_costOf_5 post s x c sb ss tb ts n y (nI i)) (fun i y => y = pc_out c sb ss tb ts s x i) 7 0 rfl ?_ ?_
  · intro n y hy
    refine br_t (nI_le (b := 7) (Nat.le_refl 7) (by decide)) ?_
    rw [show y = _ from hy]
    exact h
  · rintro n v y hv rfl hk
    have hi : vp_in (nI v) 7 := vp_in_nI hv (by decide)
    have K : ∃ n73 : Nat, wX_costOf_73 post (wX_costOf_5 post s x c sb ss tb ts n) s x (nI v) (pc_bit s v) c sb ss tb ts n73 (pc_out c sb ss tb ts s x v + pc_at sb ss tb ts s x v) 0 := xw_in hv _ (hk _ rfl)
    refine br_f (nI_ge (b := 7) hv (by decide)) (xw_isOn ?_)
    refine br_c (fun e => ⟨hi, hi, xw_pull (nm_r ?_ K)⟩) (fun e => ⟨hi, hi, xw_pull (nm_r ?_ K)⟩)
    · rw [nI_clamp (by omega)]; unfold pc_at; rw [if_pos e]
    · rw [nI_clamp (by omega)]; unfold pc_at; rw [if_neg e]
theorem xw_least {post : Int32 → Prop} {c sb ss tb ts : Nat → Int32} {x : Int32} (h : post (pc_least c sb ss tb ts x)) : wpX_leastCost post (c, sb, ss, tb, ts) x := by
  unfold wpX_leastCost
  dsimp only
  refine xw_cost ?_
  refine pk_loop (fun n i y => wX_leastCost_9 post x c sb ss tb ts n y (nI i)) (fun i y => y = pc_min (fun i => pc_cost c sb ss tb ts (nI i) x) i) 128 1 (pc_cost c sb ss tb ts 0 x) (by omega) (pc_min1 (fun i => pc_cost c sb ss tb ts (nI i) x)).symm ?_ ?_
  · intro n y hy
    refine br_t (nI_le (b := 128) (Nat.le_refl 128) (by decide)) ?_
    rw [show y = _ from hy]
    exact h
  · rintro n i y hi rfl hk
    refine br_f (nI_ge (b := 128) hi (by decide)) (xw_cost ?_)
    exact br_c (fun e => nm_r (nI_1 i) (hk _ (if_neg (Int32.not_lt.mpr e)).symm)) (fun e => nm_r (nI_1 i) (hk _ (if_pos (Int32.not_le.mp e)).symm))
theorem xw_common {post : Int32 → Prop} {c sb ss tb ts : Nat → Int32} {x r : Int32} (e : pc_always c sb ss tb ts x = r) (h : post r) : wpX_commonNodes post (c, sb, ss, tb, ts) x := by
  subst e
  unfold wpX_commonNodes
  dsimp only
  refine xw_least ?_
  refine loop_0 (fun n i y => wX_commonNodes_12 post x (pc_least c sb ss tb ts x) c sb ss tb ts n y (nI i)) (fun i y => y = pc_and (fun i => pc_cost c sb ss tb ts (nI i) x) (pc_least c sb ss tb ts x) i) 128 127 rfl ?_ ?_
  · intro n y hy
    refine br_t (nI_le (b := 128) (Nat.le_refl 128) (by decide)) ?_
    rw [show y = _ from hy]
    exact h
  · rintro n i y hi rfl hk
    refine br_f (nI_ge (b := 128) hi (by decide)) (xw_cost ?_)
    exact br_c (fun e => nm_e (nm_r (nI_1 i) (hk _ (if_pos e).symm))) (fun e => nm_r (nI_1 i) (hk _ (if_neg e).symm))
theorem xw_everL {post : Int32 → Prop} {c sb ss tb ts : Nat → Int32} {x : Int32} (h : post (pc_ever c sb ss tb ts x)) : ∃ n : Nat, wX_ever_21 post x (pc_least c sb ss tb ts x) c sb ss tb ts n 0 0 := by
  refine loop_0 (fun n i y => wX_ever_21 post x (pc_least c sb ss tb ts x) c sb ss tb ts n y (nI i)) (fun i y => y = pc_or (fun i => pc_cost c sb ss tb ts (nI i) x) (pc_least c sb ss tb ts x) i) 128 0 rfl ?_ ?_
  · intro n y hy
    refine br_t (nI_le (b := 128) (Nat.le_refl 128) (by decide)) ?_
    rw [show y = _ from hy]
    exact h
  · rintro n i y hi rfl hk
    refine br_f (nI_ge (b := 128) hi (by decide)) (xw_cost ?_)
    exact br_c (fun e => nm_e (nm_r (nI_1 i) (hk _ (if_pos e).symm))) (fun e => nm_r (nI_1 i) (hk _ (if_neg e).symm))
theorem xw_tiesL {post : Int32 → Prop} {c sb ss tb ts : Nat → Int32} {x : Int32} (h : post (pc_ties c sb ss tb ts x)) : ∃ n : Nat, wX_ties_21 post x (pc_least c sb ss tb ts x) c sb ss tb ts n 0 0 := by
  refine loop_0 (fun n i y => wX_ties_21 post x (pc_least c sb ss tb ts x) c sb ss tb ts n y (nI i)) (fun i y => y = pc_cnt (fun i => pc_cost c sb ss tb ts (nI i) x) (pc_least c sb ss tb ts x) i) 128 0 rfl ?_ ?_
  · intro n y hy
    refine br_t (nI_le (b := 128) (Nat.le_refl 128) (by decide)) ?_
    rw [show y = _ from hy]
    exact h
  · rintro n i y hi rfl hk
    refine br_f (nI_ge (b := 128) hi (by decide)) (xw_cost ?_)
    exact br_c (fun e => nm_e (nm_r (nI_1 i) (hk _ (if_pos e).symm))) (fun e => nm_r (nI_1 i) (hk _ (if_neg e).symm))
theorem xw_flip {post : SX → Prop} {c sb ss tb ts : Nat → Int32} (h : post (c, pc_mix 7 tb sb, pc_mix 7 ts ss, pc_mix 7 sb tb, pc_mix 7 ss ts)) : ∀ d i, i + d = 7 → wX_flip_2 post (d + 1) (nI i) c (pc_mix i tb sb) (pc_mix i ts ss) (pc_mix i sb tb) (pc_mix i ss ts) := by
  intro d
  induction d with
  | zero =>
    intro i hi
    obtain rfl : i = 7 := by omega
    exact br_t (nI_le (b := 7) (Nat.le_refl 7) (by decide)) h
  | succ d ih =>
    intro i hi
    have hv : vp_in (nI i) 7 := vp_in_nI (by omega) (by decide)
    have hn : (nI i).toNatClampNeg = i := nI_clamp (by omega)
    refine br_f (nI_ge (b := 7) (by omega) (by decide)) ⟨hv, nm_r (e' := sb i) ?_ ⟨hv, nm_r (e' := ss i) ?_ ⟨hv, hv, nm_r (e' := pc_mix (i + 1) tb sb) ?_ ⟨hv, hv, nm_r (e' := pc_mix (i + 1) ts ss) ?_ ⟨hv, nm_r (e' := pc_mix (i + 1) sb tb) ?_ ⟨hv, nm_r (e' := pc_mix (i + 1) ss ts) ?_ (nm_r (nI_1 i) (ih (i + 1) (by omega)))⟩⟩⟩⟩⟩⟩
    · rw [hn, pc_mixN]
    · rw [hn, pc_mixN]
    · rw [hn, pc_mixN, pc_mixS]
    · rw [hn, pc_mixN, pc_mixS]
    · rw [hn, pc_mixS]
    · rw [hn, pc_mixS]
def pc_M (g sb ss tb ts : Nat → Int32) (i : Nat) : Nat := (pc_always g sb ss tb ts (nI i)).toInt.toNat
theorem pc_MB (g sb ss tb ts : Nat → Int32) (i : Nat) : pc_M g sb ss tb ts i < 128 ∧ pc_always g sb ss tb ts (nI i) = nI (pc_M g sb ss tb ts i) := by
  obtain ⟨j, hj, e⟩ := pc_andN (fun k => pc_cost g sb ss tb ts (nI k) (nI i)) (pc_least g sb ss tb ts (nI i)) 128
  have e2 : pc_always g sb ss tb ts (nI i) = nI j := e
  have e3 : pc_M g sb ss tb ts i = j := by
    unfold pc_M
    rw [e2, nI_toInt (by omega)]
    omega
  rw [e3]
  exact ⟨hj, e2⟩
theorem xw_stagesL {post : Int32 → Prop} {c sb ss tb ts : Nat → Int32} (h : post (pc_stg (pc_M c sb ss tb ts) 51)) : ∀ d i L H, i + d = 51 → pc_LH (pc_M c sb ss tb ts) i L H → wX_stages_10 post c sb ss tb ts (d + 1) L H (pc_stg (pc_M c sb ss tb ts) i) (nI i) := by
  intro d
  induction d with
  | zero =>
    intro i L H hi _
    obtain rfl : i = 51 := by omega
    exact br_t (nI_lt (a := 50) (b := 51) (by omega) (by decide)) h
  | succ d ih =>
    intro i L H hi hLH
    obtain ⟨hM, eM⟩ := pc_MB c sb ss tb ts i
    refine br_f (nI_nlt (a := 50) (b := i) (by omega) (by decide)) (xw_common eM ?_)
    refine pk_le 64 (pc_M c sb ss tb ts i) (fun e => ?_) (fun e => ?_)
    · refine br_t rfl (fun m em => br_t rfl ?_)
      have hm : m.toBitVec = BitVec.twoPow 64 (pc_M c sb ss tb ts i - 64) := by
        rw [em, show (64 : Int32) = nI 64 from rfl, pk_sub e]
        exact pc_sh _ (by omega)
      obtain ⟨hz, hL⟩ := pc_LHh hLH e hM hm
      have K : ∀ t, t = pc_stg (pc_M c sb ss tb ts) (i + 1) → wX_stages_83 post (wX_stages_10 post c sb ss tb ts (d + 1)) L H t (nI i) 0 m c sb ss tb ts := by
        rintro t rfl
        exact br_t rfl (nm_e (nm_r (nI_1 i) (ih (i + 1) L (H ||| m) (by omega) hL)))
      exact br_c (fun z => nm_e (K _ (if_pos (hz.mp z)).symm)) (fun z => K _ (if_neg (fun y => z (hz.mpr y))).symm)
    · refine br_f pc_10 (fun m em => br_f pc_10 ?_)
      have hm : m.toBitVec = BitVec.twoPow 64 (pc_M c sb ss tb ts i) := by
        rw [em]
        exact pc_sh _ e
      obtain ⟨hz, hL⟩ := pc_LHl hLH e hm
      have K : ∀ t, t = pc_stg (pc_M c sb ss tb ts) (i + 1) → wX_stages_83 post (wX_stages_10 post c sb ss tb ts (d + 1)) L H t (nI i) 1 m c sb ss tb ts := by
        rintro t rfl
        exact br_f pc_10 (nm_e (nm_r (nI_1 i) (ih (i + 1) (L ||| m) H (by omega) hL)))
      exact br_c (fun z => nm_e (K _ (if_pos (hz.mp z)).symm)) (fun z => K _ (if_neg (fun y => z (hz.mpr y))).symm)
theorem xw_stages {post : Int32 → Prop} {c sb ss tb ts : Nat → Int32} (h : post (pc_stg (pc_M c sb ss tb ts) 51)) : wpX_stages post (c, sb, ss, tb, ts) := by
  unfold wpX_stages
  dsimp only
  exact ⟨52, xw_stagesL h 51 0 0 0 (by omega) (pc_LH0 _)⟩
def pc_worst (g sb ss tb ts : Nat → Int32) : Int32 := (pc_wst (fun i => pc_least g sb ss tb ts (nI i)) 51).1
theorem xw_worstL {post : Int32 → Prop} {c sb ss tb ts : Nat → Int32} (h : post (pc_worst c sb ss tb ts)) : ∀ d i, i + d = 51 → wX_worst_10 post c sb ss tb ts (d + 1) (pc_wst (fun i => pc_least c sb ss tb ts (nI i)) i).1 (pc_wst (fun i => pc_least c sb ss tb ts (nI i)) i).2 (nI i) := by
  intro d
  induction d with
  | zero =>
    intro i hi
    obtain rfl : i = 51 := by omega
    exact br_t (nI_lt (a := 50) (b := 51) (by omega) (by decide)) h
  | succ d ih =>
    intro i hi
    have K := ih (i + 1) (by omega)
    refine br_f (nI_nlt (a := 50) (b := i) (by omega) (by decide)) (xw_least (br_c (fun e => nm_r (nI_1 i) ?_) (fun e => nm_r (nI_1 i) ?_)))
    · rw [show pc_wst (fun i => pc_least c sb ss tb ts (nI i)) (i + 1) = pc_wst (fun i => pc_least c sb ss tb ts (nI i)) i from if_neg (Int32.not_lt.mpr e)] at K
      exact K
    · rw [show pc_wst (fun i => pc_least c sb ss tb ts (nI i)) (i + 1) = (nI i, pc_least c sb ss tb ts (nI i)) from if_pos (Int32.not_le.mp e)] at K
      dsimp only at K
      exact K
theorem xw_worst {post : Int32 → Prop} {c sb ss tb ts : Nat → Int32} (h : post (pc_worst c sb ss tb ts)) : wpX_worst post (c, sb, ss, tb, ts) := by
  unfold wpX_worst
  dsimp only
  refine xw_least ⟨51, ?_⟩
  have K := xw_worstL h 50 1 (by omega)
  rw [pc_wst1] at K
  dsimp only at K
  rw [nI_0] at K
  exact K
theorem xw_spareL {post : Int32 → Prop} {c sb ss tb ts : Nat → Int32} {x m r : Int32} {u v : Nat} (hu : u < 7) (hv : v < 7) (h : post (pc_room (fun i => pc_cost c sb ss tb ts (nI i) x) m r u v 128)) : ∃ n : Nat, wX_spare_42 post (nI u) (nI v) x m c sb ss tb ts n r 0 := by
  refine loop_0 (fun n i y => wX_spare_42 post (nI u) (nI v) x m c sb ss tb ts n y (nI i)) (fun i y => y = pc_room (fun i => pc_cost c sb ss tb ts (nI i) x) m r u v i) 128 r rfl ?_ ?_
  · intro n y hy
    refine br_t (nI_le (b := 128) (Nat.le_refl 128) (by decide)) ?_
    rw [show y = _ from hy]
    exact h
  · rintro n i y hi rfl hk
    refine br_f (nI_ge (b := 128) hi (by decide)) (xw_isOn (xw_isOn ?_))
    refine br_c (fun e => nm_r (nI_1 i) (hk _ (if_pos e).symm)) (fun e => xw_cost (nm_e ?_))
    exact br_c (fun z => nm_r (nI_1 i) (hk _ ((if_neg e).trans (if_neg (Int32.not_lt.mpr z))).symm)) (fun z => nm_r (nI_1 i) (hk _ ((if_neg e).trans (if_pos (Int32.not_le.mp z))).symm))
def pc_sep (f : Nat → Int32) (m : Int32) (u v : Nat) : Nat → Nat → Int32
  | 0, _ => 0
  | d + 1, i => if pc_bit (nI i) u = 0 then pc_sep f m u v d (i + 1) else if pc_bit (nI i) v = 0 then (if f i = m then 1 else pc_sep f m u v d (i + 1)) else pc_sep f m u v d (i + 1)
theorem xw_sepL {post : Int32 → Prop} {c sb ss tb ts : Nat → Int32} {x m : Int32} {u v : Nat} : ∀ d i, i + d = 128 → post (pc_sep (fun i => pc_cost c sb ss tb ts (nI i) x) m u v d i) → wX_separates_27 post (nI u) (nI v) x m c sb ss tb ts (d + 1) (nI i) := by
  intro d
  induction d with
  | zero =>
    intro i hi h
    obtain rfl : i = 128 := by omega
    exact br_t (nI_le (b := 128) (Nat.le_refl 128) (by decide)) h
  | succ d ih =>
    intro i hi h
    unfold pc_sep at h
    refine br_f (nI_ge (b := 128) (by omega) (by decide)) (xw_isOn (br_c (fun e => nm_r (nI_1 i) (ih (i + 1) (by omega) ?_)) (fun e => xw_isOn (br_c (fun e2 => xw_cost (br_c (fun e3 => ?_) (fun e3 => nm_r (nI_1 i) (ih (i + 1) (by omega) ?_)))) (fun e2 => nm_r (nI_1 i) (ih (i + 1) (by omega) ?_))))))
    · rw [if_pos e] at h; exact h
    · rw [if_neg e, if_pos e2, if_pos e3] at h; exact h
    · rw [if_neg e, if_pos e2, if_neg e3] at h; exact h
    · rw [if_neg e, if_neg e2] at h; exact h
end
section
/-! the reference's walks, each with a general post -/
theorem yw_num {post : Int32 → Prop} {g sb ss tb ts sn : Nat → Int32} {j : Nat} (hj : j ≤ 50) (h : post 1) : wpY_isNumber post (g, sb, ss, tb, ts, sn) (nI j) :=
  br_f (nI_pos (by omega)) (br_f (nI_nlt (a := 50) (b := j) hj (by decide)) h)
theorem yw_node {post : Int32 → Prop} {g sb ss tb ts sn : Nat → Int32} {j : Nat} (hj : j < 7) (h : post 1) : wpY_isNode post (g, sb, ss, tb, ts, sn) (nI j) :=
  br_f (nI_pos (by omega)) (br_f (nI_ge (b := 7) hj (by decide)) h)
theorem yw_in {post : Int32 → Prop} {J : Int32 → Int32 → Prop} {g sb ss tb ts sn : Nat → Int32} {s x : Int32} {v : Nat} (hv : v < 7) (a : Int32) (h : J (pc_in g s v v a) (nI (v + 1))) : ∃ n : Nat, wY_price_85 post J s x (nI v) g sb ss tb ts sn n a 0 := by
  refine loop_0 (fun n i y => wY_price_85 post J s x (nI v) g sb ss tb ts sn n y (nI i)) (fun i y => y = pc_in g s v i a) v a rfl ?_ ?_
  · rintro n y rfl
    exact br_t (nI_le (Nat.le_refl v) (by omega)) (nm_r (nI_1 v) h)
  · rintro n i y hi rfl hk
    have hx : nI i * 7 + nI v = nI (i * 7 + v) := pc_ix i v
    refine br_f (nI_ge hi (by omega)) (br_c (fun e => nm_r (nI_1 i) (hk _ (if_pos e).symm)) (fun e => ⟨?_, nm_r (e' := pc_in g s v (i + 1) a) ?_ (nm_r (nI_1 i) (hk _ rfl))⟩))
    · rw [hx]; exact vp_in_nI (by omega) (by decide)
    · rw [hx, nI_clamp (by omega)]
      exact (if_neg e).symm
theorem yw_70 {post : Int32 → Prop} {J : Int32 → Int32 → Prop} {g sb ss tb ts sn : Nat → Int32} {s x a b t : Int32} {v : Nat} (K : ∃ n85 : Nat, wY_price_85 post J s x (nI v) g sb ss tb ts sn n85 (a + pc_pull b t x) 0) : wY_price_70 post J s x a (nI v) (b + t * x) g sb ss tb ts sn := by
  refine br_c (fun e => ?_) (fun e => nm_r (e' := a + pc_pull b t x) ?_ K)
  · rw [pc_pull0 e, Int32.add_zero] at K; exact K
  · rw [pc_pullP (Int32.le_of_lt (Int32.not_le.mp e))]
theorem yw_price {post : Int32 → Prop} {g sb ss tb ts sn : Nat → Int32} {s x : Int32} (h : post (pc_cost g sb ss tb ts s x)) : wpY_price post (g, sb, ss, tb, ts, sn) s x := by
  unfold wpY_price
  dsimp only
  refine loop_0 (fun n i y => wY_price_5 post s x g sb ss tb ts sn n y (nI i)) (fun i y => y = pc_out g sb ss tb ts s x i) 7 0 rfl ?_ ?_
  · intro n y hy
    refine br_t (nI_le (b := 7) (Nat.le_refl 7) (by decide)) ?_
    rw [show y = _ from hy]
    exact h
  · rintro n v y hv rfl hk
    have hi : vp_in (nI v) 7 := vp_in_nI hv (by decide)
    have hn : (nI v).toNatClampNeg = v := nI_clamp (by omega)
    have K : ∃ n85 : Nat, wY_price_85 post (wY_price_5 post s x g sb ss tb ts sn n) s x (nI v) g sb ss tb ts sn n85 (pc_out g sb ss tb ts s x v + pc_at sb ss tb ts s x v) 0 := yw_in hv _ (hk _ rfl)
    refine br_f (nI_ge (b := 7) hv (by decide)) (br_c (fun e => br_t rfl ⟨hi, hi, yw_70 ?_⟩) (fun e => br_f pc_10 ⟨hi, hi, yw_70 ?_⟩))
    · have ea : pc_at sb ss tb ts s x v = pc_pull (sb v) (ss v) x := if_pos e
      rw [hn, ← ea]; exact K
    · have ea : pc_at sb ss tb ts s x v = pc_pull (tb v) (ts v) x := if_neg e
      rw [hn, ← ea]; exact K
theorem yw_least {post : Int32 → Prop} {g sb ss tb ts sn : Nat → Int32} {j : Nat} (hj : j ≤ 50) (h : post (pc_least g sb ss tb ts (nI j))) : wpY_least post (g, sb, ss, tb, ts, sn) (nI j) := by
  unfold wpY_least
  dsimp only
  refine yw_num hj (br_f pc_10 (yw_price ?_))
  refine pk_loop (fun n i y => wY_least_20 post (nI j) g sb ss tb ts sn n y (nI i)) (fun i y => y = pc_min (fun i => pc_cost g sb ss tb ts (nI i) (nI j)) i) 128 1 (pc_cost g sb ss tb ts 0 (nI j)) (by omega) (pc_min1 (fun i => pc_cost g sb ss tb ts (nI i) (nI j))).symm ?_ ?_
  · intro n y hy
    refine br_t (nI_le (b := 128) (Nat.le_refl 128) (by decide)) ?_
    rw [show y = _ from hy]
    exact h
  · rintro n i y hi rfl hk
    refine br_f (nI_ge (b := 128) hi (by decide)) (yw_price ?_)
    exact br_c (fun e => nm_r (nI_1 i) (hk _ (if_neg (Int32.not_lt.mpr e)).symm)) (fun e => nm_r (nI_1 i) (hk _ (if_pos (Int32.not_le.mp e)).symm))
theorem yw_always {post : Int32 → Prop} {g sb ss tb ts sn : Nat → Int32} {j : Nat} {r : Int32} (hj : j ≤ 50) (e : pc_always g sb ss tb ts (nI j) = r) (h : post r) : wpY_always post (g, sb, ss, tb, ts, sn) (nI j) := by
  subst e
  unfold wpY_always
  dsimp only
  refine yw_num hj (br_f pc_10 (yw_least hj ?_))
  refine loop_0 (fun n i y => wY_always_23 post (nI j) (pc_least g sb ss tb ts (nI j)) g sb ss tb ts sn n y (nI i)) (fun i y => y = pc_and (fun i => pc_cost g sb ss tb ts (nI i) (nI j)) (pc_least g sb ss tb ts (nI j)) i) 128 127 rfl ?_ ?_
  · intro n y hy
    refine br_t (nI_le (b := 128) (Nat.le_refl 128) (by decide)) ?_
    rw [show y = _ from hy]
    exact h
  · rintro n i y hi rfl hk
    refine br_f (nI_ge (b := 128) hi (by decide)) (yw_price ?_)
    exact br_c (fun e => nm_e (nm_r (nI_1 i) (hk _ (if_pos e).symm))) (fun e => nm_r (nI_1 i) (hk _ (if_neg e).symm))
theorem yw_everL {post : Int32 → Prop} {g sb ss tb ts sn : Nat → Int32} {x : Int32} (h : post (pc_ever g sb ss tb ts x)) : ∃ n : Nat, wY_ever_22 post x (pc_least g sb ss tb ts x) g sb ss tb ts sn n 0 0 := by
  refine loop_0 (fun n i y => wY_ever_22 post x (pc_least g sb ss tb ts x) g sb ss tb ts sn n y (nI i)) (fun i y => y = pc_or (fun i => pc_cost g sb ss tb ts (nI i) x) (pc_least g sb ss tb ts x) i) 128 0 rfl ?_ ?_
  · intro n y hy
    refine br_t (nI_le (b := 128) (Nat.le_refl 128) (by decide)) ?_
    rw [show y = _ from hy]
    exact h
  · rintro n i y hi rfl hk
    refine br_f (nI_ge (b := 128) hi (by decide)) (yw_price ?_)
    exact br_c (fun e => nm_e (nm_r (nI_1 i) (hk _ (if_pos e).symm))) (fun e => nm_r (nI_1 i) (hk _ (if_neg e).symm))
theorem yw_tiesL {post : Int32 → Prop} {g sb ss tb ts sn : Nat → Int32} {x : Int32} (h : post (pc_ties g sb ss tb ts x)) : ∃ n : Nat, wY_ties_22 post x (pc_least g sb ss tb ts x) g sb ss tb ts sn n 0 0 := by
  refine loop_0 (fun n i y => wY_ties_22 post x (pc_least g sb ss tb ts x) g sb ss tb ts sn n y (nI i)) (fun i y => y = pc_cnt (fun i => pc_cost g sb ss tb ts (nI i) x) (pc_least g sb ss tb ts x) i) 128 0 rfl ?_ ?_
  · intro n y hy
    refine br_t (nI_le (b := 128) (Nat.le_refl 128) (by decide)) ?_
    rw [show y = _ from hy]
    exact h
  · rintro n i y hi rfl hk
    refine br_f (nI_ge (b := 128) hi (by decide)) (yw_price ?_)
    exact br_c (fun e => nm_e (nm_r (nI_1 i) (hk _ (if_pos e).symm))) (fun e => nm_r (nI_1 i) (hk _ (if_neg e).symm))
theorem yw_flip {post : SY → Prop} {g sb ss tb ts sn : Nat → Int32} (h : post (g, pc_mix 7 tb sb, pc_mix 7 ts ss, pc_mix 7 sb tb, pc_mix 7 ss ts, sn)) : ∀ d i, i + d = 7 → wY_flip_2 post (d + 1) (nI i) g (pc_mix i tb sb) (pc_mix i ts ss) (pc_mix i sb tb) (pc_mix i ss ts) sn := by
  intro d
  induction d with
  | zero =>
    intro i hi
    obtain rfl : i = 7 := by omega
    exact br_t (nI_le (b := 7) (Nat.le_refl 7) (by decide)) h
  | succ d ih =>
    intro i hi
    have hv : vp_in (nI i) 7 := vp_in_nI (by omega) (by decide)
    have hn : (nI i).toNatClampNeg = i := nI_clamp (by omega)
    refine br_f (nI_ge (b := 7) (by omega) (by decide)) ⟨hv, nm_r (e' := sb i) ?_ ⟨hv, nm_r (e' := ss i) ?_ ⟨hv, hv, nm_r (e' := pc_mix (i + 1) tb sb) ?_ ⟨hv, hv, nm_r (e' := pc_mix (i + 1) ts ss) ?_ ⟨hv, nm_r (e' := pc_mix (i + 1) sb tb) ?_ ⟨hv, nm_r (e' := pc_mix (i + 1) ss ts) ?_ (nm_r (nI_1 i) (ih (i + 1) (by omega)))⟩⟩⟩⟩⟩⟩
    · rw [hn, pc_mixN]
    · rw [hn, pc_mixN]
    · rw [hn, pc_mixN, pc_mixS]
    · rw [hn, pc_mixN, pc_mixS]
    · rw [hn, pc_mixS]
    · rw [hn, pc_mixS]
theorem pc_nb1 : vp_nar .boolean 1 = 1 := rfl
theorem pc_nb0 : vp_nar .boolean 0 = 0 := rfl
theorem yw_stagesL {post : Int32 → SY → Prop} {g sb ss tb ts : Nat → Int32} (h : ∀ sn, post (pc_stg (pc_M g sb ss tb ts) 51) (g, sb, ss, tb, ts, sn)) : ∀ d i a, i + d = 51 → pc_SN (pc_M g sb ss tb ts) i a → wY_stages_26 post (d + 1) (pc_stg (pc_M g sb ss tb ts) i) (nI i) g sb ss tb ts a := by
  intro d
  induction d with
  | zero =>
    intro i a hi _
    obtain rfl : i = 51 := by omega
    exact br_t (nI_lt (a := 50) (b := 51) (by omega) (by decide)) (h a)
  | succ d ih =>
    intro i a hi hS
    obtain ⟨hM, eM⟩ := pc_MB g sb ss tb ts i
    have hv : vp_in (nI (pc_M g sb ss tb ts i)) 128 := vp_in_nI hM (by decide)
    have hn : (nI (pc_M g sb ss tb ts i)).toNatClampNeg = pc_M g sb ss tb ts i := nI_clamp (by omega)
    have hu : upd a (nI (pc_M g sb ss tb ts i)).toNatClampNeg (vp_nar .boolean 1) = upd a (pc_M g sb ss tb ts i) 1 := by rw [hn, pc_nb1]
    have K : ∀ t, t = pc_stg (pc_M g sb ss tb ts) (i + 1) → wY_stages_26 post (d + 1) t (nI (i + 1)) g sb ss tb ts (upd a (pc_M g sb ss tb ts i) 1) := by
      rintro t rfl
      exact ih (i + 1) _ (by omega) (pc_SNs hS)
    refine br_f (nI_nlt (a := 50) (b := i) (by omega) (by decide)) (yw_always (by omega) eM ⟨hv, br_c (fun z => nm_e ⟨hv, nm_r hu (nm_r (nI_1 i) (K _ ?_))⟩) (fun z => ⟨hv, nm_r hu (nm_r (nI_1 i) (K _ ?_))⟩)⟩)
    · rw [hn, hS _ hM] at z
      refine (if_pos ?_).symm
      by_cases q : pc_seen (pc_M g sb ss tb ts) i (pc_M g sb ss tb ts i) = false
      · exact q
      · rw [if_neg q] at z; exact absurd z pc_10
    · rw [hn, hS _ hM] at z
      refine (if_neg ?_).symm
      intro q
      rw [if_pos q] at z; exact z rfl
theorem yw_stages0 {post : Int32 → SY → Prop} {g sb ss tb ts : Nat → Int32} (h : ∀ sn, post (pc_stg (pc_M g sb ss tb ts) 51) (g, sb, ss, tb, ts, sn)) : ∀ d i a, i + d = 128 → (∀ m, m < i → a m = 0) → wY_stages_4 post 0 (d + 1) (nI i) g sb ss tb ts a := by
  intro d
  induction d with
  | zero =>
    intro i a hi hz
    obtain rfl : i = 128 := by omega
    exact br_t (nI_le (b := 128) (Nat.le_refl 128) (by decide)) ⟨52, yw_stagesL h 51 0 a (by omega) (fun m hm => hz m hm)⟩
  | succ d ih =>
    intro i a hi hz
    have hu : upd a (nI i).toNatClampNeg (vp_nar .boolean 0) = upd a i 0 := by rw [nI_clamp (by omega), pc_nb0]
    refine br_f (nI_ge (b := 128) (by omega) (by decide)) ⟨vp_in_nI (by omega) (by decide), nm_r hu (nm_r (nI_1 i) (ih (i + 1) _ (by omega) (fun m hm => ?_)))⟩
    by_cases e : m = i
    · subst e; exact pk_us
    · rw [pk_un e]; exact hz m (by omega)
theorem yw_stages {post : Int32 → SY → Prop} {g sb ss tb ts sn : Nat → Int32} (h : ∀ sn, post (pc_stg (pc_M g sb ss tb ts) 51) (g, sb, ss, tb, ts, sn)) : wpY_stages post (g, sb, ss, tb, ts, sn) := by
  unfold wpY_stages
  dsimp only
  exact ⟨129, yw_stages0 h 128 0 sn (by omega) (fun m hm => absurd hm (by omega))⟩
theorem yw_worstL {post : Int32 → Prop} {g sb ss tb ts sn : Nat → Int32} (h : post (pc_worst g sb ss tb ts)) : ∀ d i, i + d = 51 → wY_worst_10 post g sb ss tb ts sn (d + 1) (pc_wst (fun i => pc_least g sb ss tb ts (nI i)) i).1 (pc_wst (fun i => pc_least g sb ss tb ts (nI i)) i).2 (nI i) := by
  intro d
  induction d with
  | zero =>
    intro i hi
    obtain rfl : i = 51 := by omega
    exact br_t (nI_lt (a := 50) (b := 51) (by omega) (by decide)) h
  | succ d ih =>
    intro i hi
    have K := ih (i + 1) (by omega)
    refine br_f (nI_nlt (a := 50) (b := i) (by omega) (by decide)) (yw_least (by omega) (br_c (fun e => nm_r (nI_1 i) ?_) (fun e => nm_r (nI_1 i) ?_)))
    · rw [show pc_wst (fun i => pc_least g sb ss tb ts (nI i)) (i + 1) = pc_wst (fun i => pc_least g sb ss tb ts (nI i)) i from if_neg (Int32.not_lt.mpr e)] at K
      exact K
    · rw [show pc_wst (fun i => pc_least g sb ss tb ts (nI i)) (i + 1) = (nI i, pc_least g sb ss tb ts (nI i)) from if_pos (Int32.not_le.mp e)] at K
      dsimp only at K
      exact K
theorem yw_worst {post : Int32 → Prop} {g sb ss tb ts sn : Nat → Int32} (h : post (pc_worst g sb ss tb ts)) : wpY_worst post (g, sb, ss, tb, ts, sn) := by
  unfold wpY_worst
  dsimp only
  refine yw_least (j := 0) (by omega) ⟨51, ?_⟩
  have K := yw_worstL (sn := sn) h 50 1 (by omega)
  rw [pc_wst1] at K
  dsimp only at K
  rw [nI_0] at K
  exact K
theorem yw_sepL {post : Int32 → Prop} {g sb ss tb ts sn : Nat → Int32} {x m : Int32} {u v : Nat} : ∀ d i, i + d = 128 → post (pc_sep (fun i => pc_cost g sb ss tb ts (nI i) x) m u v d i) → wY_separates_41 post (nI u) (nI v) x m g sb ss tb ts sn (d + 1) (nI i) := by
  intro d
  induction d with
  | zero =>
    intro i hi h
    obtain rfl : i = 128 := by omega
    exact br_t (nI_le (b := 128) (Nat.le_refl 128) (by decide)) h
  | succ d ih =>
    intro i hi h
    unfold pc_sep at h
    refine br_f (nI_ge (b := 128) (by omega) (by decide)) (br_c (fun e => nm_r (nI_1 i) (ih (i + 1) (by omega) ?_)) (fun e => br_c (fun e2 => yw_price (br_c (fun e3 => ?_) (fun e3 => nm_r (nI_1 i) (ih (i + 1) (by omega) ?_)))) (fun e2 => nm_r (nI_1 i) (ih (i + 1) (by omega) ?_))))
    · have e' : pc_bit (nI i) u = 0 := e
      rw [if_pos e'] at h; exact h
    · have e' : ¬ pc_bit (nI i) u = 0 := e
      have e2' : pc_bit (nI i) v = 0 := e2
      rw [if_neg e', if_pos e2', if_pos e3] at h; exact h
    · have e' : ¬ pc_bit (nI i) u = 0 := e
      have e2' : pc_bit (nI i) v = 0 := e2
      rw [if_neg e', if_pos e2', if_neg e3] at h; exact h
    · have e' : ¬ pc_bit (nI i) u = 0 := e
      have e2' : ¬ pc_bit (nI i) v = 0 := e2
      rw [if_neg e', if_neg e2'] at h; exact h
theorem yw_link {post : Int32 → SY → Prop} {g sb ss tb ts sn : Nat → Int32} {u v : Nat} (hu : u < 7) (hv : v < 7) (hne : u ≠ v) {w : Int32} (h0 : ¬ w < 0) (h1 : w ≤ 20) (h : post (g (u * 7 + v)) (pc_two g u v w, sb, ss, tb, ts, sn)) : wpY_link post (g, sb, ss, tb, ts, sn) (nI u) (nI v) w := by
  have i1 : vp_in (nI u * 7 + nI v) 49 := by rw [pc_ix]; exact vp_in_nI (by omega) (by decide)
  have i2 : vp_in (nI v * 7 + nI u) 49 := by rw [pc_ix]; exact vp_in_nI (by omega) (by decide)
  have n1 : (nI u * 7 + nI v).toNatClampNeg = u * 7 + v := by rw [pc_ix]; exact nI_clamp (by omega)
  have n2 : (nI v * 7 + nI u).toNatClampNeg = v * 7 + u := by rw [pc_ix]; exact nI_clamp (by omega)
  have hq : ¬ nI u = nI v := fun z => hne ((nI_eq (by omega) (by omega)).mp z)
  unfold wpY_link
  dsimp only
  refine yw_node hu (br_f pc_10 (yw_node hv (br_f pc_10 (br_f hq (br_f h0 (br_t h1 ⟨i1, nm_r (e' := g (u * 7 + v)) (by rw [n1]) ⟨i1, nm_r (e' := upd g (u * 7 + v) w) (by rw [n1]) ⟨i2, nm_r (e' := pc_two g u v w) ?_ h⟩⟩⟩))))))
  rw [n2]; rfl
end
section
/-! the tests ahead of the calls, on both sides; the reference's spare -/
def pc_badN (p : Int32) : Prop := p < 0 ∨ (¬ p < 0 ∧ 7 ≤ p)
def pc_badX (p : Int32) : Prop := p < 0 ∨ (¬ p < 0 ∧ 50 < p)
def pc_badC (p : Int32) : Prop := p < 0 ∨ (¬ p < 0 ∧ ¬ p ≤ 20)
theorem pc_nd (p : Int32) : pc_badN p ∨ ∃ j : Nat, j < 7 ∧ p = nI j := by
  rcases pk_ix p (n := 7) (by decide) with h | h | h
  · exact Or.inl (Or.inl h)
  · by_cases e : p < 0
    · exact Or.inl (Or.inl e)
    · exact Or.inl (Or.inr ⟨e, h⟩)
  · exact Or.inr h
theorem pc_xs (p : Int32) : pc_badX p ∨ ∃ j : Nat, j ≤ 50 ∧ p = nI j := by
  by_cases e : p < 0
  · exact Or.inl (Or.inl e)
  · by_cases e2 : 50 < p
    · exact Or.inl (Or.inr ⟨e, e2⟩)
    · exact Or.inr (nI_of2 (M := 50) (n := 50) (by decide) e (Int32.not_lt.mp e2))
theorem pc_cs (p : Int32) : pc_badC p ∨ (¬ p < 0 ∧ p ≤ 20) := by
  by_cases e : p < 0
  · exact Or.inl (Or.inl e)
  · by_cases e2 : p ≤ 20
    · exact Or.inr ⟨e, e2⟩
    · exact Or.inl (Or.inr ⟨e, e2⟩)
def pc_badP (p q : Int32) : Prop := pc_badN p ∨ ∃ u : Nat, u < 7 ∧ p = nI u ∧ (pc_badN q ∨ q = p)
theorem pc_prs (p q : Int32) : pc_badP p q ∨ ∃ u v : Nat, u < 7 ∧ v < 7 ∧ u ≠ v ∧ p = nI u ∧ q = nI v := by
  rcases pc_nd p with h | ⟨u, hu, e1⟩
  · exact Or.inl (Or.inl h)
  · rcases pc_nd q with h | ⟨v, hv, e2⟩
    · exact Or.inl (Or.inr ⟨u, hu, e1, Or.inl h⟩)
    · by_cases e : u = v
      · exact Or.inl (Or.inr ⟨u, hu, e1, Or.inr (by rw [e1, e2, e])⟩)
      · exact Or.inr ⟨u, v, hu, hv, e, e1, e2⟩
theorem xw_nodeB {post : Int32 → Prop} {p : Int32} (h : pc_badN p) (hp : post 0) : wpX_isNode post p :=
  h.elim (fun e => br_t e hp) (fun e => br_f e.1 (br_t e.2 hp))
theorem xw_node {post : Int32 → Prop} {j : Nat} (hj : j < 7) (hp : post 1) : wpX_isNode post (nI j) :=
  br_f (nI_pos (by omega)) (br_f (nI_ge (b := 7) hj (by decide)) hp)
theorem yw_nodeB {post : Int32 → Prop} {g sb ss tb ts sn : Nat → Int32} {p : Int32} (h : pc_badN p) (hp : post 0) : wpY_isNode post (g, sb, ss, tb, ts, sn) p :=
  h.elim (fun e => br_t e hp) (fun e => br_f e.1 (br_t e.2 hp))
theorem xw_isXB {post : Int32 → Prop} {p : Int32} (h : pc_badX p) (hp : post 0) : wpX_isX post p :=
  h.elim (fun e => br_t e hp) (fun e => br_f e.1 (br_t e.2 hp))
theorem xw_isX {post : Int32 → Prop} {j : Nat} (hj : j ≤ 50) (hp : post 1) : wpX_isX post (nI j) :=
  br_f (nI_pos (by omega)) (br_f (nI_nlt (a := 50) (b := j) hj (by decide)) hp)
theorem yw_numB {post : Int32 → Prop} {g sb ss tb ts sn : Nat → Int32} {p : Int32} (h : pc_badX p) (hp : post 0) : wpY_isNumber post (g, sb, ss, tb, ts, sn) p :=
  h.elim (fun e => br_t e hp) (fun e => br_f e.1 (br_t e.2 hp))
theorem pc_nq {u v : Nat} (hu : u < 7) (hv : v < 7) (hne : u ≠ v) : ¬ nI u = nI v := fun z => hne ((nI_eq (by omega) (by omega)).mp z)
theorem xw_pairB {post : Int32 → Prop} {p q : Int32} (h : pc_badP p q) (hp : post 0) : wpX_isPair post p q := by
  rcases h with h | ⟨u, hu, rfl, h | rfl⟩
  · exact xw_nodeB h (br_t rfl hp)
  · exact xw_node hu (br_f pc_10 (xw_nodeB h (br_t rfl hp)))
  · exact xw_node hu (br_f pc_10 (xw_node hu (br_f pc_10 (br_t rfl hp))))
theorem xw_pair {post : Int32 → Prop} {u v : Nat} (hu : u < 7) (hv : v < 7) (hne : u ≠ v) (hp : post 1) : wpX_isPair post (nI u) (nI v) :=
  xw_node hu (br_f pc_10 (xw_node hv (br_f pc_10 (br_f (pc_nq hu hv hne) hp))))
theorem yw_pairB {A B : Prop} {g sb ss tb ts sn : Nat → Int32} {p q : Int32} (h : pc_badP p q) (a : A) : wpY_isNode (fun r => ((r = 0 → A) ∧ (¬ r = 0 → wpY_isNode (fun r' => ((r' = 0 → A) ∧ (¬ r' = 0 → ((p = q → A) ∧ (¬ p = q → B))))) (g, sb, ss, tb, ts, sn) q))) (g, sb, ss, tb, ts, sn) p := by
  rcases h with h | ⟨u, hu, rfl, h | rfl⟩
  · exact yw_nodeB h (br_t rfl a)
  · exact yw_node hu (br_f pc_10 (yw_nodeB h (br_t rfl a)))
  · exact yw_node hu (br_f pc_10 (yw_node hu (br_f pc_10 (br_t rfl a))))
theorem yw_pair {A B : Prop} {g sb ss tb ts sn : Nat → Int32} {u v : Nat} (hu : u < 7) (hv : v < 7) (hne : u ≠ v) (b : B) : wpY_isNode (fun r => ((r = 0 → A) ∧ (¬ r = 0 → wpY_isNode (fun r' => ((r' = 0 → A) ∧ (¬ r' = 0 → ((nI u = nI v → A) ∧ (¬ nI u = nI v → B))))) (g, sb, ss, tb, ts, sn) (nI v)))) (g, sb, ss, tb, ts, sn) (nI u) :=
  yw_node hu (br_f pc_10 (yw_node hv (br_f pc_10 (br_f (pc_nq hu hv hne) b))))
/-! link -/
theorem xw_linkB {post : Int32 → SX → Prop} {c sb ss tb ts : Nat → Int32} {p q w : Int32} (h : pc_badP p q) (hp : post (-1) (c, sb, ss, tb, ts)) : wpX_link post (c, sb, ss, tb, ts) p q w := by
  unfold wpX_link
  exact xw_pairB h (br_t rfl hp)
theorem xw_linkC {post : Int32 → SX → Prop} {c sb ss tb ts : Nat → Int32} {u v : Nat} {w : Int32} (hu : u < 7) (hv : v < 7) (hne : u ≠ v) (h : pc_badC w) (hp : post (-2) (c, sb, ss, tb, ts)) : wpX_link post (c, sb, ss, tb, ts) (nI u) (nI v) w := by
  unfold wpX_link
  exact xw_pair hu hv hne (br_f pc_10 (h.elim (fun e => br_t e hp) (fun e => br_f e.1 (br_f e.2 hp))))
theorem xw_link {post : Int32 → SX → Prop} {c sb ss tb ts : Nat → Int32} {u v : Nat} {w : Int32} (hu : u < 7) (hv : v < 7) (hne : u ≠ v) (h0 : ¬ w < 0) (h1 : w ≤ 20) (hp : post (c (pc_cell u v)) (upd c (pc_cell u v) w, sb, ss, tb, ts)) : wpX_link post (c, sb, ss, tb, ts) (nI u) (nI v) w := by
  have hB := pc_cellB hu hv
  have hi : vp_in (nI (pc_cell u v)) 49 := vp_in_nI hB (by decide)
  have hn : (nI (pc_cell u v)).toNatClampNeg = pc_cell u v := nI_clamp (by omega)
  unfold wpX_link
  exact xw_pair hu hv hne (br_f pc_10 (br_f h0 (br_t h1 (xw_cell hu hv ⟨hi, nm_r (e' := c (pc_cell u v)) (by rw [hn]) ⟨hi, nm_r (e' := upd c (pc_cell u v) w) (by rw [hn]) hp⟩⟩))))
theorem yw_linkB {post : Int32 → SY → Prop} {g sb ss tb ts sn : Nat → Int32} {p q w : Int32} (h : pc_badP p q) (hp : post (-1) (g, sb, ss, tb, ts, sn)) : wpY_link post (g, sb, ss, tb, ts, sn) p q w := by
  unfold wpY_link
  exact yw_pairB h hp
theorem yw_linkC {post : Int32 → SY → Prop} {g sb ss tb ts sn : Nat → Int32} {u v : Nat} {w : Int32} (hu : u < 7) (hv : v < 7) (hne : u ≠ v) (h : pc_badC w) (hp : post (-2) (g, sb, ss, tb, ts, sn)) : wpY_link post (g, sb, ss, tb, ts, sn) (nI u) (nI v) w := by
  unfold wpY_link
  exact yw_pair hu hv hne (h.elim (fun e => br_t e hp) (fun e => br_f e.1 (br_f e.2 hp)))
/-! the pulls' test -/
def pc_okL (a b : Int32) : Prop := ¬ a < 0 ∧ ¬ 40 < a ∧ ¬ b < (-2) ∧ ¬ 2 < b
theorem pc_okB {a b : Int32} (h : pc_okL a b) : (0 ≤ a.toInt ∧ a.toInt ≤ 40) ∧ (-2 ≤ b.toInt ∧ b.toInt ≤ 2) := by
  obtain ⟨h1, h2, h3, h4⟩ := h
  rw [Int32.lt_iff_toInt_lt] at h1 h2 h3 h4
  rw [show (0 : Int32).toInt = 0 by decide] at h1
  rw [show (40 : Int32).toInt = 40 by decide] at h2
  rw [show (-2 : Int32).toInt = -2 by decide] at h3
  rw [show (2 : Int32).toInt = 2 by decide] at h4
  omega
theorem pc_okC {w : Int32} (h0 : ¬ w < 0) (h1 : w ≤ 20) : 0 ≤ w.toInt ∧ w.toInt ≤ 20 := by
  rw [Int32.lt_iff_toInt_lt, show (0 : Int32).toInt = 0 by decide] at h0
  rw [Int32.le_iff_toInt_le, show (20 : Int32).toInt = 20 by decide] at h1
  omega
theorem xw_pl1 {post : Int32 → Prop} {a b : Int32} (h : pc_okL a b) (hp : post 1) : wpX_isPull post a b := br_f h.1 (br_f h.2.1 (br_f h.2.2.1 (br_f h.2.2.2 hp)))
theorem xw_pl0 {post : Int32 → Prop} {a b : Int32} (h : ¬ pc_okL a b) (hp : post 0) : wpX_isPull post a b := br_c (fun _ => hp) (fun h0 => br_c (fun _ => hp) (fun h1 => br_c (fun _ => hp) (fun h2 => br_c (fun _ => hp) (fun h3 => absurd ⟨h0, h1, h2, h3⟩ h))))
theorem yw_pl1 {post : Int32 → Prop} {g sb ss tb ts sn : Nat → Int32} {a b : Int32} (h : pc_okL a b) (hp : post 1) : wpY_isPull post (g, sb, ss, tb, ts, sn) a b := br_f h.1 (br_f h.2.1 (br_f h.2.2.1 (br_f h.2.2.2 hp)))
theorem yw_pl0 {post : Int32 → Prop} {g sb ss tb ts sn : Nat → Int32} {a b : Int32} (h : ¬ pc_okL a b) (hp : post 0) : wpY_isPull post (g, sb, ss, tb, ts, sn) a b := br_c (fun _ => hp) (fun h0 => br_c (fun _ => hp) (fun h1 => br_c (fun _ => hp) (fun h2 => br_c (fun _ => hp) (fun h3 => absurd ⟨h0, h1, h2, h3⟩ h))))
/-! the reference's spare -/
theorem yw_spare114 {post : Int32 → SY → Prop} {g sb ss tb ts sn : Nat → Int32} {u v w : Nat} {l : Int32} (hu : u < 7) (hv : v < 7) (hne : u ≠ v) (hw : w ≤ 20) (h : post l (pc_two g u v (nI w), sb, ss, tb, ts, sn)) : wY_spare_114 post (nI u) (nI v) (nI w) l g sb ss tb ts sn := by
  unfold wY_spare_114
  exact yw_link hu hv hne (nI_pos (by omega)) (nI_le (b := 20) hw (by decide)) h
theorem yw_spareL {post : Int32 → SY → Prop} {g sb ss tb ts sn : Nat → Int32} {u v w j R : Nat} (hu : u < 7) (hv : v < 7) (hne : u ≠ v) (hs : ∀ a b, a < 7 → b < 7 → g (a * 7 + b) = g (b * 7 + a)) (ew : g (u * 7 + v) = nI w) (hw : w ≤ 20) (hj : j ≤ 50) (hR : R ≤ w) (spec : ∀ k : Nat, k ≤ w → ∀ f' : Nat → Int32, (∀ i, f' i = pc_cost g sb ss tb ts (nI i) (nI j) - pc_dl (nI i) u v (nI k)) → (pc_min f' 128 = pc_least g sb ss tb ts (nI j) ↔ k ≤ R)) (h : ∀ g', pc_off g g' u v → post (nI R) (pc_two g' u v (nI w), sb, ss, tb, ts, sn)) : ∀ d k g', k + d = w → k ≤ R → pc_off g g' u v → wY_spare_60 post (nI u) (nI v) (nI j) (nI w) (pc_least g sb ss tb ts (nI j)) (d + 1 + 1) (nI k) 1 g' sb ss tb ts sn := by
  intro d
  induction d with
  | zero =>
    intro k g' hk hkR ho
    obtain rfl : k = R := by omega
    exact br_f pc_10 (br_t (nI_le (by omega) (by omega)) (yw_spare114 hu hv hne hw (h g' ho)))
  | succ d ih =>
    intro k g' hk hkR ho
    have ec : nI w - nI k - 1 = nI (w - (k + 1)) := by
      rw [pk_sub (by omega), show (1 : Int32) = nI 1 from rfl, pk_sub (by omega), Nat.sub_sub]
    have ed : g (u * 7 + v) - nI (k + 1) = nI (w - (k + 1)) := by rw [ew, pk_sub (by omega)]
    have hb : 0 ≤ (nI (w - (k + 1))).toInt ∧ (nI (w - (k + 1))).toInt ≤ 20 := by
      rw [nI_toInt (by omega)]; omega
    have ho' := pc_offU hu hv ho hb
    have hc : ∀ i : Nat, pc_cost (pc_two g' u v (nI (w - (k + 1)))) sb ss tb ts (nI i) (nI j) = pc_cost g sb ss tb ts (nI i) (nI j) - pc_dl (nI i) u v (nI (k + 1)) := by
      intro i
      rw [← ed]
      exact pc_offC hu hv hne hs ho (nI i) (nI j)
    have hsp := spec (k + 1) (by omega) (fun i => pc_cost (pc_two g' u v (nI (w - (k + 1)))) sb ss tb ts (nI i) (nI j)) hc
    refine br_f pc_10 (br_f (nI_ge (by omega) (by omega)) ?_)
    rw [ec]
    refine yw_link hu hv hne (nI_pos (by omega)) (nI_le (b := 20) (by omega) (by decide)) ?_
    refine yw_least hj (br_c (fun e => ?_) (fun e => ?_))
    · have hk1 : k + 1 ≤ R := hsp.mp e
      exact br_f pc_10 (nm_r (nI_1 k) (ih (k + 1) _ (by omega) hk1 ho'))
    · have hk1 : ¬ k + 1 ≤ R := fun z => e (hsp.mpr z)
      obtain rfl : k = R := by omega
      exact br_t rfl (br_t rfl (yw_spare114 hu hv hne hw (h _ ho')))
end
section
/-! the relation and the owed statements -/
def i_Rel (k : Nat) (u : SX) (v : SY) : Prop := ∃ c g sb ss tb ts sn : Nat → Int32, u = (c, sb, ss, tb, ts) ∧ v = (g, sb, ss, tb, ts, sn) ∧ pc_R c g ∧ pc_P sb ss tb ts
theorem i_mk {k : Nat} {c g sb ss tb ts sn : Nat → Int32} (hR : pc_R c g) (hP : pc_P sb ss tb ts) : i_Rel k (c, sb, ss, tb, ts) (g, sb, ss, tb, ts, sn) := ⟨c, g, sb, ss, tb, ts, sn, rfl, rfl, hR, hP⟩
theorem i_up {k : Nat} {u : SX} {v : SY} (h : i_Rel k u v) : i_Rel (k + 4) u v := h
theorem i_vc0 : wpX_init (fun u => wpY_init (fun v => i_Rel 0 u v)) :=
  i_mk (k := 0) ⟨pc_bd0 (by omega) (by omega), fun _ _ _ _ => rfl, fun _ _ _ _ => rfl⟩ ⟨pc_bd0 (by omega) (by omega), pc_bd0 (by omega) (by omega), pc_bd0 (by omega) (by omega), pc_bd0 (by omega) (by omega)⟩
theorem pc_RE {c g : Nat → Int32} (h : pc_R c g) (sb ss tb ts : Nat → Int32) : pc_cost c sb ss tb ts = pc_cost g sb ss tb ts := funext fun s => funext fun x => pc_Rcost h sb ss tb ts s x
theorem pc_RL {c g : Nat → Int32} (h : pc_R c g) (sb ss tb ts : Nat → Int32) : pc_least c sb ss tb ts = pc_least g sb ss tb ts := by
  funext x
  unfold pc_least
  rw [pc_RE h]
theorem pc_RA {c g : Nat → Int32} (h : pc_R c g) (sb ss tb ts : Nat → Int32) : pc_always c sb ss tb ts = pc_always g sb ss tb ts := by
  funext x
  unfold pc_always
  rw [pc_RE h, pc_RL h]
theorem i_vc_link {k : Nat} {u : SX} {v : SY} (I : i_Rel k u v) (hk : k + 4 ≤ 2048) (v1 : Int32) (v2 : Int32) (v3 : Int32) : wpX_link (fun r u' => wpY_link (fun r' v' => r' = r ∧ i_Rel (k + 4) u' v') v v1 v2 v3) u v1 v2 v3 := by
  obtain ⟨c, g, sb, ss, tb, ts, sn, rfl, rfl, hR, hP⟩ := I
  rcases pc_prs v1 v2 with h | ⟨p, q, hp, hq, hne, rfl, rfl⟩
  · exact xw_linkB h (yw_linkB h ⟨rfl, i_mk hR hP⟩)
  · rcases pc_cs v3 with h | ⟨h0, h1⟩
    · exact xw_linkC hp hq hne h (yw_linkC hp hq hne h ⟨rfl, i_mk hR hP⟩)
    · exact xw_link hp hq hne h0 h1 (yw_link hp hq hne h0 h1 ⟨(pc_Rold hR hp hq hne).symm, i_mk (pc_Rlink hR hp hq hne (pc_okC h0 h1)) hP⟩)
theorem i_vc_toSource {k : Nat} {u : SX} {v : SY} (I : i_Rel k u v) (hk : k + 4 ≤ 2048) (v1 : Int32) (v2 : Int32) (v3 : Int32) : wpX_toSource (fun r u' => wpY_toSource (fun r' v' => r' = r ∧ i_Rel (k + 4) u' v') v v1 v2 v3) u v1 v2 v3 := by
  obtain ⟨c, g, sb, ss, tb, ts, sn, rfl, rfl, hR, hP⟩ := I
  unfold wpX_toSource wpY_toSource
  dsimp only
  rcases pc_nd v1 with h | ⟨j, hj, rfl⟩
  · exact xw_nodeB h (br_t rfl (yw_nodeB h (br_t rfl ⟨rfl, i_mk hR hP⟩)))
  · refine xw_node hj (br_f pc_10 ?_)
    by_cases ho : pc_okL v2 v3
    · have hi : vp_in (nI j) 7 := vp_in_nI hj (by decide)
      obtain ⟨b1, b2⟩ := pc_okB ho
      refine xw_pl1 ho (br_f pc_10 ⟨hi, nm_e ⟨hi, nm_e ?_⟩⟩)
      exact yw_node hj (br_f pc_10 (yw_pl1 ho (br_f pc_10 ⟨hi, nm_e ⟨hi, nm_e ⟨rfl, i_mk hR ⟨pc_bdU hP.1 b1, pc_bdU hP.2.1 b2, hP.2.2.1, hP.2.2.2⟩⟩⟩⟩)))
    · exact xw_pl0 ho (br_t rfl (yw_node hj (br_f pc_10 (yw_pl0 ho (br_t rfl ⟨rfl, i_mk hR hP⟩)))))
theorem i_vc_toSink {k : Nat} {u : SX} {v : SY} (I : i_Rel k u v) (hk : k + 4 ≤ 2048) (v1 : Int32) (v2 : Int32) (v3 : Int32) : wpX_toSink (fun r u' => wpY_toSink (fun r' v' => r' = r ∧ i_Rel (k + 4) u' v') v v1 v2 v3) u v1 v2 v3 := by
  obtain ⟨c, g, sb, ss, tb, ts, sn, rfl, rfl, hR, hP⟩ := I
  unfold wpX_toSink wpY_toSink
  dsimp only
  rcases pc_nd v1 with h | ⟨j, hj, rfl⟩
  · exact xw_nodeB h (br_t rfl (yw_nodeB h (br_t rfl ⟨rfl, i_mk hR hP⟩)))
  · refine xw_node hj (br_f pc_10 ?_)
    by_cases ho : pc_okL v2 v3
    · have hi : vp_in (nI j) 7 := vp_in_nI hj (by decide)
      obtain ⟨b1, b2⟩ := pc_okB ho
      refine xw_pl1 ho (br_f pc_10 ⟨hi, nm_e ⟨hi, nm_e ?_⟩⟩)
      exact yw_node hj (br_f pc_10 (yw_pl1 ho (br_f pc_10 ⟨hi, nm_e ⟨hi, nm_e ⟨rfl, i_mk hR ⟨hP.1, hP.2.1, pc_bdU hP.2.2.1 b1, pc_bdU hP.2.2.2 b2⟩⟩⟩⟩)))
    · exact xw_pl0 ho (br_t rfl (yw_node hj (br_f pc_10 (yw_pl0 ho (br_t rfl ⟨rfl, i_mk hR hP⟩)))))
theorem i_vc_flip {k : Nat} {u : SX} {v : SY} (I : i_Rel k u v) (hk : k + 4 ≤ 2048) : wpX_flip (fun u' => wpY_flip (fun v' => i_Rel (k + 4) u' v') v) u := by
  obtain ⟨c, g, sb, ss, tb, ts, sn, rfl, rfl, hR, hP⟩ := I
  unfold wpX_flip wpY_flip
  dsimp only
  have hP' : pc_P (pc_mix 7 tb sb) (pc_mix 7 ts ss) (pc_mix 7 sb tb) (pc_mix 7 ss ts) := ⟨pc_mixB 7 hP.2.2.1 hP.1, pc_mixB 7 hP.2.2.2 hP.2.1, pc_mixB 7 hP.1 hP.2.2.1, pc_mixB 7 hP.2.1 hP.2.2.2⟩
  have KY := yw_flip (post := fun v' => i_Rel (k + 4) (c, pc_mix 7 tb sb, pc_mix 7 ts ss, pc_mix 7 sb tb, pc_mix 7 ss ts) v') (g := g) (sb := sb) (ss := ss) (tb := tb) (ts := ts) (sn := sn) (i_mk hR hP') 7 0 (by omega)
  rw [pc_mix0, pc_mix0, pc_mix0, pc_mix0] at KY
  have KX := xw_flip (post := fun u' => ∃ n2 : Nat, wY_flip_2 (fun v' => i_Rel (k + 4) u' v') n2 0 g sb ss tb ts sn) (c := c) (sb := sb) (ss := ss) (tb := tb) (ts := ts) ⟨8, KY⟩ 7 0 (by omega)
  rw [pc_mix0, pc_mix0, pc_mix0, pc_mix0] at KX
  exact ⟨8, KX⟩
theorem i_vc_cost {k : Nat} {u : SX} {v : SY} (I : i_Rel k u v) (hk : k + 4 ≤ 2048) (v1 : Int32) (v2 : Int32) : wpX_cost (fun r => wpY_cost (fun r' => r' = r ∧ i_Rel (k + 4) u v) v v1 v2) u v1 v2 := by
  obtain ⟨c, g, sb, ss, tb, ts, sn, rfl, rfl, hR, hP⟩ := I
  unfold wpX_cost wpY_cost
  dsimp only
  rcases pc_xs v2 with h | ⟨j, hj, rfl⟩
  · exact xw_isXB h (br_t rfl (yw_numB h (br_t rfl ⟨rfl, i_mk hR hP⟩)))
  · refine xw_isX hj (br_f pc_10 (xw_cost ?_))
    rw [pc_RE hR]
    exact yw_num hj (br_f pc_10 (yw_price ⟨rfl, i_mk hR hP⟩))
theorem i_vc_least {k : Nat} {u : SX} {v : SY} (I : i_Rel k u v) (hk : k + 4 ≤ 2048) (v1 : Int32) : wpX_least (fun r => wpY_least (fun r' => r' = r ∧ i_Rel (k + 4) u v) v v1) u v1 := by
  obtain ⟨c, g, sb, ss, tb, ts, sn, rfl, rfl, hR, hP⟩ := I
  unfold wpX_least
  dsimp only
  rcases pc_xs v1 with h | ⟨j, hj, rfl⟩
  · refine xw_isXB h (br_t rfl ?_)
    unfold wpY_least
    exact yw_numB h (br_t rfl ⟨rfl, i_mk hR hP⟩)
  · refine xw_isX hj (br_f pc_10 (xw_least ?_))
    exact yw_least hj ⟨by rw [pc_RL hR], i_mk hR hP⟩
theorem i_vc_always {k : Nat} {u : SX} {v : SY} (I : i_Rel k u v) (hk : k + 4 ≤ 2048) (v1 : Int32) : wpX_always (fun r => wpY_always (fun r' => r' = r ∧ i_Rel (k + 4) u v) v v1) u v1 := by
  obtain ⟨c, g, sb, ss, tb, ts, sn, rfl, rfl, hR, hP⟩ := I
  unfold wpX_always
  dsimp only
  rcases pc_xs v1 with h | ⟨j, hj, rfl⟩
  · refine xw_isXB h (br_t rfl ?_)
    unfold wpY_always
    exact yw_numB h (br_t rfl ⟨rfl, i_mk hR hP⟩)
  · refine xw_isX hj (br_f pc_10 (xw_common rfl ?_))
    exact yw_always hj rfl ⟨by rw [pc_RA hR], i_mk hR hP⟩
theorem i_vc_ever {k : Nat} {u : SX} {v : SY} (I : i_Rel k u v) (hk : k + 4 ≤ 2048) (v1 : Int32) : wpX_ever (fun r => wpY_ever (fun r' => r' = r ∧ i_Rel (k + 4) u v) v v1) u v1 := by
  obtain ⟨c, g, sb, ss, tb, ts, sn, rfl, rfl, hR, hP⟩ := I
  unfold wpX_ever wpY_ever
  dsimp only
  rcases pc_xs v1 with h | ⟨j, hj, rfl⟩
  · exact xw_isXB h (br_t rfl (yw_numB h (br_t rfl ⟨rfl, i_mk hR hP⟩)))
  · refine xw_isX hj (br_f pc_10 (xw_least (xw_everL ?_)))
    refine yw_num hj (br_f pc_10 (yw_least hj (yw_everL ⟨?_, i_mk hR hP⟩)))
    unfold pc_ever
    rw [pc_RE hR, pc_RL hR]
theorem i_vc_ties {k : Nat} {u : SX} {v : SY} (I : i_Rel k u v) (hk : k + 4 ≤ 2048) (v1 : Int32) : wpX_ties (fun r => wpY_ties (fun r' => r' = r ∧ i_Rel (k + 4) u v) v v1) u v1 := by
  obtain ⟨c, g, sb, ss, tb, ts, sn, rfl, rfl, hR, hP⟩ := I
  unfold wpX_ties wpY_ties
  dsimp only
  rcases pc_xs v1 with h | ⟨j, hj, rfl⟩
  · exact xw_isXB h (br_t rfl (yw_numB h (br_t rfl ⟨rfl, i_mk hR hP⟩)))
  · refine xw_isX hj (br_f pc_10 (xw_least (xw_tiesL ?_)))
    refine yw_num hj (br_f pc_10 (yw_least hj (yw_tiesL ⟨?_, i_mk hR hP⟩)))
    unfold pc_ties
    rw [pc_RE hR, pc_RL hR]
theorem i_vc_stages {k : Nat} {u : SX} {v : SY} (I : i_Rel k u v) (hk : k + 4 ≤ 2048) : wpX_stages (fun r => wpY_stages (fun r' v' => r' = r ∧ i_Rel (k + 4) u v') v) u := by
  obtain ⟨c, g, sb, ss, tb, ts, sn, rfl, rfl, hR, hP⟩ := I
  refine xw_stages (yw_stages (fun sn' => ⟨?_, i_mk hR hP⟩))
  have e : pc_M c sb ss tb ts = pc_M g sb ss tb ts := by
    funext i
    unfold pc_M
    rw [pc_RA hR]
  rw [e]
theorem i_vc_worst {k : Nat} {u : SX} {v : SY} (I : i_Rel k u v) (hk : k + 4 ≤ 2048) : wpX_worst (fun r => wpY_worst (fun r' => r' = r ∧ i_Rel (k + 4) u v) v) u := by
  obtain ⟨c, g, sb, ss, tb, ts, sn, rfl, rfl, hR, hP⟩ := I
  refine xw_worst (yw_worst ⟨?_, i_mk hR hP⟩)
  unfold pc_worst
  rw [pc_RL hR]
theorem i_vc_spare {k : Nat} {u : SX} {v : SY} (I : i_Rel k u v) (hk : k + 4 ≤ 2048) (v1 : Int32) (v2 : Int32) (v3 : Int32) : wpX_spare (fun r => wpY_spare (fun r' v' => r' = r ∧ i_Rel (k + 4) u v') v v1 v2 v3) u v1 v2 v3 := by
  obtain ⟨c, g, sb, ss, tb, ts, sn, rfl, rfl, hR, hP⟩ := I
  unfold wpX_spare wpY_spare
  dsimp only
  rcases pc_prs v1 v2 with h | ⟨p, q, hp, hq, hne, rfl, rfl⟩
  · exact xw_pairB h (br_t rfl (yw_pairB h ⟨rfl, i_mk hR hP⟩))
  · refine xw_pair hp hq hne (br_f pc_10 ?_)
    rcases pc_xs v3 with h | ⟨j, hj, rfl⟩
    · exact xw_isXB h (br_t rfl (yw_pair hp hq hne (yw_numB h (br_t rfl ⟨rfl, i_mk hR hP⟩))))
    · have hB := pc_cellB hp hq
      have hi : vp_in (nI (pc_cell p q)) 49 := vp_in_nI hB (by decide)
      have hn : (nI (pc_cell p q)).toNatClampNeg = pc_cell p q := nI_clamp (by omega)
      have hw := hR.1 (p * 7 + q)
      have ew : g (p * 7 + q) = nI (g (p * 7 + q)).toInt.toNat := pc_toN hw.1
      obtain ⟨R, hRw, eR, spec⟩ := pc_spare (f := fun i => pc_cost g sb ss tb ts (nI i) (nI j)) (c := g (p * 7 + q)) p q hw (fun i => pc_costB hR.1 hP.1 hP.2.1 hP.2.2.1 hP.2.2.2 (nI i) hj)
      have i1 : vp_in (nI p * 7 + nI q) 49 := by rw [pc_ix]; exact vp_in_nI (by omega) (by decide)
      have n1 : (nI p * 7 + nI q).toNatClampNeg = p * 7 + q := by rw [pc_ix]; exact nI_clamp (by omega)
      have eX : pc_room (fun i => pc_cost c sb ss tb ts (nI i) (nI j)) (pc_least c sb ss tb ts (nI j)) (g (p * 7 + q)) p q 128 = nI R := by
        rw [pc_RE hR, pc_RL hR]
        exact eR
      refine xw_isX hj (br_f pc_10 (xw_least (xw_cell hp hq ⟨hi, nm_r (e' := g (p * 7 + q)) (by rw [hn, pc_Rold hR hp hq hne]) (xw_spareL hp hq ?_)⟩)))
      rw [eX]
      refine yw_pair hp hq hne (yw_num hj (br_f pc_10 ⟨i1, nm_r (e' := nI (g (p * 7 + q)).toInt.toNat) (by rw [n1]; exact ew) (yw_least hj ⟨_, yw_spareL hp hq hne hR.2.1 ew (by omega) hj (by omega) (fun k' hk' f' hf' => spec k' (by omega) f' hf') (fun g' ho => ⟨rfl, ?_⟩) _ 0 g (Nat.zero_add _) (Nat.zero_le R) ⟨hR.1, fun _ _ _ _ _ => rfl⟩⟩)⟩))
      rw [← ew]
      exact i_mk (pc_offR hp hq hR ho) hP
theorem i_vc_separates {k : Nat} {u : SX} {v : SY} (I : i_Rel k u v) (hk : k + 4 ≤ 2048) (v1 : Int32) (v2 : Int32) (v3 : Int32) : wpX_separates (fun r => wpY_separates (fun r' => r' = r ∧ i_Rel (k + 4) u v) v v1 v2 v3) u v1 v2 v3 := by
  obtain ⟨c, g, sb, ss, tb, ts, sn, rfl, rfl, hR, hP⟩ := I
  unfold wpX_separates wpY_separates
  dsimp only
  rcases pc_prs v1 v2 with h | ⟨p, q, hp, hq, hne, rfl, rfl⟩
  · exact xw_pairB h (br_t rfl (yw_pairB h ⟨rfl, i_mk hR hP⟩))
  · refine xw_pair hp hq hne (br_f pc_10 ?_)
    rcases pc_xs v3 with h | ⟨j, hj, rfl⟩
    · exact xw_isXB h (br_t rfl (yw_pair hp hq hne (yw_numB h (br_t rfl ⟨rfl, i_mk hR hP⟩))))
    · refine xw_isX hj (br_f pc_10 (xw_least ⟨129, xw_sepL 128 0 (by omega) ?_⟩))
      refine yw_pair hp hq hne (yw_num hj (br_f pc_10 (yw_least hj ⟨129, yw_sepL 128 0 (by omega) ⟨?_, i_mk hR hP⟩⟩)))
      rw [pc_RE hR, pc_RL hR]
end
