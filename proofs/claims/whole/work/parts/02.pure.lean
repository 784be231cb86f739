/-! the pure picture: the cost of a cut, and the folds over the 128 cuts -/
def pc_bit (s : Int32) (v : Nat) : Int32 := (s >>> (nI v &&& 31)) &&& 1
theorem pc_01 (s : Int32) (v : Nat) : pc_bit s v = 0 ∨ pc_bit s v = 1 := by
  unfold pc_bit
  obtain ⟨j, hj, e⟩ := pk_andE (s >>> (nI v &&& 31)) (m := 1) 1 (by decide)
  rw [e]
  have h2 : j < 2 := hj
  rcases Nat.lt_or_ge j 1 with h | h
  · left
    rw [show j = 0 by omega]; decide
  · right
    rw [show j = 1 by omega]; decide
theorem pc_n0 {s : Int32} {v : Nat} (h : ¬ pc_bit s v = 0) : pc_bit s v = 1 := (pc_01 s v).resolve_left h
theorem pc_n1 {s : Int32} {v : Nat} (h : ¬ pc_bit s v = 1) : pc_bit s v = 0 := (pc_01 s v).resolve_right h
def pc_pull (b s x : Int32) : Int32 := if b + s * x < 0 then 0 else b + s * x
def pc_in (g : Nat → Int32) (s : Int32) (v : Nat) : Nat → Int32 → Int32
  | 0, a => a
  | u + 1, a => if pc_bit s u = pc_bit s v then pc_in g s v u a else pc_in g s v u a + g (u * 7 + v)
def pc_at (sb ss tb ts : Nat → Int32) (s x : Int32) (v : Nat) : Int32 := if pc_bit s v = 0 then pc_pull (sb v) (ss v) x else pc_pull (tb v) (ts v) x
def pc_out (g sb ss tb ts : Nat → Int32) (s x : Int32) : Nat → Int32
  | 0 => 0
  | v + 1 => pc_in g s v v (pc_out g sb ss tb ts s x v + pc_at sb ss tb ts s x v)
def pc_cost (g sb ss tb ts : Nat → Int32) (s x : Int32) : Int32 := pc_out g sb ss tb ts s x 7
def pc_min (f : Nat → Int32) : Nat → Int32
  | 0 => f 0
  | n + 1 => if f n < pc_min f n then f n else pc_min f n
def pc_least (g sb ss tb ts : Nat → Int32) (x : Int32) : Int32 := pc_min (fun i => pc_cost g sb ss tb ts (nI i) x) 128
def pc_and (f : Nat → Int32) (m : Int32) : Nat → Int32
  | 0 => 127
  | n + 1 => if f n = m then pc_and f m n &&& nI n else pc_and f m n
def pc_or (f : Nat → Int32) (m : Int32) : Nat → Int32
  | 0 => 0
  | n + 1 => if f n = m then pc_or f m n ||| nI n else pc_or f m n
def pc_cnt (f : Nat → Int32) (m : Int32) : Nat → Int32
  | 0 => 0
  | n + 1 => if f n = m then pc_cnt f m n + 1 else pc_cnt f m n
def pc_always (g sb ss tb ts : Nat → Int32) (x : Int32) : Int32 := pc_and (fun i => pc_cost g sb ss tb ts (nI i) x) (pc_least g sb ss tb ts x) 128
def pc_ever (g sb ss tb ts : Nat → Int32) (x : Int32) : Int32 := pc_or (fun i => pc_cost g sb ss tb ts (nI i) x) (pc_least g sb ss tb ts x) 128
def pc_ties (g sb ss tb ts : Nat → Int32) (x : Int32) : Int32 := pc_cnt (fun i => pc_cost g sb ss tb ts (nI i) x) (pc_least g sb ss tb ts x) 128
/-- worst: (the best x, its least), over x below n -/
def pc_wst (h : Nat → Int32) : Nat → Int32 × Int32
  | 0 => (0, h 0)
  | n + 1 => if (pc_wst h n).2 < h n then (nI n, h n) else pc_wst h n
def pc_room (f : Nat → Int32) (m c : Int32) (u v : Nat) : Nat → Int32
  | 0 => c
  | n + 1 => if pc_bit (nI n) u = pc_bit (nI n) v then pc_room f m c u v n else if f n - m < pc_room f m c u v n then f n - m else pc_room f m c u v n
theorem pc_min1 (f : Nat → Int32) : pc_min f 1 = f 0 := ite_self _
theorem pc_wst1 (h : Nat → Int32) : pc_wst h 1 = (0, h 0) := if_neg Int32.lt_irrefl
/-! numbers -/
theorem pc_tadd {a b : Int32} (h1 : -2000000000 ≤ a.toInt + b.toInt) (h2 : a.toInt + b.toInt ≤ 2000000000) : (a + b).toInt = a.toInt + b.toInt := by
  rw [Int32.toInt_add]
  exact Int.bmod_eq_of_le (by omega) (by omega)
theorem pc_tsub {a b : Int32} (h1 : -2000000000 ≤ a.toInt - b.toInt) (h2 : a.toInt - b.toInt ≤ 2000000000) : (a - b).toInt = a.toInt - b.toInt := by
  rw [Int32.toInt_sub]
  exact Int.bmod_eq_of_le (by omega) (by omega)
theorem pc_tmul {a b : Int32} (h1 : -2000000000 ≤ a.toInt * b.toInt) (h2 : a.toInt * b.toInt ≤ 2000000000) : (a * b).toInt = a.toInt * b.toInt := by
  rw [Int32.toInt_mul]
  exact Int.bmod_eq_of_le (by omega) (by omega)
theorem pc_t0 : (0 : Int32).toInt = 0 := by decide
theorem pc_toN {a : Int32} (h : 0 ≤ a.toInt) : a = nI a.toInt.toNat := by
  have hx := Int32.toInt_lt a
  apply Int32.toInt_inj.mp
  rw [nI_toInt (by omega)]
  omega
theorem pc_pullB {b s : Int32} {x : Nat} (hb : 0 ≤ b.toInt ∧ b.toInt ≤ 40) (hs : -2 ≤ s.toInt ∧ s.toInt ≤ 2) (hx : x ≤ 50) : 0 ≤ (pc_pull b s (nI x)).toInt ∧ (pc_pull b s (nI x)).toInt ≤ 140 := by
  have hn : (nI x).toInt = (x : Int) := nI_toInt (by omega)
  have hp : -100 ≤ s.toInt * (x : Int) ∧ s.toInt * (x : Int) ≤ 100 := by
    have h5 : s.toInt = -2 ∨ s.toInt = -1 ∨ s.toInt = 0 ∨ s.toInt = 1 ∨ s.toInt = 2 := by omega
    rcases h5 with h | h | h | h | h <;> rw [h] <;> omega
  have e1 : (s * nI x).toInt = s.toInt * (x : Int) := by
    rw [pc_tmul (by rw [hn]; omega) (by rw [hn]; omega), hn]
  have e2 : (b + s * nI x).toInt = b.toInt + s.toInt * (x : Int) := by
    rw [pc_tadd (by rw [e1]; omega) (by rw [e1]; omega), e1]
  unfold pc_pull
  by_cases h : b + s * nI x < 0
  · rw [if_pos h, pc_t0]; omega
  · rw [if_neg h]
    rw [Int32.lt_iff_toInt_lt, pc_t0, e2] at h
    rw [e2]; omega
theorem pc_inB {g : Nat → Int32} (hg : ∀ j, 0 ≤ (g j).toInt ∧ (g j).toInt ≤ 20) (s : Int32) (v : Nat) : ∀ n, n ≤ 7 → ∀ a : Int32, 0 ≤ a.toInt → a.toInt ≤ 10000 → 0 ≤ (pc_in g s v n a).toInt ∧ (pc_in g s v n a).toInt ≤ a.toInt + 20 * n := by
  intro n
  induction n with
  | zero => intro _ a h0 h1; exact ⟨h0, by show a.toInt ≤ _; omega⟩
  | succ n ih =>
    intro hn a h0 h1
    have hi := ih (by omega) a h0 h1
    have hj := hg (n * 7 + v)
    unfold pc_in
    by_cases hb : pc_bit s n = pc_bit s v
    · rw [if_pos hb]; omega
    · rw [if_neg hb, pc_tadd (by omega) (by omega)]; omega
theorem pc_outB {g sb ss tb ts : Nat → Int32} (hg : ∀ j, 0 ≤ (g j).toInt ∧ (g j).toInt ≤ 20) (h1 : ∀ j, 0 ≤ (sb j).toInt ∧ (sb j).toInt ≤ 40) (h2 : ∀ j, -2 ≤ (ss j).toInt ∧ (ss j).toInt ≤ 2) (h3 : ∀ j, 0 ≤ (tb j).toInt ∧ (tb j).toInt ≤ 40) (h4 : ∀ j, -2 ≤ (ts j).toInt ∧ (ts j).toInt ≤ 2) (s : Int32) {x : Nat} (hx : x ≤ 50) : ∀ n, n ≤ 7 → 0 ≤ (pc_out g sb ss tb ts s (nI x) n).toInt ∧ (pc_out g sb ss tb ts s (nI x) n).toInt ≤ 280 * n := by
  intro n
  induction n with
  | zero => intro _; exact ⟨by show 0 ≤ (0 : Int32).toInt; rw [pc_t0]; omega, by show (0 : Int32).toInt ≤ _; rw [pc_t0]; omega⟩
  | succ n ih =>
    intro hn
    have hi := ih (by omega)
    have hp : 0 ≤ (pc_at sb ss tb ts s (nI x) n).toInt ∧ (pc_at sb ss tb ts s (nI x) n).toInt ≤ 140 := by
      unfold pc_at
      by_cases hb : pc_bit s n = 0
      · rw [if_pos hb]; exact pc_pullB (h1 n) (h2 n) hx
      · rw [if_neg hb]; exact pc_pullB (h3 n) (h4 n) hx
    have ha := pc_tadd (a := pc_out g sb ss tb ts s (nI x) n) (b := pc_at sb ss tb ts s (nI x) n) (by omega) (by omega)
    have hq := pc_inB hg s n n (by omega) (pc_out g sb ss tb ts s (nI x) n + pc_at sb ss tb ts s (nI x) n) (by omega) (by omega)
    unfold pc_out
    omega
theorem pc_costB {g sb ss tb ts : Nat → Int32} (hg : ∀ j, 0 ≤ (g j).toInt ∧ (g j).toInt ≤ 20) (h1 : ∀ j, 0 ≤ (sb j).toInt ∧ (sb j).toInt ≤ 40) (h2 : ∀ j, -2 ≤ (ss j).toInt ∧ (ss j).toInt ≤ 2) (h3 : ∀ j, 0 ≤ (tb j).toInt ∧ (tb j).toInt ≤ 40) (h4 : ∀ j, -2 ≤ (ts j).toInt ∧ (ts j).toInt ≤ 2) (s : Int32) {x : Nat} (hx : x ≤ 50) : 0 ≤ (pc_cost g sb ss tb ts s (nI x)).toInt ∧ (pc_cost g sb ss tb ts s (nI x)).toInt ≤ 1960 := by
  have h := pc_outB hg h1 h2 h3 h4 s hx 7 (by omega)
  unfold pc_cost
  omega
/-! one cell changed -/
def pc_dl (s : Int32) (a b : Nat) (d : Int32) : Int32 := if pc_bit s a = pc_bit s b then 0 else d
theorem pc_inS (g : Nat → Int32) (s : Int32) (v : Nat) (e : Int32) : ∀ n a, pc_in g s v n (a - e) = pc_in g s v n a - e := by
  intro n
  induction n with
  | zero => intro a; rfl
  | succ n ih =>
    intro a
    unfold pc_in
    rw [ih a]
    by_cases hb : pc_bit s n = pc_bit s v
    · rw [if_pos hb, if_pos hb]
    · rw [if_neg hb, if_neg hb]; grind
theorem pc_inU {g g' : Nat → Int32} {a b : Nat} {d : Int32} (hb : b < 7) (h : ∀ u v, u < v → v < 7 → g' (u * 7 + v) = if u = a ∧ v = b then g (u * 7 + v) - d else g (u * 7 + v)) (s : Int32) (v : Nat) (hv : v < 7) : ∀ n, n ≤ v → ∀ c, pc_in g' s v n c = pc_in g s v n c - (if v = b ∧ a < n then pc_dl s a b d else 0) := by
  intro n
  induction n with
  | zero =>
    intro _ c
    rw [if_neg (by omega)]
    exact (Int32.sub_zero _).symm
  | succ n ih =>
    intro hn c
    have hi := ih (by omega) c
    have hh := h n v (by omega) hv
    unfold pc_in
    rw [hi, hh]
    by_cases e : n = a ∧ v = b
    · obtain ⟨rfl, rfl⟩ := e
      rw [if_neg (show ¬ (v = v ∧ n < n) by omega), if_pos (show v = v ∧ n < n + 1 by omega), if_pos (show n = n ∧ v = v from ⟨rfl, rfl⟩), Int32.sub_zero]
      unfold pc_dl
      by_cases hq : pc_bit s n = pc_bit s v
      · rw [if_pos hq, if_pos hq, if_pos hq, Int32.sub_zero]
      · rw [if_neg hq, if_neg hq, if_neg hq]; grind
    · rw [if_neg e]
      have ei : (if v = b ∧ a < n then pc_dl s a b d else 0) = (if v = b ∧ a < n + 1 then pc_dl s a b d else 0) := by
        by_cases e2 : v = b ∧ a < n
        · rw [if_pos e2, if_pos (by omega)]
        · rw [if_neg e2, if_neg (by omega)]
      rw [ei]
      by_cases hq : pc_bit s n = pc_bit s v
      · rw [if_pos hq, if_pos hq]
      · rw [if_neg hq, if_neg hq]; grind
theorem pc_outU {g g' sb ss tb ts : Nat → Int32} {a b : Nat} {d : Int32} (hab : a < b) (hb : b < 7) (h : ∀ u v, u < v → v < 7 → g' (u * 7 + v) = if u = a ∧ v = b then g (u * 7 + v) - d else g (u * 7 + v)) (s x : Int32) : ∀ n, n ≤ 7 → pc_out g' sb ss tb ts s x n = pc_out g sb ss tb ts s x n - (if b < n then pc_dl s a b d else 0) := by
  intro n
  induction n with
  | zero => intro _; rw [if_neg (by omega)]; exact (Int32.sub_zero _).symm
  | succ n ih =>
    intro hn
    have hi := ih (by omega)
    unfold pc_out
    rw [hi, pc_inU hb h s n (by omega) n (by omega)]
    have e1 : pc_out g sb ss tb ts s x n - (if b < n then pc_dl s a b d else 0) + pc_at sb ss tb ts s x n = (pc_out g sb ss tb ts s x n + pc_at sb ss tb ts s x n) - (if b < n then pc_dl s a b d else 0) := by grind
    rw [e1, pc_inS]
    by_cases e : n = b
    · subst e
      rw [if_neg (show ¬ n < n by omega), if_pos (show n = n ∧ a < n by omega), if_pos (show n < n + 1 by omega), Int32.sub_zero]
    · by_cases e2 : b < n
      · rw [if_pos e2, if_neg (show ¬ (n = b ∧ a < n) by omega), if_pos (show b < n + 1 by omega), Int32.sub_zero]
      · rw [if_neg e2, if_neg (show ¬ (n = b ∧ a < n) by omega), if_neg (show ¬ b < n + 1 by omega), Int32.sub_zero]
theorem pc_costU {g g' sb ss tb ts : Nat → Int32} {a b : Nat} {d : Int32} (hab : a < b) (hb : b < 7) (h : ∀ u v, u < v → v < 7 → g' (u * 7 + v) = if u = a ∧ v = b then g (u * 7 + v) - d else g (u * 7 + v)) (s x : Int32) : pc_cost g' sb ss tb ts s x = pc_cost g sb ss tb ts s x - pc_dl s a b d := by
  unfold pc_cost
  rw [pc_outU hab hb h s x 7 (by omega), if_pos hb]
theorem pc_costE {g g' sb ss tb ts : Nat → Int32} (h : ∀ u v, u < v → v < 7 → g' (u * 7 + v) = g (u * 7 + v)) (s x : Int32) : pc_cost g' sb ss tb ts s x = pc_cost g sb ss tb ts s x := by
  rw [pc_costU (a := 0) (b := 1) (d := 0) (by omega) (by omega) (fun u v h1 h2 => by rw [h u v h1 h2, Int32.sub_zero, ite_self]) s x]
  unfold pc_dl
  rw [ite_self, Int32.sub_zero]
theorem pc_dlC (s : Int32) (a b : Nat) (d : Int32) : pc_dl s a b d = pc_dl s b a d := by
  unfold pc_dl
  by_cases h : pc_bit s a = pc_bit s b
  · rw [if_pos h, if_pos h.symm]
  · rw [if_neg h, if_neg (fun z => h z.symm)]
