/-! the links: one cell a pair in the component, two in the reference -/
def pc_bd (lo hi : Int) (f : Nat → Int32) : Prop := ∀ j, lo ≤ (f j).toInt ∧ (f j).toInt ≤ hi
theorem pc_bdU {lo hi : Int} {f : Nat → Int32} {k : Nat} {w : Int32} (h : pc_bd lo hi f) (hw : lo ≤ w.toInt ∧ w.toInt ≤ hi) : pc_bd lo hi (upd f k w) := by
  intro j
  by_cases e : j = k
  · subst e; rw [pk_us]; exact hw
  · rw [pk_un e]; exact h j
theorem pc_bd0 {lo hi : Int} (h1 : lo ≤ 0) (h2 : 0 ≤ hi) : pc_bd lo hi (fun _ => 0) := fun _ => by
  show lo ≤ (0 : Int32).toInt ∧ (0 : Int32).toInt ≤ hi
  rw [pc_t0]; exact ⟨h1, h2⟩
def pc_P (sb ss tb ts : Nat → Int32) : Prop := pc_bd 0 40 sb ∧ pc_bd (-2) 2 ss ∧ pc_bd 0 40 tb ∧ pc_bd (-2) 2 ts
def pc_R (c g : Nat → Int32) : Prop := pc_bd 0 20 g ∧ (∀ a b, a < 7 → b < 7 → g (a * 7 + b) = g (b * 7 + a)) ∧ (∀ a b, a < b → b < 7 → c (a * 7 + b) = g (a * 7 + b))
def pc_cell (u v : Nat) : Nat := if u < v then u * 7 + v else v * 7 + u
theorem pc_cellB {u v : Nat} (hu : u < 7) (hv : v < 7) : pc_cell u v < 49 := by
  unfold pc_cell
  by_cases h : u < v
  · rw [if_pos h]; omega
  · rw [if_neg h]; omega
theorem pc_Rold {c g : Nat → Int32} (h : pc_R c g) {u v : Nat} (hu : u < 7) (hv : v < 7) (hne : u ≠ v) : c (pc_cell u v) = g (u * 7 + v) := by
  unfold pc_cell
  by_cases e : u < v
  · rw [if_pos e]; exact h.2.2 u v e hv
  · rw [if_neg e, h.2.2 v u (by omega) hu]; exact h.2.1 v u hv hu
def pc_two (g : Nat → Int32) (u v : Nat) (w : Int32) : Nat → Int32 := upd (upd g (u * 7 + v) w) (v * 7 + u) w
theorem pc_twoI {g : Nat → Int32} {u v : Nat} {w : Int32} (hu : u < 7) (hv : v < 7) {a b : Nat} (ha : a < 7) (hb : b < 7) (h : (a = u ∧ b = v) ∨ (a = v ∧ b = u)) : pc_two g u v w (a * 7 + b) = w := by
  unfold pc_two
  rcases h with ⟨rfl, rfl⟩ | ⟨rfl, rfl⟩
  · by_cases e : a * 7 + b = b * 7 + a
    · rw [e, pk_us]
    · rw [pk_un e, pk_us]
  · exact pk_us
theorem pc_twoN {g : Nat → Int32} {u v : Nat} {w : Int32} (hu : u < 7) (hv : v < 7) {a b : Nat} (ha : a < 7) (hb : b < 7) (h : ¬ ((a = u ∧ b = v) ∨ (a = v ∧ b = u))) : pc_two g u v w (a * 7 + b) = g (a * 7 + b) := by
  unfold pc_two
  rw [pk_un (by omega), pk_un (by omega)]
theorem pc_Rlink {c g : Nat → Int32} (h : pc_R c g) {u v : Nat} (hu : u < 7) (hv : v < 7) (hne : u ≠ v) {w : Int32} (hw : 0 ≤ w.toInt ∧ w.toInt ≤ 20) : pc_R (upd c (pc_cell u v) w) (pc_two g u v w) := by
  refine ⟨pc_bdU (pc_bdU h.1 hw) hw, fun a b ha hb => ?_, fun a b hab hb => ?_⟩
  · by_cases e : (a = u ∧ b = v) ∨ (a = v ∧ b = u)
    · rw [pc_twoI hu hv ha hb e, pc_twoI hu hv hb ha (by omega)]
    · rw [pc_twoN hu hv ha hb e, pc_twoN hu hv hb ha (by omega)]
      exact h.2.1 a b ha hb
  · by_cases e : (a = u ∧ b = v) ∨ (a = v ∧ b = u)
    · rw [pc_twoI hu hv (by omega) hb e]
      have ec : a * 7 + b = pc_cell u v := by
        unfold pc_cell
        by_cases e2 : u < v
        · rw [if_pos e2]; omega
        · rw [if_neg e2]; omega
      rw [ec, pk_us]
    · rw [pc_twoN hu hv (by omega) hb e]
      have ec : a * 7 + b ≠ pc_cell u v := by
        unfold pc_cell
        by_cases e2 : u < v
        · rw [if_pos e2]; omega
        · rw [if_neg e2]; omega
      rw [pk_un ec]
      exact h.2.2 a b hab hb
/-- g' is g but for the two cells of the pair u, v -/
def pc_off (g g' : Nat → Int32) (u v : Nat) : Prop := pc_bd 0 20 g' ∧ ∀ a b, a < 7 → b < 7 → ¬ ((a = u ∧ b = v) ∨ (a = v ∧ b = u)) → g' (a * 7 + b) = g (a * 7 + b)
theorem pc_offU {g g' : Nat → Int32} {u v : Nat} (hu : u < 7) (hv : v < 7) (h : pc_off g g' u v) {w : Int32} (hw : 0 ≤ w.toInt ∧ w.toInt ≤ 20) : pc_off g (pc_two g' u v w) u v :=
  ⟨pc_bdU (pc_bdU h.1 hw) hw, fun a b ha hb e => by rw [pc_twoN hu hv ha hb e]; exact h.2 a b ha hb e⟩
/-- the cost with the pair's capacity k less -/
theorem pc_offC {g g' sb ss tb ts : Nat → Int32} {u v : Nat} (hu : u < 7) (hv : v < 7) (hne : u ≠ v) (hs : ∀ a b, a < 7 → b < 7 → g (a * 7 + b) = g (b * 7 + a)) (h : pc_off g g' u v) {d : Int32} (s x : Int32) : pc_cost (pc_two g' u v (g (u * 7 + v) - d)) sb ss tb ts s x = pc_cost g sb ss tb ts s x - pc_dl s u v d := by
  by_cases e : u < v
  · refine pc_costU e hv (fun a b hab hb => ?_) s x
    by_cases e2 : a = u ∧ b = v
    · rw [if_pos e2, pc_twoI hu hv (by omega) hb (Or.inl e2), e2.1, e2.2]
    · rw [if_neg e2, pc_twoN hu hv (by omega) hb (by omega)]
      exact h.2 a b (by omega) hb (by omega)
  · rw [pc_dlC]
    refine pc_costU (show v < u by omega) hu (fun a b hab hb => ?_) s x
    by_cases e2 : a = v ∧ b = u
    · rw [if_pos e2, pc_twoI hu hv (by omega) hb (Or.inr e2), e2.1, e2.2, hs v u hv hu]
    · rw [if_neg e2, pc_twoN hu hv (by omega) hb (by omega)]
      exact h.2 a b (by omega) hb (by omega)
theorem pc_offR {c g g' : Nat → Int32} {u v : Nat} (hu : u < 7) (hv : v < 7) (hR : pc_R c g) (h : pc_off g g' u v) : pc_R c (pc_two g' u v (g (u * 7 + v))) := by
  have E : ∀ a b, a < 7 → b < 7 → pc_two g' u v (g (u * 7 + v)) (a * 7 + b) = g (a * 7 + b) := by
    intro a b ha hb
    by_cases e : (a = u ∧ b = v) ∨ (a = v ∧ b = u)
    · rw [pc_twoI hu hv ha hb e]
      rcases e with ⟨rfl, rfl⟩ | ⟨rfl, rfl⟩
      · rfl
      · exact hR.2.1 b a hb ha
    · rw [pc_twoN hu hv ha hb e]; exact h.2 a b ha hb e
  refine ⟨pc_bdU (pc_bdU h.1 (hR.1 _)) (hR.1 _), fun a b ha hb => ?_, fun a b hab hb => ?_⟩
  · rw [E a b ha hb, E b a hb ha]; exact hR.2.1 a b ha hb
  · rw [E a b (by omega) hb]; exact hR.2.2 a b hab hb
/-- both sides reckon the same cost -/
theorem pc_Rcost {c g : Nat → Int32} (h : pc_R c g) (sb ss tb ts : Nat → Int32) (s x : Int32) : pc_cost c sb ss tb ts s x = pc_cost g sb ss tb ts s x := pc_costE h.2.2 s x
/-! flip -/
def pc_mix (n : Nat) (a b : Nat → Int32) : Nat → Int32 := fun j => if j < n then a j else b j
theorem pc_mix0 (a b : Nat → Int32) : pc_mix 0 a b = b := funext fun j => if_neg (by omega)
theorem pc_mixS (n : Nat) (a b : Nat → Int32) : upd (pc_mix n a b) n (a n) = pc_mix (n + 1) a b := by
  funext j
  show (if j = n then a n else if j < n then a j else b j) = if j < n + 1 then a j else b j
  by_cases e : j = n
  · subst e; rw [if_pos rfl, if_pos (by omega)]
  · by_cases e2 : j < n
    · rw [if_neg e, if_pos e2, if_pos (by omega)]
    · rw [if_neg e, if_neg e2, if_neg (by omega)]
theorem pc_mixN (n : Nat) (a b : Nat → Int32) : pc_mix n a b n = b n := if_neg (by omega)
theorem pc_mixB {lo hi : Int} {a b : Nat → Int32} (n : Nat) (ha : pc_bd lo hi a) (hb : pc_bd lo hi b) : pc_bd lo hi (pc_mix n a b) := by
  intro j
  unfold pc_mix
  by_cases e : j < n
  · rw [if_pos e]; exact ha j
  · rw [if_neg e]; exact hb j
