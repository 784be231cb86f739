/-! the tests ahead of the calls, on both sides; the reference's spare -/
def pc_badN (p : Int32) : Prop := p < 0 ∨ (¬ p < 0 ∧ 7 ≤ p)
def pc_badX (p : Int32) : Prop := p < 0 ∨ (¬ p < 0 ∧ 50 < p)
def pc_badC (p : Int32) : Prop := p < 0 ∨ (¬ p < 0 ∧ ¬ p ≤ 20)
theorem pc_nd (p : Int32) : pc_badN p ∨ ∃ j : Nat, j < 7 ∧ p = nI j := by
  rcases pk_ix p (n := 7) (by decide) with h | h | h
  · exact Or.inl (Or.inl h)
  · by_cases e : p < 0
    · exact Or.inl (Or.inl e)
    · exact Or.inl (Or.inr ⟨e, h⟩)
  · exact Or.inr h
theorem pc_xs (p : Int32) : pc_badX p ∨ ∃ j : Nat, j ≤ 50 ∧ p = nI j := by
  by_cases e : p < 0
  · exact Or.inl (Or.inl e)
  · by_cases e2 : 50 < p
    · exact Or.inl (Or.inr ⟨e, e2⟩)
    · exact Or.inr (nI_of2 (M := 50) (n := 50) (by decide) e (Int32.not_lt.mp e2))
theorem pc_cs (p : Int32) : pc_badC p ∨ (¬ p < 0 ∧ p ≤ 20) := by
  by_cases e : p < 0
  · exact Or.inl (Or.inl e)
  · by_cases e2 : p ≤ 20
    · exact Or.inr ⟨e, e2⟩
    · exact Or.inl (Or.inr ⟨e, e2⟩)
def pc_badP (p q : Int32) : Prop := pc_badN p ∨ ∃ u : Nat, u < 7 ∧ p = nI u ∧ (pc_badN q ∨ q = p)
theorem pc_prs (p q : Int32) : pc_badP p q ∨ ∃ u v : Nat, u < 7 ∧ v < 7 ∧ u ≠ v ∧ p = nI u ∧ q = nI v := by
  rcases pc_nd p with h | ⟨u, hu, e1⟩
  · exact Or.inl (Or.inl h)
  · rcases pc_nd q with h | ⟨v, hv, e2⟩
    · exact Or.inl (Or.inr ⟨u, hu, e1, Or.inl h⟩)
    · by_cases e : u = v
      · exact Or.inl (Or.inr ⟨u, hu, e1, Or.inr (by rw [e1, e2, e])⟩)
      · exact Or.inr ⟨u, v, hu, hv, e, e1, e2⟩
theorem xw_nodeB {post : Int32 → Prop} {p : Int32} (h : pc_badN p) (hp : post 0) : wpX_isNode post p :=
  h.elim (fun e => br_t e hp) (fun e => br_f e.1 (br_t e.2 hp))
theorem xw_node {post : Int32 → Prop} {j : Nat} (hj : j < 7) (hp : post 1) : wpX_isNode post (nI j) :=
  br_f (nI_pos (by omega)) (br_f (nI_ge (b := 7) hj (by decide)) hp)
theorem yw_nodeB {post : Int32 → Prop} {g sb ss tb ts sn : Nat → Int32} {p : Int32} (h : pc_badN p) (hp : post 0) : wpY_isNode post (g, sb, ss, tb, ts, sn) p :=
  h.elim (fun e => br_t e hp) (fun e => br_f e.1 (br_t e.2 hp))
theorem xw_isXB {post : Int32 → Prop} {p : Int32} (h : pc_badX p) (hp : post 0) : wpX_isX post p :=
  h.elim (fun e => br_t e hp) (fun e => br_f e.1 (br_t e.2 hp))
theorem xw_isX {post : Int32 → Prop} {j : Nat} (hj : j ≤ 50) (hp : post 1) : wpX_isX post (nI j) :=
  br_f (nI_pos (by omega)) (br_f (nI_nlt (a := 50) (b := j) hj (by decide)) hp)
theorem yw_numB {post : Int32 → Prop} {g sb ss tb ts sn : Nat → Int32} {p : Int32} (h : pc_badX p) (hp : post 0) : wpY_isNumber post (g, sb, ss, tb, ts, sn) p :=
  h.elim (fun e => br_t e hp) (fun e => br_f e.1 (br_t e.2 hp))
theorem pc_nq {u v : Nat} (hu : u < 7) (hv : v < 7) (hne : u ≠ v) : ¬ nI u = nI v := fun z => hne ((nI_eq (by omega) (by omega)).mp z)
theorem xw_pairB {post : Int32 → Prop} {p q : Int32} (h : pc_badP p q) (hp : post 0) : wpX_isPair post p q := by
  rcases h with h | ⟨u, hu, rfl, h | rfl⟩
  · exact xw_nodeB h (br_t rfl hp)
  · exact xw_node hu (br_f pc_10 (xw_nodeB h (br_t rfl hp)))
  · exact xw_node hu (br_f pc_10 (xw_node hu (br_f pc_10 (br_t rfl hp))))
theorem xw_pair {post : Int32 → Prop} {u v : Nat} (hu : u < 7) (hv : v < 7) (hne : u ≠ v) (hp : post 1) : wpX_isPair post (nI u) (nI v) :=
  xw_node hu (br_f pc_10 (xw_node hv (br_f pc_10 (br_f (pc_nq hu hv hne) hp))))
theorem yw_pairB {A B : Prop} {g sb ss tb ts sn : Nat → Int32} {p q : Int32} (h : pc_badP p q) (a : A) : wpY_isNode (fun r => ((r = 0 → A) ∧ (¬ r = 0 → wpY_isNode (fun r' => ((r' = 0 → A) ∧ (¬ r' = 0 → ((p = q → A) ∧ (¬ p = q → B))))) (g, sb, ss, tb, ts, sn) q))) (g, sb, ss, tb, ts, sn) p := by
  rcases h with h | ⟨u, hu, rfl, h | rfl⟩
  · exact yw_nodeB h (br_t rfl a)
  · exact yw_node hu (br_f pc_10 (yw_nodeB h (br_t rfl a)))
  · exact yw_node hu (br_f pc_10 (yw_node hu (br_f pc_10 (br_t rfl a))))
theorem yw_pair {A B : Prop} {g sb ss tb ts sn : Nat → Int32} {u v : Nat} (hu : u < 7) (hv : v < 7) (hne : u ≠ v) (b : B) : wpY_isNode (fun r => ((r = 0 → A) ∧ (¬ r = 0 → wpY_isNode (fun r' => ((r' = 0 → A) ∧ (¬ r' = 0 → ((nI u = nI v → A) ∧ (¬ nI u = nI v → B))))) (g, sb, ss, tb, ts, sn) (nI v)))) (g, sb, ss, tb, ts, sn) (nI u) :=
  yw_node hu (br_f pc_10 (yw_node hv (br_f pc_10 (br_f (pc_nq hu hv hne) b))))
/-! link -/
theorem xw_linkB {post : Int32 → SX → Prop} {c sb ss tb ts : Nat → Int32} {p q w : Int32} (h : pc_badP p q) (hp : post (-1) (c, sb, ss, tb, ts)) : wpX_link post (c, sb, ss, tb, ts) p q w := by
  unfold wpX_link
  exact xw_pairB h (br_t rfl hp)
theorem xw_linkC {post : Int32 → SX → Prop} {c sb ss tb ts : Nat → Int32} {u v : Nat} {w : Int32} (hu : u < 7) (hv : v < 7) (hne : u ≠ v) (h : pc_badC w) (hp : post (-2) (c, sb, ss, tb, ts)) : wpX_link post (c, sb, ss, tb, ts) (nI u) (nI v) w := by
  unfold wpX_link
  exact xw_pair hu hv hne (br_f pc_10 (h.elim (fun e => br_t e hp) (fun e => br_f e.1 (br_f e.2 hp))))
theorem xw_link {post : Int32 → SX → Prop} {c sb ss tb ts : Nat → Int32} {u v : Nat} {w : Int32} (hu : u < 7) (hv : v < 7) (hne : u ≠ v) (h0 : ¬ w < 0) (h1 : w ≤ 20) (hp : post (c (pc_cell u v)) (upd c (pc_cell u v) w, sb, ss, tb, ts)) : wpX_link post (c, sb, ss, tb, ts) (nI u) (nI v) w := by
  have hB := pc_cellB hu hv
  have hi : vp_in (nI (pc_cell u v)) 49 := vp_in_nI hB (by decide)
  have hn : (nI (pc_cell u v)).toNatClampNeg = pc_cell u v := nI_clamp (by omega)
  unfold wpX_link
  exact xw_pair hu hv hne (br_f pc_10 (br_f h0 (br_t h1 (xw_cell hu hv ⟨hi, nm_r (e' := c (pc_cell u v)) (by rw [hn]) ⟨hi, nm_r (e' := upd c (pc_cell u v) w) (by rw [hn]) hp⟩⟩))))
theorem yw_linkB {post : Int32 → SY → Prop} {g sb ss tb ts sn : Nat → Int32} {p q w : Int32} (h : pc_badP p q) (hp : post (-1) (g, sb, ss, tb, ts, sn)) : wpY_link post (g, sb, ss, tb, ts, sn) p q w := by
  unfold wpY_link
  exact yw_pairB h hp
theorem yw_linkC {post : Int32 → SY → Prop} {g sb ss tb ts sn : Nat → Int32} {u v : Nat} {w : Int32} (hu : u < 7) (hv : v < 7) (hne : u ≠ v) (h : pc_badC w) (hp : post (-2) (g, sb, ss, tb, ts, sn)) : wpY_link post (g, sb, ss, tb, ts, sn) (nI u) (nI v) w := by
  unfold wpY_link
  exact yw_pair hu hv hne (h.elim (fun e => br_t e hp) (fun e => br_f e.1 (br_f e.2 hp)))
/-! the pulls' test -/
def pc_okL (a b : Int32) : Prop := ¬ a < 0 ∧ ¬ 40 < a ∧ ¬ b < (-2) ∧ ¬ 2 < b
theorem pc_okB {a b : Int32} (h : pc_okL a b) : (0 ≤ a.toInt ∧ a.toInt ≤ 40) ∧ (-2 ≤ b.toInt ∧ b.toInt ≤ 2) := by
  obtain ⟨h1, h2, h3, h4⟩ := h
  rw [Int32.lt_iff_toInt_lt] at h1 h2 h3 h4
  rw [show (0 : Int32).toInt = 0 by decide] at h1
  rw [show (40 : Int32).toInt = 40 by decide] at h2
  rw [show (-2 : Int32).toInt = -2 by decide] at h3
  rw [show (2 : Int32).toInt = 2 by decide] at h4
  omega
theorem pc_okC {w : Int32} (h0 : ¬ w < 0) (h1 : w ≤ 20) : 0 ≤ w.toInt ∧ w.toInt ≤ 20 := by
  rw [Int32.lt_iff_toInt_lt, show (0 : Int32).toInt = 0 by decide] at h0
  rw [Int32.le_iff_toInt_le, show (20 : Int32).toInt = 20 by decide] at h1
  omega
theorem xw_pl1 {post : Int32 → Prop} {a b : Int32} (h : pc_okL a b) (hp : post 1) : wpX_isPull post a b := br_f h.1 (br_f h.2.1 (br_f h.2.2.1 (br_f h.2.2.2 hp)))
theorem xw_pl0 {post : Int32 → Prop} {a b : Int32} (h : ¬ pc_okL a b) (hp : post 0) : wpX_isPull post a b := br_c (fun _ => hp) (fun h0 => br_c (fun _ => hp) (fun h1 => br_c (fun _ => hp) (fun h2 => br_c (fun _ => hp) (fun h3 => absurd ⟨h0, h1, h2, h3⟩ h))))
theorem yw_pl1 {post : Int32 → Prop} {g sb ss tb ts sn : Nat → Int32} {a b : Int32} (h : pc_okL a b) (hp : post 1) : wpY_isPull post (g, sb, ss, tb, ts, sn) a b := br_f h.1 (br_f h.2.1 (br_f h.2.2.1 (br_f h.2.2.2 hp)))
theorem yw_pl0 {post : Int32 → Prop} {g sb ss tb ts sn : Nat → Int32} {a b : Int32} (h : ¬ pc_okL a b) (hp : post 0) : wpY_isPull post (g, sb, ss, tb, ts, sn) a b := br_c (fun _ => hp) (fun h0 => br_c (fun _ => hp) (fun h1 => br_c (fun _ => hp) (fun h2 => br_c (fun _ => hp) (fun h3 => absurd ⟨h0, h1, h2, h3⟩ h))))
/-! the reference's spare -/
theorem yw_spare114 {post : Int32 → SY → Prop} {g sb ss tb ts sn : Nat → Int32} {u v w : Nat} {l : Int32} (hu : u < 7) (hv : v < 7) (hne : u ≠ v) (hw : w ≤ 20) (h : post l (pc_two g u v (nI w), sb, ss, tb, ts, sn)) : wY_spare_114 post (nI u) (nI v) (nI w) l g sb ss tb ts sn := by
  unfold wY_spare_114
  exact yw_link hu hv hne (nI_pos (by omega)) (nI_le (b := 20) hw (by decide)) h
theorem yw_spareL {post : Int32 → SY → Prop} {g sb ss tb ts sn : Nat → Int32} {u v w j R : Nat} (hu : u < 7) (hv : v < 7) (hne : u ≠ v) (hs : ∀ a b, a < 7 → b < 7 → g (a * 7 + b) = g (b * 7 + a)) (ew : g (u * 7 + v) = nI w) (hw : w ≤ 20) (hj : j ≤ 50) (hR : R ≤ w) (spec : ∀ k : Nat, k ≤ w → ∀ f' : Nat → Int32, (∀ i, f' i = pc_cost g sb ss tb ts (nI i) (nI j) - pc_dl (nI i) u v (nI k)) → (pc_min f' 128 = pc_least g sb ss tb ts (nI j) ↔ k ≤ R)) (h : ∀ g', pc_off g g' u v → post (nI R) (pc_two g' u v (nI w), sb, ss, tb, ts, sn)) : ∀ d k g', k + d = w → k ≤ R → pc_off g g' u v → wY_spare_60 post (nI u) (nI v) (nI j) (nI w) (pc_least g sb ss tb ts (nI j)) (d + 1 + 1) (nI k) 1 g' sb ss tb ts sn := by
  intro d
  induction d with
  | zero =>
    intro k g' hk hkR ho
    obtain rfl : k = R := by omega
    exact br_f pc_10 (br_t (nI_le (by omega) (by omega)) (yw_spare114 hu hv hne hw (h g' ho)))
  | succ d ih =>
    intro k g' hk hkR ho
    have ec : nI w - nI k - 1 = nI (w - (k + 1)) := by
      rw [pk_sub (by omega), show (1 : Int32) = nI 1 from rfl, pk_sub (by omega), Nat.sub_sub]
    have ed : g (u * 7 + v) - nI (k + 1) = nI (w - (k + 1)) := by rw [ew, pk_sub (by omega)]
    have hb : 0 ≤ (nI (w - (k + 1))).toInt ∧ (nI (w - (k + 1))).toInt ≤ 20 := by
      rw [nI_toInt (by omega)]; omega
    have ho' := pc_offU hu hv ho hb
    have hc : ∀ i : Nat, pc_cost (pc_two g' u v (nI (w - (k + 1)))) sb ss tb ts (nI i) (nI j) = pc_cost g sb ss tb ts (nI i) (nI j) - pc_dl (nI i) u v (nI (k + 1)) := by
      intro i
      rw [← ed]
      exact pc_offC hu hv hne hs ho (nI i) (nI j)
    have hsp := spec (k + 1) (by omega) (fun i => pc_cost (pc_two g' u v (nI (w - (k + 1)))) sb ss tb ts (nI i) (nI j)) hc
    refine br_f pc_10 (br_f (nI_ge (by omega) (by omega)) ?_)
    rw [ec]
    refine yw_link hu hv hne (nI_pos (by omega)) (nI_le (b := 20) (by omega) (by decide)) ?_
    refine yw_least hj (br_c (fun e => ?_) (fun e => ?_))
    · have hk1 : k + 1 ≤ R := hsp.mp e
      exact br_f pc_10 (nm_r (nI_1 k) (ih (k + 1) _ (by omega) hk1 ho'))
    · have hk1 : ¬ k + 1 ≤ R := fun z => e (hsp.mpr z)
      obtain rfl : k = R := by omega
      exact br_t rfl (br_t rfl (yw_spare114 hu hv hne hw (h _ ho')))
