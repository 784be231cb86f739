/-! the reference's walks, each with a general post -/
theorem yw_num {post : Int32 → Prop} {g sb ss tb ts sn : Nat → Int32} {j : Nat} (hj : j ≤ 50) (h : post 1) : wpY_isNumber post (g, sb, ss, tb, ts, sn) (nI j) :=
  br_f (nI_pos (by omega)) (br_f (nI_nlt (a := 50) (b := j) hj (by decide)) h)
theorem yw_node {post : Int32 → Prop} {g sb ss tb ts sn : Nat → Int32} {j : Nat} (hj : j < 7) (h : post 1) : wpY_isNode post (g, sb, ss, tb, ts, sn) (nI j) :=
  br_f (nI_pos (by omega)) (br_f (nI_ge (b := 7) hj (by decide)) h)
theorem yw_in {post : Int32 → Prop} {J : Int32 → Int32 → Prop} {g sb ss tb ts sn : Nat → Int32} {s x : Int32} {v : Nat} (hv : v < 7) (a : Int32) (h : J (pc_in g s v v a) (nI (v + 1))) : ∃ n : Nat, wY_price_85 post J s x (nI v) g sb ss tb ts sn n a 0 := by
  refine loop_0 (fun n i y => wY_price_85 post J s x (nI v) g sb ss tb ts sn n y (nI i)) (fun i y => y = pc_in g s v i a) v a rfl ?_ ?_
  · rintro n y rfl
    exact br_t (nI_le (Nat.le_refl v) (by omega)) (nm_r (nI_1 v) h)
  · rintro n i y hi rfl hk
    have hx : nI i * 7 + nI v = nI (i * 7 + v) := pc_ix i v
    refine br_f (nI_ge hi (by omega)) (br_c (fun e => nm_r (nI_1 i) (hk _ (if_pos e).symm)) (fun e => ⟨?_, nm_r (e' := pc_in g s v (i + 1) a) ?_ (nm_r (nI_1 i) (hk _ rfl))⟩))
    · rw [hx]; exact vp_in_nI (by omega) (by decide)
    · rw [hx, nI_clamp (by omega)]
      exact (if_neg e).symm
theorem yw_70 {post : Int32 → Prop} {J : Int32 → Int32 → Prop} {g sb ss tb ts sn : Nat → Int32} {s x a b t : Int32} {v : Nat} (K : ∃ n85 : Nat, wY_price_85 post J s x (nI v) g sb ss tb ts sn n85 (a + pc_pull b t x) 0) : wY_price_70 post J s x a (nI v) (b + t * x) g sb ss tb ts sn := by
  refine br_c (fun e => ?_) (fun e => nm_r (e' := a + pc_pull b t x) ?_ K)
  · rw [pc_pull0 e, Int32.add_zero] at K; exact K
  · rw [pc_pullP (Int32.le_of_lt (Int32.not_le.mp e))]
theorem yw_price {post : Int32 → Prop} {g sb ss tb ts sn : Nat → Int32} {s x : Int32} (h : post (pc_cost g sb ss tb ts s x)) : wpY_price post (g, sb, ss, tb, ts, sn) s x := by
  unfold wpY_price
  dsimp only
  refine loop_0 (fun n i y => wY_price_5 post s x g sb ss tb ts sn n y (nI i)) (fun i y => y = pc_out g sb ss tb ts s x i) 7 0 rfl ?_ ?_
  · intro n y hy
    refine br_t (nI_le (b := 7) (Nat.le_refl 7) (by decide)) ?_
    rw [show y = _ from hy]
    exact h
  · rintro n v y hv rfl hk
    have hi : vp_in (nI v) 7 := vp_in_nI hv (by decide)
    have hn : (nI v).toNatClampNeg = v := nI_clamp (by omega)
    have K : ∃ n85 : Nat, wY_price_85 post (wY_price_5 post s x g sb ss tb ts sn n) s x (nI v) g sb ss tb ts sn n85 (pc_out g sb ss tb ts s x v + pc_at sb ss tb ts s x v) 0 := yw_in hv _ (hk _ rfl)
    refine br_f (nI_ge (b := 7) hv (by decide)) (br_c (fun e => br_t rfl ⟨hi, hi, yw_70 ?_⟩) (fun e => br_f pc_10 ⟨hi, hi, yw_70 ?_⟩))
    · have ea : pc_at sb ss tb ts s x v = pc_pull (sb v) (ss v) x := if_pos e
      rw [hn, ← ea]; exact K
    · have ea : pc_at sb ss tb ts s x v = pc_pull (tb v) (ts v) x := if_neg e
      rw [hn, ← ea]; exact K
theorem yw_least {post : Int32 → Prop} {g sb ss tb ts sn : Nat → Int32} {j : Nat} (hj : j ≤ 50) (h : post (pc_least g sb ss tb ts (nI j))) : wpY_least post (g, sb, ss, tb, ts, sn) (nI j) := by
  unfold wpY_least
  dsimp only
  refine yw_num hj (br_f pc_10 (yw_price ?_))
  refine pk_loop (fun n i y => wY_least_20 post (nI j) g sb ss tb ts sn n y (nI i)) (fun i y => y = pc_min (fun i => pc_cost g sb ss tb ts (nI i) (nI j)) i) 128 1 (pc_cost g sb ss tb ts 0 (nI j)) (by omega) (pc_min1 (fun i => pc_cost g sb ss tb ts (nI i) (nI j))).symm ?_ ?_
  · intro n y hy
    refine br_t (nI_le (b := 128) (Nat.le_refl 128) (by decide)) ?_
    rw [show y = _ from hy]
    exact h
  · rintro n i y hi rfl hk
    refine br_f (nI_ge (b := 128) hi (by decide)) (yw_price ?_)
    exact br_c (fun e => nm_r (nI_1 i) (hk _ (if_neg (Int32.not_lt.mpr e)).symm)) (fun e => nm_r (nI_1 i) (hk _ (if_pos (Int32.not_le.mp e)).symm))
theorem yw_always {post : Int32 → Prop} {g sb ss tb ts sn : Nat → Int32} {j : Nat} {r : Int32} (hj : j ≤ 50) (e : pc_always g sb ss tb ts (nI j) = r) (h : post r) : wpY_always post (g, sb, ss, tb, ts, sn) (nI j) := by
  subst e
  unfold wpY_always
  dsimp only
  refine yw_num hj (br_f pc_10 (yw_least hj ?_))
  refine loop_0 (fun n i y => wY_always_23 post (nI j) (pc_least g sb ss tb ts (nI j)) g sb ss tb ts sn n y (nI i)) (fun i y => y = pc_and (fun i => pc_cost g sb ss tb ts (nI i) (nI j)) (pc_least g sb ss tb ts (nI j)) i) 128 127 rfl ?_ ?_
  · intro n y hy
    refine br_t (nI_le (b := 128) (Nat.le_refl 128) (by decide)) ?_
    rw [show y = _ from hy]
    exact h
  · rintro n i y hi rfl hk
    refine br_f (nI_ge (b := 128) hi (by decide)) (yw_price ?_)
    exact br_c (fun e => nm_e (nm_r (nI_1 i) (hk _ (if_pos e).symm))) (fun e => nm_r (nI_1 i) (hk _ (if_neg e).symm))
theorem yw_everL {post : Int32 → Prop} {g sb ss tb ts sn : Nat → Int32} {x : Int32} (h : post (pc_ever g sb ss tb ts x)) : ∃ n : Nat, wY_ever_22 post x (pc_least g sb ss tb ts x) g sb ss tb ts sn n 0 0 := by
  refine loop_0 (fun n i y => wY_ever_22 post x (pc_least g sb ss tb ts x) g sb ss tb ts sn n y (nI i)) (fun i y => y = pc_or (fun i => pc_cost g sb ss tb ts (nI i) x) (pc_least g sb ss tb ts x) i) 128 0 rfl ?_ ?_
  · intro n y hy
    refine br_t (nI_le (b := 128) (Nat.le_refl 128) (by decide)) ?_
    rw [show y = _ from hy]
    exact h
  · rintro n i y hi rfl hk
    refine br_f (nI_ge (b := 128) hi (by decide)) (yw_price ?_)
    exact br_c (fun e => nm_e (nm_r (nI_1 i) (hk _ (if_pos e).symm))) (fun e => nm_r (nI_1 i) (hk _ (if_neg e).symm))
theorem yw_tiesL {post : Int32 → Prop} {g sb ss tb ts sn : Nat → Int32} {x : Int32} (h : post (pc_ties g sb ss tb ts x)) : ∃ n : Nat, wY_ties_22 post x (pc_least g sb ss tb ts x) g sb ss tb ts sn n 0 0 := by
  refine loop_0 (fun n i y => wY_ties_22 post x (pc_least g sb ss tb ts x) g sb ss tb ts sn n y (nI i)) (fun i y => y = pc_cnt (fun i => pc_cost g sb ss tb ts (nI i) x) (pc_least g sb ss tb ts x) i) 128 0 rfl ?_ ?_
  · intro n y hy
    refine br_t (nI_le (b := 128) (Nat.le_refl 128) (by decide)) ?_
    rw [show y = _ from hy]
    exact h
  · rintro n i y hi rfl hk
    refine br_f (nI_ge (b := 128) hi (by decide)) (yw_price ?_)
    exact br_c (fun e => nm_e (nm_r (nI_1 i) (hk _ (if_pos e).symm))) (fun e => nm_r (nI_1 i) (hk _ (if_neg e).symm))
theorem yw_flip {post : SY → Prop} {g sb ss tb ts sn : Nat → Int32} (h : post (g, pc_mix 7 tb sb, pc_mix 7 ts ss, pc_mix 7 sb tb, pc_mix 7 ss ts, sn)) : ∀ d i, i + d = 7 → wY_flip_2 post (d + 1) (nI i) g (pc_mix i tb sb) (pc_mix i ts ss) (pc_mix i sb tb) (pc_mix i ss ts) sn := by
  intro d
  induction d with
  | zero =>
    intro i hi
    obtain rfl : i = 7 := by omega
    exact br_t (nI_le (b := 7) (Nat.le_refl 7) (by decide)) h
  | succ d ih =>
    intro i hi
    have hv : vp_in (nI i) 7 := vp_in_nI (by omega) (by decide)
    have hn : (nI i).toNatClampNeg = i := nI_clamp (by omega)
    refine br_f (nI_ge (b := 7) (by omega) (by decide)) ⟨hv, nm_r (e' := sb i) ?_ ⟨hv, nm_r (e' := ss i) ?_ ⟨hv, hv, nm_r (e' := pc_mix (i + 1) tb sb) ?_ ⟨hv, hv, nm_r (e' := pc_mix (i + 1) ts ss) ?_ ⟨hv, nm_r (e' := pc_mix (i + 1) sb tb) ?_ ⟨hv, nm_r (e' := pc_mix (i + 1) ss ts) ?_ (nm_r (nI_1 i) (ih (i + 1) (by omega)))⟩⟩⟩⟩⟩⟩
    · rw [hn, pc_mixN]
    · rw [hn, pc_mixN]
    · rw [hn, pc_mixN, pc_mixS]
    · rw [hn, pc_mixN, pc_mixS]
    · rw [hn, pc_mixS]
    · rw [hn, pc_mixS]
theorem pc_nb1 : vp_nar .boolean 1 = 1 := rfl
theorem pc_nb0 : vp_nar .boolean 0 = 0 := rfl
theorem yw_stagesL {post : Int32 → SY → Prop} {g sb ss tb ts : Nat → Int32} (h : ∀ sn, post (pc_stg (pc_M g sb ss tb ts) 51) (g, sb, ss, tb, ts, sn)) : ∀ d i a, i + d = 51 → pc_SN (pc_M g sb ss tb ts) i a → wY_stages_26 post (d + 1) (pc_stg (pc_M g sb ss tb ts) i) (nI i) g sb ss tb ts a := by
  intro d
  induction d with
  | zero =>
    intro i a hi _
    obtain rfl : i = 51 := by omega
    exact br_t (nI_lt (a := 50) (b := 51) (by omega) (by decide)) (h a)
  | succ d ih =>
    intro i a hi hS
    obtain ⟨hM, eM⟩ := pc_MB g sb ss tb ts i
    have hv : vp_in (nI (pc_M g sb ss tb ts i)) 128 := vp_in_nI hM (by decide)
    have hn : (nI (pc_M g sb ss tb ts i)).toNatClampNeg = pc_M g sb ss tb ts i := nI_clamp (by omega)
    have hu : upd a (nI (pc_M g sb ss tb ts i)).toNatClampNeg (vp_nar .boolean 1) = upd a (pc_M g sb ss tb ts i) 1 := by rw [hn, pc_nb1]
    have K : ∀ t, t = pc_stg (pc_M g sb ss tb ts) (i + 1) → wY_stages_26 post (d + 1) t (nI (i + 1)) g sb ss tb ts (upd a (pc_M g sb ss tb ts i) 1) := by
      rintro t rfl
      exact ih (i + 1) _ (by omega) (pc_SNs hS)
    refine br_f (nI_nlt (a := 50) (b := i) (by omega) (by decide)) (yw_always (by omega) eM ⟨hv, br_c (fun z => nm_e ⟨hv, nm_r hu (nm_r (nI_1 i) (K _ ?_))⟩) (fun z => ⟨hv, nm_r hu (nm_r (nI_1 i) (K _ ?_))⟩)⟩)
    · rw [hn, hS _ hM] at z
      refine (if_pos ?_).symm
      by_cases q : pc_seen (pc_M g sb ss tb ts) i (pc_M g sb ss tb ts i) = false
      · exact q
      · rw [if_neg q] at z; exact absurd z pc_10
    · rw [hn, hS _ hM] at z
      refine (if_neg ?_).symm
      intro q
      rw [if_pos q] at z; exact z rfl
theorem yw_stages0 {post : Int32 → SY → Prop} {g sb ss tb ts : Nat → Int32} (h : ∀ sn, post (pc_stg (pc_M g sb ss tb ts) 51) (g, sb, ss, tb, ts, sn)) : ∀ d i a, i + d = 128 → (∀ m, m < i → a m = 0) → wY_stages_4 post 0 (d + 1) (nI i) g sb ss tb ts a := by
  intro d
  induction d with
  | zero =>
    intro i a hi hz
    obtain rfl : i = 128 := by omega
    exact br_t (nI_le (b := 128) (Nat.le_refl 128) (by decide)) ⟨52, yw_stagesL h 51 0 a (by omega) (fun m hm => hz m hm)⟩
  | succ d ih =>
    intro i a hi hz
    have hu : upd a (nI i).toNatClampNeg (vp_nar .boolean 0) = upd a i 0 := by rw [nI_clamp (by omega), pc_nb0]
    refine br_f (nI_ge (b := 128) (by omega) (by decide)) ⟨vp_in_nI (by omega) (by decide), nm_r hu (nm_r (nI_1 i) (ih (i + 1) _ (by omega) (fun m hm => ?_)))⟩
    by_cases e : m = i
    · subst e; exact pk_us
    · rw [pk_un e]; exact hz m (by omega)
theorem yw_stages {post : Int32 → SY → Prop} {g sb ss tb ts sn : Nat → Int32} (h : ∀ sn, post (pc_stg (pc_M g sb ss tb ts) 51) (g, sb, ss, tb, ts, sn)) : wpY_stages post (g, sb, ss, tb, ts, sn) := by
  unfold wpY_stages
  dsimp only
  exact ⟨129, yw_stages0 h 128 0 sn (by omega) (fun m hm => absurd hm (by omega))⟩
theorem yw_worstL {post : Int32 → Prop} {g sb ss tb ts sn : Nat → Int32} (h : post (pc_worst g sb ss tb ts)) : ∀ d i, i + d = 51 → wY_worst_10 post g sb ss tb ts sn (d + 1) (pc_wst (fun i => pc_least g sb ss tb ts (nI i)) i).1 (pc_wst (fun i => pc_least g sb ss tb ts (nI i)) i).2 (nI i) := by
  intro d
  induction d with
  | zero =>
    intro i hi
    obtain rfl : i = 51 := by omega
    exact br_t (nI_lt (a := 50) (b := 51) (by omega) (by decide)) h
  | succ d ih =>
    intro i hi
    have K := ih (i + 1) (by omega)
    refine br_f (nI_nlt (a := 50) (b := i) (by omega) (by decide)) (yw_least (by omega) (br_c (fun e => nm_r (nI_1 i) ?_) (fun e => nm_r (nI_1 i) ?_)))
    · rw [show pc_wst (fun i => pc_least g sb ss tb ts (nI i)) (i + 1) = pc_wst (fun i => pc_least g sb ss tb ts (nI i)) i from if_neg (Int32.not_lt.mpr e)] at K
      exact K
    · rw [show pc_wst (fun i => pc_least g sb ss tb ts (nI i)) (i + 1) = (nI i, pc_least g sb ss tb ts (nI i)) from if_pos (Int32.not_le.mp e)] at K
      dsimp only at K
      exact K
theorem yw_worst {post : Int32 → Prop} {g sb ss tb ts sn : Nat → Int32} (h : post (pc_worst g sb ss tb ts)) : wpY_worst post (g, sb, ss, tb, ts, sn) := by
  unfold wpY_worst
  dsimp only
  refine yw_least (j := 0) (by omega) ⟨51, ?_⟩
  have K := yw_worstL (sn := sn) h 50 1 (by omega)
  rw [pc_wst1] at K
  dsimp only at K
  rw [nI_0] at K
  exact K
theorem yw_sepL {post : Int32 → Prop} {g sb ss tb ts sn : Nat → Int32} {x m : Int32} {u v : Nat} : ∀ d i, i + d = 128 → post (pc_sep (fun i => pc_cost g sb ss tb ts (nI i) x) m u v d i) → wY_separates_41 post (nI u) (nI v) x m g sb ss tb ts sn (d + 1) (nI i) := by
  intro d
  induction d with
  | zero =>
    intro i hi h
    obtain rfl : i = 128 := by omega
    exact br_t (nI_le (b := 128) (Nat.le_refl 128) (by decide)) h
  | succ d ih =>
    intro i hi h
    unfold pc_sep at h
    refine br_f (nI_ge (b := 128) (by omega) (by decide)) (br_c (fun e => nm_r (nI_1 i) (ih (i + 1) (by omega) ?_)) (fun e => br_c (fun e2 => yw_price (br_c (fun e3 => ?_) (fun e3 => nm_r (nI_1 i) (ih (i + 1) (by omega) ?_)))) (fun e2 => nm_r (nI_1 i) (ih (i + 1) (by omega) ?_))))
    · have e' : pc_bit (nI i) u = 0 := e
      rw [if_pos e'] at h; exact h
    · have e' : ¬ pc_bit (nI i) u = 0 := e
      have e2' : pc_bit (nI i) v = 0 := e2
      rw [if_neg e', if_pos e2', if_pos e3] at h; exact h
    · have e' : ¬ pc_bit (nI i) u = 0 := e
      have e2' : pc_bit (nI i) v = 0 := e2
      rw [if_neg e', if_pos e2', if_neg e3] at h; exact h
    · have e' : ¬ pc_bit (nI i) u = 0 := e
      have e2' : ¬ pc_bit (nI i) v = 0 := e2
      rw [if_neg e', if_neg e2'] at h; exact h
theorem yw_link {post : Int32 → SY → Prop} {g sb ss tb ts sn : Nat → Int32} {u v : Nat} (hu : u < 7) (hv : v < 7) (hne : u ≠ v) {w : Int32} (h0 : ¬ w < 0) (h1 : w ≤ 20) (h : post (g (u * 7 + v)) (pc_two g u v w, sb, ss, tb, ts, sn)) : wpY_link post (g, sb, ss, tb, ts, sn) (nI u) (nI v) w := by
  have i1 : vp_in (nI u * 7 + nI v) 49 := by rw [pc_ix]; exact vp_in_nI (by omega) (by decide)
  have i2 : vp_in (nI v * 7 + nI u) 49 := by rw [pc_ix]; exact vp_in_nI (by omega) (by decide)
  have n1 : (nI u * 7 + nI v).toNatClampNeg = u * 7 + v := by rw [pc_ix]; exact nI_clamp (by omega)
  have n2 : (nI v * 7 + nI u).toNatClampNeg = v * 7 + u := by rw [pc_ix]; exact nI_clamp (by omega)
  have hq : ¬ nI u = nI v := fun z => hne ((nI_eq (by omega) (by omega)).mp z)
  unfold wpY_link
  dsimp only
  refine yw_node hu (br_f pc_10 (yw_node hv (br_f pc_10 (br_f hq (br_f h0 (br_t h1 ⟨i1, nm_r (e' := g (u * 7 + v)) (by rw [n1]) ⟨i1, nm_r (e' := upd g (u * 7 + v) w) (by rw [n1]) ⟨i2, nm_r (e' := pc_two g u v w) ?_ h⟩⟩⟩))))))
  rw [n2]; rfl
