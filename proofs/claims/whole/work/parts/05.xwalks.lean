/-! the component's walks, each with a general post -/
theorem pc_10 : ¬ (1 : Int32) = 0 := by decide
theorem pc_ix (a b : Nat) : nI a * 7 + nI b = nI (a * 7 + b) := by
  rw [show (7 : Int32) = nI 7 from rfl, pk_mul, nI_add]
theorem pc_pull0 {b s x : Int32} (h : b + s * x ≤ 0) : pc_pull b s x = 0 := by
  unfold pc_pull
  by_cases e : b + s * x < 0
  · rw [if_pos e]
  · rw [if_neg e]; exact Int32.le_antisymm h (Int32.not_lt.mp e)
theorem pc_pullP {b s x : Int32} (h : 0 ≤ b + s * x) : pc_pull b s x = b + s * x := if_neg (Int32.not_lt.mpr h)
theorem xw_isOn {post : Int32 → Prop} {s : Int32} {v : Nat} (h : post (pc_bit s v)) : wpX_isOn post s (nI v) :=
  br_c (fun e => by have e' : pc_bit s v = 1 := e; rw [e'] at h; exact h) (fun e => by have e' : pc_bit s v = 0 := pc_n1 e; rw [e'] at h; exact h)
theorem xw_pull {post : Int32 → Prop} {b s x : Int32} (h : post (pc_pull b s x)) : wpX_pullAt post b s x := by
  unfold wpX_pullAt
  refine nm_e (br_c (fun e => ?_) (fun e => ?_))
  · rw [pc_pullP e] at h; exact h
  · rw [pc_pull0 (Int32.le_of_lt (Int32.not_le.mp e))] at h; exact h
theorem xw_cell {post : Int32 → Prop} {u v : Nat} (hu : u < 7) (hv : v < 7) (h : post (nI (pc_cell u v))) : wpX_linkCell post (nI u) (nI v) := by
  unfold wpX_linkCell
  unfold pc_cell at h
  refine pk_le v u (fun e => ?_) (fun e => ?_)
  · rw [pc_ix]; rw [if_neg (by omega)] at h; exact h
  · rw [pc_ix]; rw [if_pos e] at h; exact h
theorem xw_in {post : Int32 → Prop} {J : Int32 → Int32 → Prop} {c sb ss tb ts : Nat → Int32} {s x : Int32} {v : Nat} (hv : v < 7) (a : Int32) (h : J (pc_in c s v v a) (nI (v + 1))) : ∃ n : Nat, wX_costOf_73 post J s x (nI v) (pc_bit s v) c sb ss tb ts n a 0 := by
  refine loop_0 (fun n i y => wX_costOf_73 post J s x (nI v) (pc_bit s v) c sb ss tb ts n y (nI i)) (fun i y => y = pc_in c s v i a) v a rfl ?_ ?_
  · rintro n y rfl
    exact br_t (nI_le (Nat.le_refl v) (by omega)) (nm_r (nI_1 v) h)
  · rintro n i y hi rfl hk
    refine br_f (nI_ge hi (by omega)) (xw_isOn ?_)
    refine br_c (fun e => nm_r (nI_1 i) (hk _ (if_pos e).symm)) (fun e => xw_cell (by omega) hv ⟨vp_in_nI (pc_cellB (by omega) hv) (by omega), nm_r (e' := pc_in c s v (i + 1) a) ?_ (nm_r (nI_1 i) (hk _ rfl))⟩)
    have h1 : pc_cell i v = i * 7 + v := if_pos hi
    rw [nI_clamp (Nat.lt_of_lt_of_le (pc_cellB (show i < 7 by omega) hv) (by decide)), h1]
    exact (if_neg e).symm
theorem xw_cost {post : Int32 → Prop} {c sb ss tb ts : Nat → Int32} {s x : Int32} (h : post (pc_cost c sb ss tb ts s x)) : wpX_costOf post (c, sb, ss, tb, ts) s x := by
  unfold wpX_costOf
  dsimp only
  refine loop_0 (fun n i y => wX_costOf_5 post s x c sb ss tb ts n y (nI i)) (fun i y => y = pc_out c sb ss tb ts s x i) 7 0 rfl ?_ ?_
  · intro n y hy
    refine br_t (nI_le (b := 7) (Nat.le_refl 7) (by decide)) ?_
    rw [show y = _ from hy]
    exact h
  · rintro n v y hv rfl hk
    have hi : vp_in (nI v) 7 := vp_in_nI hv (by decide)
    have K : ∃ n73 : Nat, wX_costOf_73 post (wX_costOf_5 post s x c sb ss tb ts n) s x (nI v) (pc_bit s v) c sb ss tb ts n73 (pc_out c sb ss tb ts s x v + pc_at sb ss tb ts s x v) 0 := xw_in hv _ (hk _ rfl)
    refine br_f (nI_ge (b := 7) hv (by decide)) (xw_isOn ?_)
    refine br_c (fun e => ⟨hi, hi, xw_pull (nm_r ?_ K)⟩) (fun e => ⟨hi, hi, xw_pull (nm_r ?_ K)⟩)
    · rw [nI_clamp (by omega)]; unfold pc_at; rw [if_pos e]
    · rw [nI_clamp (by omega)]; unfold pc_at; rw [if_neg e]
theorem xw_least {post : Int32 → Prop} {c sb ss tb ts : Nat → Int32} {x : Int32} (h : post (pc_least c sb ss tb ts x)) : wpX_leastCost post (c, sb, ss, tb, ts) x := by
  unfold wpX_leastCost
  dsimp only
  refine xw_cost ?_
  refine pk_loop (fun n i y => wX_leastCost_9 post x c sb ss tb ts n y (nI i)) (fun i y => y = pc_min (fun i => pc_cost c sb ss tb ts (nI i) x) i) 128 1 (pc_cost c sb ss tb ts 0 x) (by omega) (pc_min1 (fun i => pc_cost c sb ss tb ts (nI i) x)).symm ?_ ?_
  · intro n y hy
    refine br_t (nI_le (b := 128) (Nat.le_refl 128) (by decide)) ?_
    rw [show y = _ from hy]
    exact h
  · rintro n i y hi rfl hk
    refine br_f (nI_ge (b := 128) hi (by decide)) (xw_cost ?_)
    exact br_c (fun e => nm_r (nI_1 i) (hk _ (if_neg (Int32.not_lt.mpr e)).symm)) (fun e => nm_r (nI_1 i) (hk _ (if_pos (Int32.not_le.mp e)).symm))
theorem xw_common {post : Int32 → Prop} {c sb ss tb ts : Nat → Int32} {x r : Int32} (e : pc_always c sb ss tb ts x = r) (h : post r) : wpX_commonNodes post (c, sb, ss, tb, ts) x := by
  subst e
  unfold wpX_commonNodes
  dsimp only
  refine xw_least ?_
  refine loop_0 (fun n i y => wX_commonNodes_12 post x (pc_least c sb ss tb ts x) c sb ss tb ts n y (nI i)) (fun i y => y = pc_and (fun i => pc_cost c sb ss tb ts (nI i) x) (pc_least c sb ss tb ts x) i) 128 127 rfl ?_ ?_
  · intro n y hy
    refine br_t (nI_le (b := 128) (Nat.le_refl 128) (by decide)) ?_
    rw [show y = _ from hy]
    exact h
  · rintro n i y hi rfl hk
    refine br_f (nI_ge (b := 128) hi (by decide)) (xw_cost ?_)
    exact br_c (fun e => nm_e (nm_r (nI_1 i) (hk _ (if_pos e).symm))) (fun e => nm_r (nI_1 i) (hk _ (if_neg e).symm))
theorem xw_everL {post : Int32 → Prop} {c sb ss tb ts : Nat → Int32} {x : Int32} (h : post (pc_ever c sb ss tb ts x)) : ∃ n : Nat, wX_ever_21 post x (pc_least c sb ss tb ts x) c sb ss tb ts n 0 0 := by
  refine loop_0 (fun n i y => wX_ever_21 post x (pc_least c sb ss tb ts x) c sb ss tb ts n y (nI i)) (fun i y => y = pc_or (fun i => pc_cost c sb ss tb ts (nI i) x) (pc_least c sb ss tb ts x) i) 128 0 rfl ?_ ?_
  · intro n y hy
    refine br_t (nI_le (b := 128) (Nat.le_refl 128) (by decide)) ?_
    rw [show y = _ from hy]
    exact h
  · rintro n i y hi rfl hk
    refine br_f (nI_ge (b := 128) hi (by decide)) (xw_cost ?_)
    exact br_c (fun e => nm_e (nm_r (nI_1 i) (hk _ (if_pos e).symm))) (fun e => nm_r (nI_1 i) (hk _ (if_neg e).symm))
theorem xw_tiesL {post : Int32 → Prop} {c sb ss tb ts : Nat → Int32} {x : Int32} (h : post (pc_ties c sb ss tb ts x)) : ∃ n : Nat, wX_ties_21 post x (pc_least c sb ss tb ts x) c sb ss tb ts n 0 0 := by
  refine loop_0 (fun n i y => wX_ties_21 post x (pc_least c sb ss tb ts x) c sb ss tb ts n y (nI i)) (fun i y => y = pc_cnt (fun i => pc_cost c sb ss tb ts (nI i) x) (pc_least c sb ss tb ts x) i) 128 0 rfl ?_ ?_
  · intro n y hy
    refine br_t (nI_le (b := 128) (Nat.le_refl 128) (by decide)) ?_
    rw [show y = _ from hy]
    exact h
  · rintro n i y hi rfl hk
    refine br_f (nI_ge (b := 128) hi (by decide)) (xw_cost ?_)
    exact br_c (fun e => nm_e (nm_r (nI_1 i) (hk _ (if_pos e).symm))) (fun e => nm_r (nI_1 i) (hk _ (if_neg e).symm))
theorem xw_flip {post : SX → Prop} {c sb ss tb ts : Nat → Int32} (h : post (c, pc_mix 7 tb sb, pc_mix 7 ts ss, pc_mix 7 sb tb, pc_mix 7 ss ts)) : ∀ d i, i + d = 7 → wX_flip_2 post (d + 1) (nI i) c (pc_mix i tb sb) (pc_mix i ts ss) (pc_mix i sb tb) (pc_mix i ss ts) := by
  intro d
  induction d with
  | zero =>
    intro i hi
    obtain rfl : i = 7 := by omega
    exact br_t (nI_le (b := 7) (Nat.le_refl 7) (by decide)) h
  | succ d ih =>
    intro i hi
    have hv : vp_in (nI i) 7 := vp_in_nI (by omega) (by decide)
    have hn : (nI i).toNatClampNeg = i := nI_clamp (by omega)
    refine br_f (nI_ge (b := 7) (by omega) (by decide)) ⟨hv, nm_r (e' := sb i) ?_ ⟨hv, nm_r (e' := ss i) ?_ ⟨hv, hv, nm_r (e' := pc_mix (i + 1) tb sb) ?_ ⟨hv, hv, nm_r (e' := pc_mix (i + 1) ts ss) ?_ ⟨hv, nm_r (e' := pc_mix (i + 1) sb tb) ?_ ⟨hv, nm_r (e' := pc_mix (i + 1) ss ts) ?_ (nm_r (nI_1 i) (ih (i + 1) (by omega)))⟩⟩⟩⟩⟩⟩
    · rw [hn, pc_mixN]
    · rw [hn, pc_mixN]
    · rw [hn, pc_mixN, pc_mixS]
    · rw [hn, pc_mixN, pc_mixS]
    · rw [hn, pc_mixS]
    · rw [hn, pc_mixS]
def pc_M (g sb ss tb ts : Nat → Int32) (i : Nat) : Nat := (pc_always g sb ss tb ts (nI i)).toInt.toNat
theorem pc_MB (g sb ss tb ts : Nat → Int32) (i : Nat) : pc_M g sb ss tb ts i < 128 ∧ pc_always g sb ss tb ts (nI i) = nI (pc_M g sb ss tb ts i) := by
  obtain ⟨j, hj, e⟩ := pc_andN (fun k => pc_cost g sb ss tb ts (nI k) (nI i)) (pc_least g sb ss tb ts (nI i)) 128
  have e2 : pc_always g sb ss tb ts (nI i) = nI j := e
  have e3 : pc_M g sb ss tb ts i = j := by
    unfold pc_M
    rw [e2, nI_toInt (by omega)]
    omega
  rw [e3]
  exact ⟨hj, e2⟩
theorem xw_stagesL {post : Int32 → Prop} {c sb ss tb ts : Nat → Int32} (h : post (pc_stg (pc_M c sb ss tb ts) 51)) : ∀ d i L H, i + d = 51 → pc_LH (pc_M c sb ss tb ts) i L H → wX_stages_10 post c sb ss tb ts (d + 1) L H (pc_stg (pc_M c sb ss tb ts) i) (nI i) := by
  intro d
  induction d with
  | zero =>
    intro i L H hi _
    obtain rfl : i = 51 := by omega
    exact br_t (nI_lt (a := 50) (b := 51) (by omega) (by decide)) h
  | succ d ih =>
    intro i L H hi hLH
    obtain ⟨hM, eM⟩ := pc_MB c sb ss tb ts i
    refine br_f (nI_nlt (a := 50) (b := i) (by omega) (by decide)) (xw_common eM ?_)
    refine pk_le 64 (pc_M c sb ss tb ts i) (fun e => ?_) (fun e => ?_)
    · refine br_t rfl (fun m em => br_t rfl ?_)
      have hm : m.toBitVec = BitVec.twoPow 64 (pc_M c sb ss tb ts i - 64) := by
        rw [em, show (64 : Int32) = nI 64 from rfl, pk_sub e]
        exact pc_sh _ (by omega)
      obtain ⟨hz, hL⟩ := pc_LHh hLH e hM hm
      have K : ∀ t, t = pc_stg (pc_M c sb ss tb ts) (i + 1) → wX_stages_83 post (wX_stages_10 post c sb ss tb ts (d + 1)) L H t (nI i) 0 m c sb ss tb ts := by
        rintro t rfl
        exact br_t rfl (nm_e (nm_r (nI_1 i) (ih (i + 1) L (H ||| m) (by omega) hL)))
      exact br_c (fun z => nm_e (K _ (if_pos (hz.mp z)).symm)) (fun z => K _ (if_neg (fun y => z (hz.mpr y))).symm)
    · refine br_f pc_10 (fun m em => br_f pc_10 ?_)
      have hm : m.toBitVec = BitVec.twoPow 64 (pc_M c sb ss tb ts i) := by
        rw [em]
        exact pc_sh _ e
      obtain ⟨hz, hL⟩ := pc_LHl hLH e hm
      have K : ∀ t, t = pc_stg (pc_M c sb ss tb ts) (i + 1) → wX_stages_83 post (wX_stages_10 post c sb ss tb ts (d + 1)) L H t (nI i) 1 m c sb ss tb ts := by
        rintro t rfl
        exact br_f pc_10 (nm_e (nm_r (nI_1 i) (ih (i + 1) (L ||| m) H (by omega) hL)))
      exact br_c (fun z => nm_e (K _ (if_pos (hz.mp z)).symm)) (fun z => K _ (if_neg (fun y => z (hz.mpr y))).symm)
theorem xw_stages {post : Int32 → Prop} {c sb ss tb ts : Nat → Int32} (h : post (pc_stg (pc_M c sb ss tb ts) 51)) : wpX_stages post (c, sb, ss, tb, ts) := by
  unfold wpX_stages
  dsimp only
  exact ⟨52, xw_stagesL h 51 0 0 0 (by omega) (pc_LH0 _)⟩
def pc_worst (g sb ss tb ts : Nat → Int32) : Int32 := (pc_wst (fun i => pc_least g sb ss tb ts (nI i)) 51).1
theorem xw_worstL {post : Int32 → Prop} {c sb ss tb ts : Nat → Int32} (h : post (pc_worst c sb ss tb ts)) : ∀ d i, i + d = 51 → wX_worst_10 post c sb ss tb ts (d + 1) (pc_wst (fun i => pc_least c sb ss tb ts (nI i)) i).1 (pc_wst (fun i => pc_least c sb ss tb ts (nI i)) i).2 (nI i) := by
  intro d
  induction d with
  | zero =>
    intro i hi
    obtain rfl : i = 51 := by omega
    exact br_t (nI_lt (a := 50) (b := 51) (by omega) (by decide)) h
  | succ d ih =>
    intro i hi
    have K := ih (i + 1) (by omega)
    refine br_f (nI_nlt (a := 50) (b := i) (by omega) (by decide)) (xw_least (br_c (fun e => nm_r (nI_1 i) ?_) (fun e => nm_r (nI_1 i) ?_)))
    · rw [show pc_wst (fun i => pc_least c sb ss tb ts (nI i)) (i + 1) = pc_wst (fun i => pc_least c sb ss tb ts (nI i)) i from if_neg (Int32.not_lt.mpr e)] at K
      exact K
    · rw [show pc_wst (fun i => pc_least c sb ss tb ts (nI i)) (i + 1) = (nI i, pc_least c sb ss tb ts (nI i)) from if_pos (Int32.not_le.mp e)] at K
      dsimp only at K
      exact K
theorem xw_worst {post : Int32 → Prop} {c sb ss tb ts : Nat → Int32} (h : post (pc_worst c sb ss tb ts)) : wpX_worst post (c, sb, ss, tb, ts) := by
  unfold wpX_worst
  dsimp only
  refine xw_least ⟨51, ?_⟩
  have K := xw_worstL h 50 1 (by omega)
  rw [pc_wst1] at K
  dsimp only at K
  rw [nI_0] at K
  exact K
theorem xw_spareL {post : Int32 → Prop} {c sb ss tb ts : Nat → Int32} {x m r : Int32} {u v : Nat} (hu : u < 7) (hv : v < 7) (h : post (pc_room (fun i => pc_cost c sb ss tb ts (nI i) x) m r u v 128)) : ∃ n : Nat, wX_spare_42 post (nI u) (nI v) x m c sb ss tb ts n r 0 := by
  refine loop_0 (fun n i y => wX_spare_42 post (nI u) (nI v) x m c sb ss tb ts n y (nI i)) (fun i y => y = pc_room (fun i => pc_cost c sb ss tb ts (nI i) x) m r u v i) 128 r rfl ?_ ?_
  · intro n y hy
    refine br_t (nI_le (b := 128) (Nat.le_refl 128) (by decide)) ?_
    rw [show y = _ from hy]
    exact h
  · rintro n i y hi rfl hk
    refine br_f (nI_ge (b := 128) hi (by decide)) (xw_isOn (xw_isOn ?_))
    refine br_c (fun e => nm_r (nI_1 i) (hk _ (if_pos e).symm)) (fun e => xw_cost (nm_e ?_))
    exact br_c (fun z => nm_r (nI_1 i) (hk _ ((if_neg e).trans (if_neg (Int32.not_lt.mpr z))).symm)) (fun z => nm_r (nI_1 i) (hk _ ((if_neg e).trans (if_pos (Int32.not_le.mp z))).symm))
def pc_sep (f : Nat → Int32) (m : Int32) (u v : Nat) : Nat → Nat → Int32
  | 0, _ => 0
  | d + 1, i => if pc_bit (nI i) u = 0 then pc_sep f m u v d (i + 1) else if pc_bit (nI i) v = 0 then (if f i = m then 1 else pc_sep f m u v d (i + 1)) else pc_sep f m u v d (i + 1)
theorem xw_sepL {post : Int32 → Prop} {c sb ss tb ts : Nat → Int32} {x m : Int32} {u v : Nat} : ∀ d i, i + d = 128 → post (pc_sep (fun i => pc_cost c sb ss tb ts (nI i) x) m u v d i) → wX_separates_27 post (nI u) (nI v) x m c sb ss tb ts (d + 1) (nI i) := by
  intro d
  induction d with
  | zero =>
    intro i hi h
    obtain rfl : i = 128 := by omega
    exact br_t (nI_le (b := 128) (Nat.le_refl 128) (by decide)) h
  | succ d ih =>
    intro i hi h
    unfold pc_sep at h
    refine br_f (nI_ge (b := 128) (by omega) (by decide)) (xw_isOn (br_c (fun e => nm_r (nI_1 i) (ih (i + 1) (by omega) ?_)) (fun e => xw_isOn (br_c (fun e2 => xw_cost (br_c (fun e3 => ?_) (fun e3 => nm_r (nI_1 i) (ih (i + 1) (by omega) ?_)))) (fun e2 => nm_r (nI_1 i) (ih (i + 1) (by omega) ?_))))))
    · rw [if_pos e] at h; exact h
    · rw [if_neg e, if_pos e2, if_pos e3] at h; exact h
    · rw [if_neg e, if_pos e2, if_neg e3] at h; exact h
    · rw [if_neg e, if_neg e2] at h; exact h
