/-! the relation and the owed statements -/
def i_Rel (k : Nat) (u : SX) (v : SY) : Prop := ∃ c g sb ss tb ts sn : Nat → Int32, u = (c, sb, ss, tb, ts) ∧ v = (g, sb, ss, tb, ts, sn) ∧ pc_R c g ∧ pc_P sb ss tb ts
theorem i_mk {k : Nat} {c g sb ss tb ts sn : Nat → Int32} (hR : pc_R c g) (hP : pc_P sb ss tb ts) : i_Rel k (c, sb, ss, tb, ts) (g, sb, ss, tb, ts, sn) := ⟨c, g, sb, ss, tb, ts, sn, rfl, rfl, hR, hP⟩
theorem i_up {k : Nat} {u : SX} {v : SY} (h : i_Rel k u v) : i_Rel (k + 4) u v := h
theorem i_vc0 : wpX_init (fun u => wpY_init (fun v => i_Rel 0 u v)) :=
  i_mk (k := 0) ⟨pc_bd0 (by omega) (by omega), fun _ _ _ _ => rfl, fun _ _ _ _ => rfl⟩ ⟨pc_bd0 (by omega) (by omega), pc_bd0 (by omega) (by omega), pc_bd0 (by omega) (by omega), pc_bd0 (by omega) (by omega)⟩
theorem pc_RE {c g : Nat → Int32} (h : pc_R c g) (sb ss tb ts : Nat → Int32) : pc_cost c sb ss tb ts = pc_cost g sb ss tb ts := funext fun s => funext fun x => pc_Rcost h sb ss tb ts s x
theorem pc_RL {c g : Nat → Int32} (h : pc_R c g) (sb ss tb ts : Nat → Int32) : pc_least c sb ss tb ts = pc_least g sb ss tb ts := by
  funext x
  unfold pc_least
  rw [pc_RE h]
theorem pc_RA {c g : Nat → Int32} (h : pc_R c g) (sb ss tb ts : Nat → Int32) : pc_always c sb ss tb ts = pc_always g sb ss tb ts := by
  funext x
  unfold pc_always
  rw [pc_RE h, pc_RL h]
theorem i_vc_link {k : Nat} {u : SX} {v : SY} (I : i_Rel k u v) (hk : k + 4 ≤ 2048) (v1 : Int32) (v2 : Int32) (v3 : Int32) : wpX_link (fun r u' => wpY_link (fun r' v' => r' = r ∧ i_Rel (k + 4) u' v') v v1 v2 v3) u v1 v2 v3 := by
  obtain ⟨c, g, sb, ss, tb, ts, sn, rfl, rfl, hR, hP⟩ := I
  rcases pc_prs v1 v2 with h | ⟨p, q, hp, hq, hne, rfl, rfl⟩
  · exact xw_linkB h (yw_linkB h ⟨rfl, i_mk hR hP⟩)
  · rcases pc_cs v3 with h | ⟨h0, h1⟩
    · exact xw_linkC hp hq hne h (yw_linkC hp hq hne h ⟨rfl, i_mk hR hP⟩)
    · exact xw_link hp hq hne h0 h1 (yw_link hp hq hne h0 h1 ⟨(pc_Rold hR hp hq hne).symm, i_mk (pc_Rlink hR hp hq hne (pc_okC h0 h1)) hP⟩)
theorem i_vc_toSource {k : Nat} {u : SX} {v : SY} (I : i_Rel k u v) (hk : k + 4 ≤ 2048) (v1 : Int32) (v2 : Int32) (v3 : Int32) : wpX_toSource (fun r u' => wpY_toSource (fun r' v' => r' = r ∧ i_Rel (k + 4) u' v') v v1 v2 v3) u v1 v2 v3 := by
  obtain ⟨c, g, sb, ss, tb, ts, sn, rfl, rfl, hR, hP⟩ := I
  unfold wpX_toSource wpY_toSource
  dsimp only
  rcases pc_nd v1 with h | ⟨j, hj, rfl⟩
  · exact xw_nodeB h (br_t rfl (yw_nodeB h (br_t rfl ⟨rfl, i_mk hR hP⟩)))
  · refine xw_node hj (br_f pc_10 ?_)
    by_cases ho : pc_okL v2 v3
    · have hi : vp_in (nI j) 7 := vp_in_nI hj (by decide)
      obtain ⟨b1, b2⟩ := pc_okB ho
      refine xw_pl1 ho (br_f pc_10 ⟨hi, nm_e ⟨hi, nm_e ?_⟩⟩)
      exact yw_node hj (br_f pc_10 (yw_pl1 ho (br_f pc_10 ⟨hi, nm_e ⟨hi, nm_e ⟨rfl, i_mk hR ⟨pc_bdU hP.1 b1, pc_bdU hP.2.1 b2, hP.2.2.1, hP.2.2.2⟩⟩⟩⟩)))
    · exact xw_pl0 ho (br_t rfl (yw_node hj (br_f pc_10 (yw_pl0 ho (br_t rfl ⟨rfl, i_mk hR hP⟩)))))
theorem i_vc_toSink {k : Nat} {u : SX} {v : SY} (I : i_Rel k u v) (hk : k + 4 ≤ 2048) (v1 : Int32) (v2 : Int32) (v3 : Int32) : wpX_toSink (fun r u' => wpY_toSink (fun r' v' => r' = r ∧ i_Rel (k + 4) u' v') v v1 v2 v3) u v1 v2 v3 := by
  obtain ⟨c, g, sb, ss, tb, ts, sn, rfl, rfl, hR, hP⟩ := I
  unfold wpX_toSink wpY_toSink
  dsimp only
  rcases pc_nd v1 with h | ⟨j, hj, rfl⟩
  · exact xw_nodeB h (br_t rfl (yw_nodeB h (br_t rfl ⟨rfl, i_mk hR hP⟩)))
  · refine xw_node hj (br_f pc_10 ?_)
    by_cases ho : pc_okL v2 v3
    · have hi : vp_in (nI j) 7 := vp_in_nI hj (by decide)
      obtain ⟨b1, b2⟩ := pc_okB ho
      refine xw_pl1 ho (br_f pc_10 ⟨hi, nm_e ⟨hi, nm_e ?_⟩⟩)
      exact yw_node hj (br_f pc_10 (yw_pl1 ho (br_f pc_10 ⟨hi, nm_e ⟨hi, nm_e ⟨rfl, i_mk hR ⟨hP.1, hP.2.1, pc_bdU hP.2.2.1 b1, pc_bdU hP.2.2.2 b2⟩⟩⟩⟩)))
    · exact xw_pl0 ho (br_t rfl (yw_node hj (br_f pc_10 (yw_pl0 ho (br_t rfl ⟨rfl, i_mk hR hP⟩)))))
theorem i_vc_flip {k : Nat} {u : SX} {v : SY} (I : i_Rel k u v) (hk : k + 4 ≤ 2048) : wpX_flip (fun u' => wpY_flip (fun v' => i_Rel (k + 4) u' v') v) u := by
  obtain ⟨c, g, sb, ss, tb, ts, sn, rfl, rfl, hR, hP⟩ := I
  unfold wpX_flip wpY_flip
  dsimp only
  have hP' : pc_P (pc_mix 7 tb sb) (pc_mix 7 ts ss) (pc_mix 7 sb tb) (pc_mix 7 ss ts) := ⟨pc_mixB 7 hP.2.2.1 hP.1, pc_mixB 7 hP.2.2.2 hP.2.1, pc_mixB 7 hP.1 hP.2.2.1, pc_mixB 7 hP.2.1 hP.2.2.2⟩
  have KY := yw_flip (post := fun v' => i_Rel (k + 4) (c, pc_mix 7 tb sb, pc_mix 7 ts ss, pc_mix 7 sb tb, pc_mix 7 ss ts) v') (g := g) (sb := sb) (ss := ss) (tb := tb) (ts := ts) (sn := sn) (i_mk hR hP') 7 0 (by omega)
  rw [pc_mix0, pc_mix0, pc_mix0, pc_mix0] at KY
  have KX := xw_flip (post := fun u' => ∃ n2 : Nat, wY_flip_2 (fun v' => i_Rel (k + 4) u' v') n2 0 g sb ss tb ts sn) (c := c) (sb := sb) (ss := ss) (tb := tb) (ts := ts) ⟨8, KY⟩ 7 0 (by omega)
  rw [pc_mix0, pc_mix0, pc_mix0, pc_mix0] at KX
  exact ⟨8, KX⟩
theorem i_vc_cost {k : Nat} {u : SX} {v : SY} (I : i_Rel k u v) (hk : k + 4 ≤ 2048) (v1 : Int32) (v2 : Int32) : wpX_cost (fun r => wpY_cost (fun r' => r' = r ∧ i_Rel (k + 4) u v) v v1 v2) u v1 v2 := by
  obtain ⟨c, g, sb, ss, tb, ts, sn, rfl, rfl, hR, hP⟩ := I
  unfold wpX_cost wpY_cost
  dsimp only
  rcases pc_xs v2 with h | ⟨j, hj, rfl⟩
  · exact xw_isXB h (br_t rfl (yw_numB h (br_t rfl ⟨rfl, i_mk hR hP⟩)))
  · refine xw_isX hj (br_f pc_10 (xw_cost ?_))
    rw [pc_RE hR]
    exact yw_num hj (br_f pc_10 (yw_price ⟨rfl, i_mk hR hP⟩))
theorem i_vc_least {k : Nat} {u : SX} {v : SY} (I : i_Rel k u v) (hk : k + 4 ≤ 2048) (v1 : Int32) : wpX_least (fun r => wpY_least (fun r' => r' = r ∧ i_Rel (k + 4) u v) v v1) u v1 := by
  obtain ⟨c, g, sb, ss, tb, ts, sn, rfl, rfl, hR, hP⟩ := I
  unfold wpX_least
  dsimp only
  rcases pc_xs v1 with h | ⟨j, hj, rfl⟩
  · refine xw_isXB h (br_t rfl ?_)
    unfold wpY_least
    exact yw_numB h (br_t rfl ⟨rfl, i_mk hR hP⟩)
  · refine xw_isX hj (br_f pc_10 (xw_least ?_))
    exact yw_least hj ⟨by rw [pc_RL hR], i_mk hR hP⟩
theorem i_vc_always {k : Nat} {u : SX} {v : SY} (I : i_Rel k u v) (hk : k + 4 ≤ 2048) (v1 : Int32) : wpX_always (fun r => wpY_always (fun r' => r' = r ∧ i_Rel (k + 4) u v) v v1) u v1 := by
  obtain ⟨c, g, sb, ss, tb, ts, sn, rfl, rfl, hR, hP⟩ := I
  unfold wpX_always
  dsimp only
  rcases pc_xs v1 with h | ⟨j, hj, rfl⟩
  · refine xw_isXB h (br_t rfl ?_)
    unfold wpY_always
    exact yw_numB h (br_t rfl ⟨rfl, i_mk hR hP⟩)
  · refine xw_isX hj (br_f pc_10 (xw_common rfl ?_))
    exact yw_always hj rfl ⟨by rw [pc_RA hR], i_mk hR hP⟩
theorem i_vc_ever {k : Nat} {u : SX} {v : SY} (I : i_Rel k u v) (hk : k + 4 ≤ 2048) (v1 : Int32) : wpX_ever (fun r => wpY_ever (fun r' => r' = r ∧ i_Rel (k + 4) u v) v v1) u v1 := by
  obtain ⟨c, g, sb, ss, tb, ts, sn, rfl, rfl, hR, hP⟩ := I
  unfold wpX_ever wpY_ever
  dsimp only
  rcases pc_xs v1 with h | ⟨j, hj, rfl⟩
  · exact xw_isXB h (br_t rfl (yw_numB h (br_t rfl ⟨rfl, i_mk hR hP⟩)))
  · refine xw_isX hj (br_f pc_10 (xw_least (xw_everL ?_)))
    refine yw_num hj (br_f pc_10 (yw_least hj (yw_everL ⟨?_, i_mk hR hP⟩)))
    unfold pc_ever
    rw [pc_RE hR, pc_RL hR]
theorem i_vc_ties {k : Nat} {u : SX} {v : SY} (I : i_Rel k u v) (hk : k + 4 ≤ 2048) (v1 : Int32) : wpX_ties (fun r => wpY_ties (fun r' => r' = r ∧ i_Rel (k + 4) u v) v v1) u v1 := by
  obtain ⟨c, g, sb, ss, tb, ts, sn, rfl, rfl, hR, hP⟩ := I
  unfold wpX_ties wpY_ties
  dsimp only
  rcases pc_xs v1 with h | ⟨j, hj, rfl⟩
  · exact xw_isXB h (br_t rfl (yw_numB h (br_t rfl ⟨rfl, i_mk hR hP⟩)))
  · refine xw_isX hj (br_f pc_10 (xw_least (xw_tiesL ?_)))
    refine yw_num hj (br_f pc_10 (yw_least hj (yw_tiesL ⟨?_, i_mk hR hP⟩)))
    unfold pc_ties
    rw [pc_RE hR, pc_RL hR]
theorem i_vc_stages {k : Nat} {u : SX} {v : SY} (I : i_Rel k u v) (hk : k + 4 ≤ 2048) : wpX_stages (fun r => wpY_stages (fun r' v' => r' = r ∧ i_Rel (k + 4) u v') v) u := by
  obtain ⟨c, g, sb, ss, tb, ts, sn, rfl, rfl, hR, hP⟩ := I
  refine xw_stages (yw_stages (fun sn' => ⟨?_, i_mk hR hP⟩))
  have e : pc_M c sb ss tb ts = pc_M g sb ss tb ts := by
    funext i
    unfold pc_M
    rw [pc_RA hR]
  rw [e]
theorem i_vc_worst {k : Nat} {u : SX} {v : SY} (I : i_Rel k u v) (hk : k + 4 ≤ 2048) : wpX_worst (fun r => wpY_worst (fun r' => r' = r ∧ i_Rel (k + 4) u v) v) u := by
  obtain ⟨c, g, sb, ss, tb, ts, sn, rfl, rfl, hR, hP⟩ := I
  refine xw_worst (yw_worst ⟨?_, i_mk hR hP⟩)
  unfold pc_worst
  rw [pc_RL hR]
theorem i_vc_spare {k : Nat} {u : SX} {v : SY} (I : i_Rel k u v) (hk : k + 4 ≤ 2048) (v1 : Int32) (v2 : Int32) (v3 : Int32) : wpX_spare (fun r => wpY_spare (fun r' v' => r' = r ∧ i_Rel (k + 4) u v') v v1 v2 v3) u v1 v2 v3 := by
  obtain ⟨c, g, sb, ss, tb, ts, sn, rfl, rfl, hR, hP⟩ := I
  unfold wpX_spare wpY_spare
  dsimp only
  rcases pc_prs v1 v2 with h | ⟨p, q, hp, hq, hne, rfl, rfl⟩
  · exact xw_pairB h (br_t rfl (yw_pairB h ⟨rfl, i_mk hR hP⟩))
  · refine xw_pair hp hq hne (br_f pc_10 ?_)
    rcases pc_xs v3 with h | ⟨j, hj, rfl⟩
    · exact xw_isXB h (br_t rfl (yw_pair hp hq hne (yw_numB h (br_t rfl ⟨rfl, i_mk hR hP⟩))))
    · have hB := pc_cellB hp hq
      have hi : vp_in (nI (pc_cell p q)) 49 := vp_in_nI hB (by decide)
      have hn : (nI (pc_cell p q)).toNatClampNeg = pc_cell p q := nI_clamp (by omega)
      have hw := hR.1 (p * 7 + q)
      have ew : g (p * 7 + q) = nI (g (p * 7 + q)).toInt.toNat := pc_toN hw.1
      obtain ⟨R, hRw, eR, spec⟩ := pc_spare (f := fun i => pc_cost g sb ss tb ts (nI i) (nI j)) (c := g (p * 7 + q)) p q hw (fun i => pc_costB hR.1 hP.1 hP.2.1 hP.2.2.1 hP.2.2.2 (nI i) hj)
      have i1 : vp_in (nI p * 7 + nI q) 49 := by rw [pc_ix]; exact vp_in_nI (by omega) (by decide)
      have n1 : (nI p * 7 + nI q).toNatClampNeg = p * 7 + q := by rw [pc_ix]; exact nI_clamp (by omega)
      have eX : pc_room (fun i => pc_cost c sb ss tb ts (nI i) (nI j)) (pc_least c sb ss tb ts (nI j)) (g (p * 7 + q)) p q 128 = nI R := by
        rw [pc_RE hR, pc_RL hR]
        exact eR
      refine xw_isX hj (br_f pc_10 (xw_least (xw_cell hp hq ⟨hi, nm_r (e' := g (p * 7 + q)) (by rw [hn, pc_Rold hR hp hq hne]) (xw_spareL hp hq ?_)⟩)))
      rw [eX]
      refine yw_pair hp hq hne (yw_num hj (br_f pc_10 ⟨i1, nm_r (e' := nI (g (p * 7 + q)).toInt.toNat) (by rw [n1]; exact ew) (yw_least hj ⟨_, yw_spareL hp hq hne hR.2.1 ew (by omega) hj (by omega) (fun k' hk' f' hf' => spec k' (by omega) f' hf') (fun g' ho => ⟨rfl, ?_⟩) _ 0 g (Nat.zero_add _) (Nat.zero_le R) ⟨hR.1, fun _ _ _ _ _ => rfl⟩⟩)⟩))
      rw [← ew]
      exact i_mk (pc_offR hp hq hR ho) hP
theorem i_vc_separates {k : Nat} {u : SX} {v : SY} (I : i_Rel k u v) (hk : k + 4 ≤ 2048) (v1 : Int32) (v2 : Int32) (v3 : Int32) : wpX_separates (fun r => wpY_separates (fun r' => r' = r ∧ i_Rel (k + 4) u v) v v1 v2 v3) u v1 v2 v3 := by
  obtain ⟨c, g, sb, ss, tb, ts, sn, rfl, rfl, hR, hP⟩ := I
  unfold wpX_separates wpY_separates
  dsimp only
  rcases pc_prs v1 v2 with h | ⟨p, q, hp, hq, hne, rfl, rfl⟩
  · exact xw_pairB h (br_t rfl (yw_pairB h ⟨rfl, i_mk hR hP⟩))
  · refine xw_pair hp hq hne (br_f pc_10 ?_)
    rcases pc_xs v3 with h | ⟨j, hj, rfl⟩
    · exact xw_isXB h (br_t rfl (yw_pair hp hq hne (yw_numB h (br_t rfl ⟨rfl, i_mk hR hP⟩))))
    · refine xw_isX hj (br_f pc_10 (xw_least ⟨129, xw_sepL 128 0 (by omega) ?_⟩))
      refine yw_pair hp hq hne (yw_num hj (br_f pc_10 (yw_least hj ⟨129, yw_sepL 128 0 (by omega) ⟨?_, i_mk hR hP⟩⟩)))
      rw [pc_RE hR, pc_RL hR]
