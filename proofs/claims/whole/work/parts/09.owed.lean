/-! ===== what is owed ===== -/
/-- both have chosen the same shape; the reference's arrays may hold anything -/
def i_Rel (_ : Nat) (u : SX) (v : SY) : Prop := u = v.1
theorem i_up {k : Nat} {u : SX} {v : SY} (h : i_Rel k u v) : i_Rel (k + 3) u v := h
theorem i_vc0 : wpX_init (fun u => wpY_init (fun v => i_Rel 0 u v)) := rfl
theorem i_vc_choose {k : Nat} {u : SX} {v : SY} (I : i_Rel k u v) (hk : k + 3 ≤ 1536) (v1 : Int32) : wpX_choose (fun r u' => wpY_choose (fun r' v' => r' = r ∧ i_Rel (k + 3) u' v') v v1) u v1 := by
  obtain ⟨f, a, b⟩ := v
  cases I
  have hv := cd_val_le v1
  unfold wpX_choose wpY_choose
  refine xw_sum v1 ?_
  refine pk_eq (cd_val v1) 0 (fun q => yw_sum v1 ?_) (fun q => yw_sum v1 ?_)
  · exact pk_eq (cd_val v1) 0 (fun _ => ⟨rfl, rfl⟩) (fun q2 => absurd q q2)
  · exact pk_eq (cd_val v1) 0 (fun q2 => absurd q2 q) (fun _ => ⟨rfl, rfl⟩)
theorem i_vc_shape {k : Nat} {u : SX} {v : SY} (I : i_Rel k u v) (hk : k + 3 ≤ 1536) : wpX_shape (fun r => wpY_shape (fun r' => r' = r ∧ i_Rel (k + 3) u v) v) u := by
  obtain ⟨f, a, b⟩ := v
  cases I
  exact ⟨rfl, rfl⟩
theorem i_vc_at {k : Nat} {u : SX} {v : SY} (I : i_Rel k u v) (hk : k + 3 ≤ 1536) (v1 : Int32) : wpX_at (fun r => wpY_at (fun r' v' => r' = r ∧ i_Rel (k + 3) u v') v v1) u v1 := by
  obtain ⟨f, a, b⟩ := v
  cases I
  unfold wpX_at wpY_at
  refine xw_char f v1 ?_
  exact yw_char f v1 (fun a' b' => ⟨rfl, rfl⟩)
theorem i_vc_character {k : Nat} {u : SX} {v : SY} (I : i_Rel k u v) (hk : k + 3 ≤ 1536) (v1 : Int32) (v2 : Int32) : wpX_character (fun r => wpY_character (fun r' v' => r' = r ∧ i_Rel (k + 3) u v') v v1 v2) u v1 v2 := by
  obtain ⟨f, a, b⟩ := v
  cases I
  exact xw_char v1 v2 (yw_char v1 v2 (fun a' b' => ⟨rfl, rfl⟩))
theorem i_vc_degree {k : Nat} {u : SX} {v : SY} (I : i_Rel k u v) (hk : k + 3 ≤ 1536) (v1 : Int32) : wpX_degree (fun r => wpY_degree (fun r' v' => r' = r ∧ i_Rel (k + 3) u v') v v1) u v1 := by
  obtain ⟨f, a, b⟩ := v
  cases I
  refine xw_deg v1 (fun q => yw_deg v1 (fun _ a' b' => ⟨rfl, rfl⟩) (fun s hs e h0 => ?_)) (fun s hs e h0 => yw_deg v1 (fun q => ?_) (fun s' hs' e' h0' a' b' => ?_))
  · rw [e, cd_val_nI hs] at q
    exact absurd q h0
  · rw [e, cd_val_nI hs] at q
    exact absurd q h0
  · rw [e, nI_eq (by omega) (by omega)] at e'
    rw [e']
    exact ⟨rfl, rfl⟩
theorem i_vc_count {k : Nat} {u : SX} {v : SY} (I : i_Rel k u v) (hk : k + 3 ≤ 1536) (v1 : Int32) : wpX_count (fun r => wpY_count (fun r' => r' = r ∧ i_Rel (k + 3) u v) v v1) u v1 := by
  obtain ⟨f, a, b⟩ := v
  cases I
  unfold wpX_count wpY_count
  refine xw_isSum v1 (fun h => br_t rfl ?_) (fun j h7 hj e => br_t rfl ?_) (fun j h1 h7 e => br_f cd_n10 ?_)
  · exact ⟨1, pk_le 4096 1 (fun q => absurd q (by omega)) (fun _ => br_t h ⟨rfl, rfl⟩)⟩
  · subst e
    refine ⟨4096, yw_countL (by omega) hj ?_ 4095 0 rfl⟩
    exact ⟨cd_fold_none h7 4095, rfl⟩
  · subst e
    refine ⟨659, xw_countL h7 ?_ 658 0 rfl⟩
    refine ⟨4096, yw_countL h1 (by omega) ?_ 4095 0 rfl⟩
    exact ⟨cd_fold_top (by omega), rfl⟩
theorem i_vc_partition {k : Nat} {u : SX} {v : SY} (I : i_Rel k u v) (hk : k + 3 ≤ 1536) (v1 : Int32) (v2 : Int32) : wpX_partition (fun r => wpY_partition (fun r' => r' = r ∧ i_Rel (k + 3) u v) v v1 v2) u v1 v2 := by
  obtain ⟨f, a, b⟩ := v
  cases I
  unfold wpX_partition wpY_partition
  refine xw_isSum v1 (fun h => br_t rfl ?_) (fun j h7 hj e => br_t rfl ?_) (fun j h1 h7 e => br_f cd_n10 ?_)
  · exact ⟨1, pk_le 4095 0 (fun q => absurd q (by omega)) (fun _ => br_t h ⟨rfl, rfl⟩)⟩
  · subst e
    refine ⟨4096, yw_partL (by omega) hj 4095 0 (by omega) ?_⟩
    exact ⟨cd_pd_none h7 4095 0, rfl⟩
  · subst e
    refine ⟨659, xw_partL h7 658 0 (by omega) ?_⟩
    refine ⟨4096, yw_partL h1 (by omega) 4095 0 (by omega) ?_⟩
    exact ⟨cd_pd_top (by omega), rfl⟩
theorem i_vc_turned {k : Nat} {u : SX} {v : SY} (I : i_Rel k u v) (hk : k + 3 ≤ 1536) (v1 : Int32) : wpX_turned (fun r => wpY_turned (fun r' => r' = r ∧ i_Rel (k + 3) u v) v v1) u v1 := by
  obtain ⟨f, a, b⟩ := v
  cases I
  have hv := cd_val_le v1
  unfold wpX_turned wpY_turned
  refine xw_sum v1 (pk_eq (cd_val v1) 0 (fun q => yw_sum v1 ?_) (fun q => ?_))
  · exact pk_eq (cd_val v1) 0 (fun _ => ⟨rfl, rfl⟩) (fun q2 => absurd q q2)
  · obtain ⟨s, hs, rfl, e⟩ := cd_val_ne q
    have hp := cd_pt_lt s 0
    refine xw_part (i := 0) hs (by decide) (pk_le (cd_pt s 0) 4 (fun q4 => ⟨5, xw_turnedL hs ?_ 4 0 rfl⟩) (fun q4 => ?_))
    · refine yw_sum (nI s) (pk_eq (cd_val (nI s)) 0 (fun q2 => absurd q2 q) (fun _ => yw_part 0 hs (by decide) (pk_le (cd_pt s 0) 4 (fun _ => ⟨5, yw_turnedL hs ?_ 4 0 rfl⟩) (fun z => absurd z (by omega)))))
      exact ⟨congrArg nI (cd_tu hs (by omega)).symm, rfl⟩
    · refine yw_sum (nI s) (pk_eq (cd_val (nI s)) 0 (fun q2 => absurd q2 q) (fun _ => yw_part 0 hs (by decide) (pk_le (cd_pt s 0) 4 (fun z => absurd z (by omega)) (fun _ => ⟨rfl, rfl⟩))))
theorem i_vc_permutations {k : Nat} {u : SX} {v : SY} (I : i_Rel k u v) (hk : k + 3 ≤ 1536) (v1 : Int32) : wpX_permutations (fun r => wpY_permutations (fun r' => r' = r ∧ i_Rel (k + 3) u v) v v1) u v1 := by
  obtain ⟨f, a, b⟩ := v
  cases I
  have hv := cd_val_le v1
  unfold wpX_permutations wpY_permutations
  refine xw_sum v1 (pk_eq (cd_val v1) 0 (fun q => yw_sum v1 ?_) (fun q => ?_))
  · exact pk_eq (cd_val v1) 0 (fun _ => ⟨rfl, rfl⟩) (fun q2 => absurd q q2)
  · obtain ⟨m, hm, rfl, e⟩ := cd_val_ne q
    obtain ⟨w1, w2, w3⟩ := cd_pe hm (by omega)
    refine xw_fac (by omega) (xw_writ hm (xw_quo ?_))
    refine yw_sum (nI m) (pk_eq (cd_val (nI m)) 0 (fun q2 => absurd q2 q) (fun _ => ?_))
    refine ⟨cd_val (nI m) - 1 + 1, yw_18 (by omega) ⟨5, yw_44 hm (by omega) (by omega) ?_ 4 0 rfl⟩ (cd_val (nI m) - 1) 1 (by omega)⟩
    refine ⟨?_, rfl⟩
    have z : ¬ nI (cd_wi m 4).1 = 0 := nI_ne0 (by omega) (by omega)
    unfold cd_quo
    rw [if_neg z, w1]
theorem i_vc_squares {k : Nat} {u : SX} {v : SY} (I : i_Rel k u v) (hk : k + 3 ≤ 1536) (v1 : Int32) : wpX_squares (fun r => wpY_squares (fun r' v' => r' = r ∧ i_Rel (k + 3) u v') v v1) u v1 := by
  obtain ⟨f, a, b⟩ := v
  cases I
  unfold wpX_squares wpY_squares
  refine xw_isSum v1 (fun h => br_t rfl ?_) (fun j h7 hj e => br_t rfl ?_) (fun j h1 h7 e => br_f cd_n10 ?_)
  · exact br_t (Int32.lt_of_le_of_lt h (by decide)) ⟨rfl, rfl⟩
  · subst e
    exact pk_lt j 1 (fun q => absurd q (by omega)) (fun _ => pk_le j 7 (fun q => absurd q (by omega)) (fun _ => ⟨rfl, rfl⟩))
  · subst e
    refine ⟨659, xw_squaresL h7 ?_ 658 0 rfl⟩
    refine pk_lt j 1 (fun q => absurd q (by omega)) (fun _ => pk_le j 7 (fun _ => ?_) (fun q => absurd q (by omega)))
    refine yw_ones (by omega) (fun a' b' hI => ⟨4096, yw_squaresL h7 hI ?_ 4095 0 rfl⟩)
    refine ⟨?_, rfl⟩
    rw [cd_fold_top (by omega)]
    refine cd_fold_ext (fun s hs e b => ?_) 658 (by omega)
    unfold cd_Gq
    rw [cd_dg hs (by omega), e]
theorem i_vc_vanishes {k : Nat} {u : SX} {v : SY} (I : i_Rel k u v) (hk : k + 3 ≤ 1536) (v1 : Int32) (v2 : Int32) : wpX_vanishes (fun r => wpY_vanishes (fun r' v' => r' = r ∧ i_Rel (k + 3) u v') v v1 v2) u v1 v2 := by
  obtain ⟨f, a, b⟩ := v
  cases I
  unfold wpX_vanishes wpY_vanishes
  refine xw_char v1 v2 (br_c (fun q => ?_) (fun q => ?_))
  · exact yw_char v1 v2 (fun a' b' => br_t q ⟨rfl, rfl⟩)
  · exact yw_char v1 v2 (fun a' b' => br_f q ⟨rfl, rfl⟩)
theorem i_vc_greatest {k : Nat} {u : SX} {v : SY} (I : i_Rel k u v) (hk : k + 3 ≤ 1536) (v1 : Int32) : wpX_greatest (fun r => wpY_greatest (fun r' v' => r' = r ∧ i_Rel (k + 3) u v') v v1) u v1 := by
  obtain ⟨f, a, b⟩ := v
  cases I
  have hv := cd_val_le v1
  unfold wpX_greatest wpY_greatest
  refine xw_sum v1 (pk_eq (cd_val v1) 0 (fun q => yw_sum v1 ?_) (fun q => ?_))
  · exact pk_eq (cd_val v1) 0 (fun _ => ⟨rfl, rfl⟩) (fun q2 => absurd q q2)
  · obtain ⟨m, hm, rfl, e⟩ := cd_val_ne q
    refine ⟨659, xw_greatestL hv hm ?_ 658 0 rfl⟩
    refine yw_sum (nI m) (pk_eq (cd_val (nI m)) 0 (fun q2 => absurd q2 q) (fun _ => ?_))
    refine yw_cyc hm (fun a' b' hI => ⟨4096, yw_greatestL hv hI ?_ 4095 0 rfl⟩)
    refine ⟨?_, rfl⟩
    rw [cd_fold_top q]
    refine cd_fold_ext (fun s hs e2 b => ?_) 658 (by omega)
    exact cd_Gg_c (c := fun s => nI (cd_g m 4 (cd_ix s))) (c' := fun s => nI (cd_cx s m)) (cd_ch hs hm (by omega) (by omega)).symm
theorem i_vc_support {k : Nat} {u : SX} {v : SY} (I : i_Rel k u v) (hk : k + 3 ≤ 1536) (v1 : Int32) : wpX_support (fun r => wpY_support (fun r' v' => r' = r ∧ i_Rel (k + 3) u v') v v1) u v1 := by
  obtain ⟨f, a, b⟩ := v
  cases I
  have hv := cd_val_le v1
  unfold wpX_support wpY_support
  refine xw_sum v1 (pk_eq (cd_val v1) 0 (fun q => yw_sum v1 ?_) (fun q => ?_))
  · exact pk_eq (cd_val v1) 0 (fun _ => ⟨rfl, rfl⟩) (fun q2 => absurd q q2)
  · obtain ⟨m, hm, rfl, e⟩ := cd_val_ne q
    refine ⟨659, xw_supportL hv hm ?_ 658 0 rfl⟩
    refine yw_sum (nI m) (pk_eq (cd_val (nI m)) 0 (fun q2 => absurd q2 q) (fun _ => ?_))
    refine yw_cyc hm (fun a' b' hI => ⟨4096, yw_supportL hv hI ?_ 4095 0 rfl⟩)
    refine ⟨?_, rfl⟩
    rw [cd_fold_top q]
    refine cd_fold_ext (fun s hs e2 b => ?_) 658 (by omega)
    exact cd_Gs_c (c := fun s => nI (cd_g m 4 (cd_ix s))) (c' := fun s => nI (cd_cx s m)) (cd_ch hs hm (by omega) (by omega)).symm
