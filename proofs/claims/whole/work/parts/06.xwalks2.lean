/-! ===== the component's walks: degrees, counts, loops over the shapes ===== -/
theorem xw_facL {n : Nat} (hn : n < 1000) {post : Int32 → Prop} (h : post (nI (cd_fac n))) : ∀ k j, j + k = n → wX_factorial_4 post (nI n) (k + 1) (nI (cd_fac j)) (nI (j + 1)) := by
  intro k
  induction k with
  | zero =>
    intro j hj
    refine pk_lt n (j + 1) (fun _ => ?_) (fun q => absurd q (by omega))
    have e : j = n := by omega
    rw [e]
    exact h
  | succ k ih =>
    intro j hj
    exact pk_lt n (j + 1) (fun q => absurd q (by omega)) (fun _ => nm_r (pk_mul (cd_fac j) (j + 1)) (nm_r (nI_1 (j + 1)) (ih (j + 1) (by omega))))
theorem xw_fac {n : Nat} (hn : n < 1000) {post : Int32 → Prop} (h : post (nI (cd_fac n))) : wpX_factorial post (nI n) := by
  rcases Nat.eq_zero_or_pos n with e | e
  · subst e
    exact ⟨1, pk_lt 0 2 (fun _ => h) (fun q => absurd q (by omega))⟩
  · exact ⟨n - 1 + 1, xw_facL hn h (n - 1) 1 (by omega)⟩
theorem xw_quo {a b : Int32} {post : Int32 → Prop} (h : post (cd_quo a b)) : wpX_quotient post a b := by
  unfold cd_quo at h
  exact br_c (fun e => by rw [if_pos e] at h; exact h) (fun e => ⟨e, by rw [if_neg e] at h; exact h⟩)
theorem xw_degO {s : Nat} (hs : s < 4096) {post : Int32 → Prop} (h : post (cd_dI s)) : wpX_degreeOf post (nI s) := by
  have p0 := cd_pt_lt s 0
  have p1 := cd_pt_lt s 1
  have p2 := cd_pt_lt s 2
  have p3 := cd_pt_lt s 3
  have p4 := cd_sum_le s
  unfold wpX_degreeOf
  refine xw_pow0 hs (xw_pow1 hs (xw_pow2 hs (xw_pow3 hs (xw_sumN hs ?_))))
  refine xw_fac (by omega) (xw_dif (nm_e ?_))
  refine xw_fac (by omega) ?_
  refine xw_fac (by omega) ?_
  refine xw_fac (by omega) ?_
  refine xw_fac (by omega) (nm_e ?_)
  exact xw_quo h
theorem xw_deg (x : Int32) {c : Int32} {post : Int32 → Prop} (h0 : cd_val x = 0 → post (-1000000)) (h1 : ∀ s, s < 4096 → x = nI s → cd_sum s ≠ 0 → post (cd_dI s)) : wpX_degree post c x := by
  unfold wpX_degree
  refine xw_sum x ?_
  have hv := cd_val_le x
  refine pk_eq (cd_val x) 0 (fun q => h0 q) (fun q => ?_)
  obtain ⟨s, hs, rfl, e⟩ := cd_val_ne q
  exact xw_degO hs (h1 s hs rfl (by rw [← e]; exact q))
/-- the answer of 'character' -/
def cd_ans (x y : Int32) : Int32 := if cd_val x = 0 then -1000000 else if cd_val y = cd_val x then nI (cd_cx x.toNatClampNeg y.toNatClampNeg) else -1000000
theorem xw_char (x y : Int32) {c : Int32} {post : Int32 → Prop} (h : post (cd_ans x y)) : wpX_character post c x y := by
  unfold wpX_character
  unfold cd_ans at h
  refine xw_sum x ?_
  have hv := cd_val_le x
  have hw := cd_val_le y
  refine pk_eq (cd_val x) 0 (fun q => ?_) (fun q => xw_sum y (pk_eq (cd_val y) (cd_val x) (fun q2 => ?_) (fun q2 => ?_)))
  · rw [if_pos q] at h
    exact h
  · rw [if_neg q, if_pos q2] at h
    obtain ⟨s, hs, rfl, e⟩ := cd_val_ne q
    obtain ⟨m, hm, rfl, e2⟩ := cd_val_ne (x := y) (by rw [q2]; exact q)
    rw [nI_clamp (by omega), nI_clamp (by omega)] at h
    exact xw_coef hs hm h
  · rw [if_neg q, if_neg q2] at h
    exact h
theorem xw_isSum (x : Int32) {post : Int32 → Prop} (h0 : x ≤ 0 → post 0) (h7 : ∀ j, 7 < j → j < 2 ^ 31 → x = nI j → post 0) (h1 : ∀ j, 1 ≤ j → j ≤ 7 → x = nI j → post 1) : wpX_isSum post x := by
  rcases cd_tri x with h | ⟨j, hj, hj2, rfl⟩
  · exact br_t (Int32.lt_of_le_of_lt h (by decide)) (h0 h)
  · exact pk_lt j 1 (fun q => absurd q (by omega)) (fun _ => pk_lt 7 j (fun q => h7 j q hj2 rfl) (fun q => h1 j hj q rfl))
def cd_Gc (_ : Nat) (a : Int32) : Int32 := a + 1
def cd_Gq (d : Nat → Int32) (s : Nat) (a : Int32) : Int32 := a + d s * d s
def cd_Gg (c : Nat → Int32) (s : Nat) (a : Int32) : Int32 := if c s ≤ a then a else c s
def cd_Gs (c : Nat → Int32) (s : Nat) (a : Int32) : Int32 := if c s = 0 then a else a + 1
theorem cd_Gg_t {c : Nat → Int32} {s : Nat} {a : Int32} (h : c s ≤ a) : cd_Gg c s a = a := if_pos h
theorem cd_Gg_f {c : Nat → Int32} {s : Nat} {a : Int32} (h : ¬ c s ≤ a) : cd_Gg c s a = c s := if_neg h
theorem cd_Gs_t {c : Nat → Int32} {s : Nat} {a : Int32} (h : c s = 0) : cd_Gs c s a = a := if_pos h
theorem cd_Gs_f {c : Nat → Int32} {s : Nat} {a : Int32} (h : ¬ c s = 0) : cd_Gs c s a = a + 1 := if_neg h
theorem cd_Gg_c {c c' : Nat → Int32} {s : Nat} {a : Int32} (h : c s = c' s) : cd_Gg c s a = cd_Gg c' s a := by
  unfold cd_Gg
  rw [h]
theorem cd_Gs_c {c c' : Nat → Int32} {s : Nat} {a : Int32} (h : c s = c' s) : cd_Gs c s a = cd_Gs c' s a := by
  unfold cd_Gs
  rw [h]
theorem xw_countL {n : Nat} (hn : n ≤ 7) {c : Int32} {post : Int32 → Prop} (h : post (cd_fold n cd_Gc 0 658)) : ∀ k i, i + k = 658 → wX_count_13 post (nI n) c (k + 1) (cd_fold n cd_Gc 0 i) (nI (i + 1)) := by
  intro k
  induction k with
  | zero =>
    intro i hi
    refine pk_lt 658 (i + 1) (fun _ => ?_) (fun q => absurd q (by omega))
    have e : i = 658 := by omega
    rw [e]
    exact h
  | succ k ih =>
    intro i hi
    have hs := cd_sum_le (i + 1)
    have I := ih (i + 1) (by omega)
    refine pk_lt 658 (i + 1) (fun q => absurd q (by omega)) (fun _ => xw_sumN (by omega) ?_)
    refine pk_eq (cd_sum (i + 1)) n (fun q => nm_e (nm_r (nI_1 (i + 1)) ?_)) (fun q => nm_r (nI_1 (i + 1)) ?_)
    · rw [cd_fold_t q] at I
      exact I
    · rw [cd_fold_f q] at I
      exact I
theorem xw_squaresL {n : Nat} (hn : n ≤ 7) {c : Int32} {post : Int32 → Prop} (h : post (cd_fold n (cd_Gq cd_dI) 0 658)) : ∀ k i, i + k = 658 → wX_squares_14 post (nI n) c (k + 1) (cd_fold n (cd_Gq cd_dI) 0 i) (nI (i + 1)) := by
  intro k
  induction k with
  | zero =>
    intro i hi
    refine pk_lt 658 (i + 1) (fun _ => ?_) (fun q => absurd q (by omega))
    have e : i = 658 := by omega
    rw [e]
    exact h
  | succ k ih =>
    intro i hi
    have hs := cd_sum_le (i + 1)
    have I := ih (i + 1) (by omega)
    refine pk_lt 658 (i + 1) (fun q => absurd q (by omega)) (fun _ => xw_sumN (by omega) ?_)
    refine pk_eq (cd_sum (i + 1)) n (fun q => xw_degO (by omega) (nm_e (nm_r (nI_1 (i + 1)) ?_))) (fun q => nm_r (nI_1 (i + 1)) ?_)
    · rw [cd_fold_t q] at I
      exact I
    · rw [cd_fold_f q] at I
      exact I
theorem xw_greatestL {n m : Nat} (hn : n ≤ 7) (hm : m < 4096) {c : Int32} {post : Int32 → Prop} (h : post (cd_fold n (cd_Gg (fun s => nI (cd_cx s m))) (-1000000) 658)) : ∀ k i, i + k = 658 →
    wX_greatest_18 post (nI m) (nI n) c (k + 1) (cd_fold n (cd_Gg (fun s => nI (cd_cx s m))) (-1000000) i) (nI (i + 1)) := by
  intro k
  induction k with
  | zero =>
    intro i hi
    refine pk_lt 658 (i + 1) (fun _ => ?_) (fun q => absurd q (by omega))
    have e : i = 658 := by omega
    rw [e]
    exact h
  | succ k ih =>
    intro i hi
    have hs := cd_sum_le (i + 1)
    have I := ih (i + 1) (by omega)
    refine pk_lt 658 (i + 1) (fun q => absurd q (by omega)) (fun _ => xw_sumN (by omega) ?_)
    refine pk_eq (cd_sum (i + 1)) n (fun q => xw_coef (by omega) hm (br_c (fun q2 => nm_r (nI_1 (i + 1)) ?_) (fun q2 => nm_r (nI_1 (i + 1)) ?_))) (fun q => nm_r (nI_1 (i + 1)) ?_)
    · rw [cd_fold_t q] at I
      rw [cd_Gg_t (c := fun s => nI (cd_cx s m)) q2] at I
      exact I
    · rw [cd_fold_t q] at I
      rw [cd_Gg_f (c := fun s => nI (cd_cx s m)) q2] at I
      exact I
    · rw [cd_fold_f q] at I
      exact I
theorem xw_supportL {n m : Nat} (hn : n ≤ 7) (hm : m < 4096) {c : Int32} {post : Int32 → Prop} (h : post (cd_fold n (cd_Gs (fun s => nI (cd_cx s m))) 0 658)) : ∀ k i, i + k = 658 →
    wX_support_17 post (nI m) (nI n) c (k + 1) (cd_fold n (cd_Gs (fun s => nI (cd_cx s m))) 0 i) (nI (i + 1)) := by
  intro k
  induction k with
  | zero =>
    intro i hi
    refine pk_lt 658 (i + 1) (fun _ => ?_) (fun q => absurd q (by omega))
    have e : i = 658 := by omega
    rw [e]
    exact h
  | succ k ih =>
    intro i hi
    have hs := cd_sum_le (i + 1)
    have I := ih (i + 1) (by omega)
    refine pk_lt 658 (i + 1) (fun q => absurd q (by omega)) (fun _ => xw_sumN (by omega) ?_)
    refine pk_eq (cd_sum (i + 1)) n (fun q => xw_coef (by omega) hm (br_c (fun q2 => nm_r (nI_1 (i + 1)) ?_) (fun q2 => nm_e (nm_r (nI_1 (i + 1)) ?_)))) (fun q => nm_r (nI_1 (i + 1)) ?_)
    · rw [cd_fold_t q] at I
      rw [cd_Gs_t (c := fun s => nI (cd_cx s m)) q2] at I
      exact I
    · rw [cd_fold_t q] at I
      rw [cd_Gs_f (c := fun s => nI (cd_cx s m)) q2] at I
      exact I
    · rw [cd_fold_f q] at I
      exact I
theorem xw_partL {n : Nat} (hn : n ≤ 7) {K c : Int32} {post : Int32 → Prop} : ∀ j f, j ≤ 658 → post (cd_pd n K j f) → wX_partition_17 post (nI n) K c (j + 1) f (nI j) := by
  intro j
  induction j with
  | zero =>
    intro f hj h
    exact pk_lt 0 1 (fun _ => h) (fun q => absurd q (by omega))
  | succ j ih =>
    intro f hj h
    have hs := cd_sum_le (j + 1)
    refine pk_lt (j + 1) 1 (fun q => absurd q (by omega)) (fun _ => xw_sumN (by omega) ?_)
    refine pk_eq (cd_sum (j + 1)) n (fun q => br_c (fun e => ?_) (fun e => nm_e (nm_r (pk_m1 j) ?_))) (fun q => nm_r (pk_m1 j) ?_)
    · rw [cd_pd_r q e] at h
      exact h
    · rw [cd_pd_n q e] at h
      exact ih (f + 1) (by omega) h
    · rw [cd_pd_f q] at h
      exact ih f (by omega) h
theorem xw_turnedL {s : Nat} (hs : s < 4096) {c : Int32} {post : Int32 → Prop} (h : post (nI (cd_tx s 4))) : ∀ k i, i + k = 4 → wX_turned_23 post (nI s) c (k + 1) (nI (cd_tx s i)) (nI i) := by
  intro k
  induction k with
  | zero =>
    intro i hi
    refine pk_le 4 i (fun _ => ?_) (fun q => absurd q (by omega))
    have e : i = 4 := by omega
    rw [e]
    exact h
  | succ k ih =>
    intro i hi
    have hc := cd_cn_le s (i + 1) 4
    refine pk_le 4 i (fun q => absurd q (by omega)) (fun _ => xw_pal (nI_1 i) hs (by omega) ?_)
    have e : nI (cd_tx s i) + (nI (cd_cn s (i + 1) 4) <<< ((3 * nI i) &&& 31)) = nI (cd_tx s (i + 1)) := by
      rw [cd_shl (by omega) (by omega), nI_add]
      exact rfl
    exact nm_r e (nm_r (nI_1 i) (ih (i + 1) (by omega)))
theorem xw_writL {m : Nat} (hm : m < 4096) {post : Int32 → Prop} (h : post (nI (cd_wi m 4).1)) : ∀ k i, i + k = 4 → wX_writingsOf_9 post (nI m) (k + 1) (nI (cd_wi m i).1) (nI (cd_wi m i).2.1) (nI (cd_wi m i).2.2) (nI i) := by
  intro k
  induction k with
  | zero =>
    intro i hi
    refine pk_le 4 i (fun _ => ?_) (fun q => absurd q (by omega))
    have e : i = 4 := by omega
    rw [e]
    exact h
  | succ k ih =>
    intro i hi
    have hp := cd_pt_lt m i
    have hb := cd_wi_b m i
    have I := ih (i + 1) (by omega)
    refine pk_le 4 i (fun q => absurd q (by omega)) (fun _ => xw_part hm (by omega) ?_)
    refine pk_le (cd_pt m i) 0 (fun q => nm_r (nI_1 i) ?_) (fun q => ?_)
    · have e : cd_wi m (i + 1) = cd_wi m i := if_neg (by omega)
      rw [e] at I
      exact I
    · have e : cd_wi m (i + 1) = ((cd_wi m i).1 * (cd_pt m i * (if cd_pt m i = (cd_wi m i).2.1 then (cd_wi m i).2.2 + 1 else 1)), cd_pt m i, if cd_pt m i = (cd_wi m i).2.1 then (cd_wi m i).2.2 + 1 else 1) := if_pos q
      rw [e] at I
      refine pk_eq (cd_pt m i) (cd_wi m i).2.1 (fun q2 => ?_) (fun q2 => ?_)
      · rw [if_pos q2] at I
        rw [nI_1 (cd_wi m i).2.2]
        refine nm_r ?_ (nm_r (nI_1 i) I)
        rw [pk_mul, pk_mul]
      · rw [if_neg q2] at I
        refine nm_r ?_ (nm_r (nI_1 i) I)
        exact (congrArg (nI (cd_wi m i).1 * ·) (pk_mul (cd_pt m i) 1)).trans (pk_mul _ _)
theorem xw_writ {m : Nat} (hm : m < 4096) {post : Int32 → Prop} (h : post (nI (cd_wi m 4).1)) : wpX_writingsOf post (nI m) := ⟨5, xw_writL hm h 4 0 rfl⟩
