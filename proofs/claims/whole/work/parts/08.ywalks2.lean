/-! ===== the reference's public walks ===== -/
theorem yw_char (x y : Int32) {f : Int32} {a b : Nat → Int32} {post : Int32 → SY → Prop} (h : ∀ a' b', post (cd_ans x y) (f, a', b')) : wpY_character post (f, a, b) x y := by
  unfold wpY_character
  unfold cd_ans at h
  refine yw_sum x ?_
  have hv := cd_val_le x
  have hw := cd_val_le y
  refine pk_eq (cd_val x) 0 (fun q => ?_) (fun q => yw_sum y (pk_eq (cd_val x) (cd_val y) (fun q2 => ?_) (fun q2 => ?_)))
  · rw [if_pos q] at h
    exact h a b
  · rw [if_neg q, if_pos q2.symm] at h
    obtain ⟨s, hs, rfl, e⟩ := cd_val_ne q
    obtain ⟨m, hm, rfl, e2⟩ := cd_val_ne (x := y) (by rw [← q2]; exact q)
    rw [nI_clamp (by omega), nI_clamp (by omega)] at h
    refine yw_cyc hm (fun a' b' hI => yw_coef hs hI ?_)
    rw [← cd_ch hs hm (by omega) (by omega)]
    exact h a' b'
  · rw [if_neg q, if_neg (fun z => q2 z.symm)] at h
    exact h a b
theorem yw_deg (x : Int32) {f : Int32} {a b : Nat → Int32} {post : Int32 → SY → Prop} (h0 : cd_val x = 0 → ∀ a' b', post (-1000000) (f, a', b')) (h1 : ∀ s, s < 4096 → x = nI s → cd_sum s ≠ 0 → ∀ a' b', post (cd_dI s) (f, a', b')) : wpY_degree post (f, a, b) x := by
  unfold wpY_degree
  refine yw_sum x ?_
  have hv := cd_val_le x
  refine pk_eq (cd_val x) 0 (fun q => h0 q a b) (fun q => ?_)
  obtain ⟨s, hs, rfl, e⟩ := cd_val_ne q
  have q2 : cd_sum s ≠ 0 := by omega
  refine yw_ones (by omega) (fun a' b' hI => yw_coef hs hI ?_)
  rw [e, ← cd_dg hs q2]
  exact h1 s hs rfl q2 a' b'
theorem yw_countL {n : Nat} (hn : 1 ≤ n) (hn2 : n < 2 ^ 31) {f : Int32} {a b : Nat → Int32} {post : Int32 → Prop} (h : post (cd_fold n cd_Gc 0 4095)) : ∀ k i, i + k = 4095 → wY_count_4 post (nI n) f a b (k + 1) (cd_fold n cd_Gc 0 i) (nI (i + 1)) := by
  intro k
  induction k with
  | zero =>
    intro i hi
    refine pk_le 4096 (i + 1) (fun _ => ?_) (fun q => absurd q (by omega))
    have e : i = 4095 := by omega
    rw [e]
    exact h
  | succ k ih =>
    intro i hi
    have hs := cd_sum_le (i + 1)
    have I := ih (i + 1) (by omega)
    refine pk_le 4096 (i + 1) (fun q => absurd q (by omega)) (fun _ => pk_le n 0 (fun q => absurd q (by omega)) (fun _ => yw_sumN (by omega) ?_))
    refine pk_eq (cd_sum (i + 1)) n (fun q => nm_e (nm_r (nI_1 (i + 1)) ?_)) (fun q => nm_r (nI_1 (i + 1)) ?_)
    · rw [cd_fold_t q] at I
      exact I
    · rw [cd_fold_f q] at I
      exact I
theorem yw_partL {n : Nat} (hn : 1 ≤ n) (hn2 : n < 2 ^ 31) {K f : Int32} {a b : Nat → Int32} {post : Int32 → Prop} : ∀ j v, j ≤ 4095 → post (cd_pd n K j v) → wY_partition_7 post (nI n) K f a b (j + 1) v (nI j) := by
  intro j
  induction j with
  | zero =>
    intro v hj h
    exact pk_le 0 0 (fun _ => h) (fun q => absurd q (by omega))
  | succ j ih =>
    intro v hj h
    have hs := cd_sum_le (j + 1)
    refine pk_le (j + 1) 0 (fun q => absurd q (by omega)) (fun _ => pk_le n 0 (fun q => absurd q (by omega)) (fun _ => yw_sumN (by omega) ?_))
    refine pk_eq (cd_sum (j + 1)) n (fun q => br_c (fun e => ?_) (fun e => nm_e (nm_r (pk_m1 j) ?_))) (fun q => nm_r (pk_m1 j) ?_)
    · rw [cd_pd_r q e] at h
      exact h
    · rw [cd_pd_n q e] at h
      exact ih (v + 1) (by omega) h
    · rw [cd_pd_f q] at h
      exact ih v (by omega) h
theorem yw_turned36 {s i : Nat} (hs : s < 4096) (hi : i < 4) {x2 f : Int32} {a b : Nat → Int32} {post : Int32 → Prop} {J : Int32 → Int32 → Prop} (h : J (x2 ||| nI (cd_cn s (i + 1) 4 * 8 ^ i)) (nI (i + 1))) : ∀ k r, r + k = 4 → wY_turned_36 post J (nI s) x2 (nI i) f a b (k + 1) (nI (cd_cn s (i + 1) r)) (nI r) := by
  have hc := cd_cn_le s (i + 1) 4
  intro k
  induction k with
  | zero =>
    intro r hr
    refine pk_le 4 r (fun _ => ?_) (fun q => absurd q (by omega))
    have e : r = 4 := by omega
    rw [e]
    refine nm_r (congrArg (x2 ||| ·) (cd_shl (by omega) hi)) (nm_r (nI_1 i) h)
  | succ k ih =>
    intro r hr
    have hp := cd_pt_lt s r
    have I := ih (r + 1) (by omega)
    refine pk_le 4 r (fun q => absurd q (by omega)) (fun _ => yw_part r hs (by omega) ?_)
    refine pk_le (cd_pt s r) i (fun q => nm_r (nI_1 r) ?_) (fun q => nm_r (nI_1 _) (nm_r (nI_1 r) ?_))
    · rw [cd_cn_f (by omega)] at I
      exact I
    · rw [cd_cn_t (by omega)] at I
      exact I
theorem yw_turnedL {s : Nat} (hs : s < 4096) {f : Int32} {a b : Nat → Int32} {post : Int32 → Prop} (h : post (nI (cd_ty s 4))) : ∀ k i, i + k = 4 → wY_turned_25 post (nI s) f a b (k + 1) (nI (cd_ty s i)) (nI i) := by
  intro k
  induction k with
  | zero =>
    intro i hi
    refine pk_le 4 i (fun _ => ?_) (fun q => absurd q (by omega))
    have e : i = 4 := by omega
    rw [e]
    exact h
  | succ k ih =>
    intro i hi
    have I := ih (i + 1) (by omega)
    refine pk_le 4 i (fun q => absurd q (by omega)) (fun _ => ⟨5, yw_turned36 hs (by omega) ?_ 4 0 rfl⟩)
    rw [cd_or]
    exact I
theorem yw_86 {m i : Nat} {x1 x3 f : Int32} {a b : Nat → Int32} {t z : Nat} {post : Int32 → Prop} {J : Int32 → Int32 → Int32 → Prop} (h : J (nI (if 0 < cd_pt m i then t * cd_pt m i * z else t)) (nI z) (nI (i + 1))) : wY_permutations_86 post J x1 x3 (nI t) (nI i) (nI (cd_pt m i)) (nI z) f a b := by
  have hp := cd_pt_lt m i
  unfold wY_permutations_86
  refine pk_le (cd_pt m i) 0 (fun q => nm_r (nI_1 i) ?_) (fun q => nm_r ?_ (nm_r (nI_1 i) h))
  · rw [if_neg (by omega)] at h
    exact h
  · rw [pk_mul, pk_mul, if_pos q]
theorem yw_44 {m : Nat} (hm : m < 4096) {x3 f : Int32} {a b : Nat → Int32} {post : Int32 → Prop} (h1 : 1 ≤ (cd_yi m 4).1) (h2 : (cd_yi m 4).1 ≤ 5040) (h : post (x3 / nI (cd_yi m 4).1)) : ∀ k i, i + k = 4 → wY_permutations_44 post (nI m) x3 f a b (k + 1) (nI (cd_yi m i).1) (nI (cd_yi m i).2) (nI i) := by
  intro k
  induction k with
  | zero =>
    intro i hi
    refine pk_le 4 i (fun _ => ?_) (fun q => absurd q (by omega))
    have e : i = 4 := by omega
    rw [e]
    exact pk_le (cd_yi m 4).1 0 (fun q => absurd q (by omega)) (fun _ => ⟨nI_ne0 (by omega) (by omega), h⟩)
  | succ k ih =>
    intro i hi
    have hp := cd_pt_lt m i
    have hp1 := cd_pt_lt m (i - 1)
    have I := ih (i + 1) (by omega)
    have e : cd_yi m (i + 1) = (if 0 < cd_pt m i then (cd_yi m i).1 * cd_pt m i * cd_ag m i (cd_yi m i).2 else (cd_yi m i).1, cd_ag m i (cd_yi m i).2) := rfl
    rw [e] at I
    refine pk_le 4 i (fun q => absurd q (by omega)) (fun _ => yw_part i hm (by omega) ?_)
    refine pk_le i 0 (fun q => ?_) (fun q => ?_)
    · have g : cd_ag m i (cd_yi m i).2 = 1 := if_neg (fun z => absurd z.1 (by omega))
      rw [g] at I
      unfold wY_permutations_85
      exact yw_86 I
    · refine yw_part (i - 1) hm (by omega) ?_ (pk_sub (a := i) (b := 1) (by omega))
      refine pk_eq (cd_pt m i) (cd_pt m (i - 1)) (fun q2 => ?_) (fun q2 => ?_)
      · have g : cd_ag m i (cd_yi m i).2 = (cd_yi m i).2 + 1 := if_pos ⟨by omega, q2⟩
        rw [g] at I
        rw [nI_1 (cd_yi m i).2]
        exact yw_86 I
      · have g : cd_ag m i (cd_yi m i).2 = 1 := if_neg (fun z => q2 z.2)
        rw [g] at I
        unfold wY_permutations_85
        exact yw_86 I
theorem yw_18 {m n : Nat} (hn : n < 1000) {f : Int32} {a b : Nat → Int32} {post : Int32 → Prop} (h : ∃ n44, wY_permutations_44 post (nI m) (nI (cd_fac n)) f a b n44 1 0 0) : ∀ k j, j + k = n → wY_permutations_18 post (nI m) (nI n) f a b (k + 1) (nI (cd_fac j)) (nI (j + 1)) := by
  intro k
  induction k with
  | zero =>
    intro j hj
    refine pk_lt n (j + 1) (fun _ => ?_) (fun q => absurd q (by omega))
    have e : j = n := by omega
    rw [e]
    exact h
  | succ k ih =>
    intro j hj
    exact pk_lt n (j + 1) (fun q => absurd q (by omega)) (fun _ => nm_r (pk_mul (cd_fac j) (j + 1)) (nm_r (nI_1 (j + 1)) (ih (j + 1) (by omega))))
theorem yw_squaresL {n : Nat} (hn : n ≤ 7) {f : Int32} {a b : Nat → Int32} {g : Nat → Nat} (hI : cd_Is a g) {post : Int32 → SY → Prop} (h : post (cd_fold n (cd_Gq (fun s => nI (g (cd_ix s)))) 0 4095) (f, a, b)) : ∀ k i, i + k = 4095 → wY_squares_23 post (nI n) f a b (k + 1) (cd_fold n (cd_Gq (fun s => nI (g (cd_ix s)))) 0 i) (nI (i + 1)) := by
  intro k
  induction k with
  | zero =>
    intro i hi
    refine pk_le 4096 (i + 1) (fun _ => ?_) (fun q => absurd q (by omega))
    have e : i = 4095 := by omega
    rw [e]
    exact h
  | succ k ih =>
    intro i hi
    have hs := cd_sum_le (i + 1)
    have I := ih (i + 1) (by omega)
    refine pk_le 4096 (i + 1) (fun q => absurd q (by omega)) (fun _ => yw_sumN (by omega) ?_)
    refine pk_eq (cd_sum (i + 1)) n (fun q => yw_coef (by omega) hI (nm_e (nm_r (nI_1 (i + 1)) ?_))) (fun q => nm_r (nI_1 (i + 1)) ?_)
    · rw [cd_fold_t q] at I
      exact I
    · rw [cd_fold_f q] at I
      exact I
theorem yw_greatestL {n : Nat} (hn : n ≤ 7) {f : Int32} {a b : Nat → Int32} {g : Nat → Nat} (hI : cd_Is a g) {post : Int32 → SY → Prop} (h : post (cd_fold n (cd_Gg (fun s => nI (g (cd_ix s)))) (-1000000) 4095) (f, a, b)) : ∀ k i, i + k = 4095 → wY_greatest_24 post (nI n) f a b (k + 1) (cd_fold n (cd_Gg (fun s => nI (g (cd_ix s)))) (-1000000) i) (nI (i + 1)) := by
  intro k
  induction k with
  | zero =>
    intro i hi
    refine pk_le 4096 (i + 1) (fun _ => ?_) (fun q => absurd q (by omega))
    have e : i = 4095 := by omega
    rw [e]
    exact h
  | succ k ih =>
    intro i hi
    have hs := cd_sum_le (i + 1)
    have I := ih (i + 1) (by omega)
    refine pk_le 4096 (i + 1) (fun q => absurd q (by omega)) (fun _ => yw_sumN (by omega) ?_)
    refine pk_eq (cd_sum (i + 1)) n (fun q => yw_coef (by omega) hI (br_c (fun q2 => nm_r (nI_1 (i + 1)) ?_) (fun q2 => nm_r (nI_1 (i + 1)) ?_))) (fun q => nm_r (nI_1 (i + 1)) ?_)
    · rw [cd_fold_t q] at I
      rw [cd_Gg_t (c := fun s => nI (g (cd_ix s))) q2] at I
      exact I
    · rw [cd_fold_t q] at I
      rw [cd_Gg_f (c := fun s => nI (g (cd_ix s))) q2] at I
      exact I
    · rw [cd_fold_f q] at I
      exact I
theorem yw_supportL {n : Nat} (hn : n ≤ 7) {f : Int32} {a b : Nat → Int32} {g : Nat → Nat} (hI : cd_Is a g) {post : Int32 → SY → Prop} (h : post (cd_fold n (cd_Gs (fun s => nI (g (cd_ix s)))) 0 4095) (f, a, b)) : ∀ k i, i + k = 4095 → wY_support_23 post (nI n) f a b (k + 1) (cd_fold n (cd_Gs (fun s => nI (g (cd_ix s)))) 0 i) (nI (i + 1)) := by
  intro k
  induction k with
  | zero =>
    intro i hi
    refine pk_le 4096 (i + 1) (fun _ => ?_) (fun q => absurd q (by omega))
    have e : i = 4095 := by omega
    rw [e]
    exact h
  | succ k ih =>
    intro i hi
    have hs := cd_sum_le (i + 1)
    have I := ih (i + 1) (by omega)
    refine pk_le 4096 (i + 1) (fun q => absurd q (by omega)) (fun _ => yw_sumN (by omega) ?_)
    refine pk_eq (cd_sum (i + 1)) n (fun q => yw_coef (by omega) hI (br_c (fun q2 => nm_r (nI_1 (i + 1)) ?_) (fun q2 => nm_e (nm_r (nI_1 (i + 1)) ?_)))) (fun q => nm_r (nI_1 (i + 1)) ?_)
    · rw [cd_fold_t q] at I
      rw [cd_Gs_t (c := fun s => nI (g (cd_ix s))) q2] at I
      exact I
    · rw [cd_fold_t q] at I
      rw [cd_Gs_f (c := fun s => nI (g (cd_ix s))) q2] at I
      exact I
    · rw [cd_fold_f q] at I
      exact I
