/-! ===== the component's walks, each with a general post ===== -/
theorem cd_lt_of_le0 {x : Int32} (h : x < 0) : x < 1 := Int32.lt_of_lt_of_le h (by decide)
/-- the sum of any int as a shape -/
def cd_val (x : Int32) : Nat := if x < 0 then 0 else if x.toNatClampNeg < 4096 then cd_sum x.toNatClampNeg else 0
theorem cd_val_nI {j : Nat} (hj : j < 4096) : cd_val (nI j) = cd_sum j := by
  unfold cd_val
  rw [if_neg (nI_pos (by omega)), nI_clamp (by omega), if_pos hj]
theorem cd_cases (x : Int32) : (x < 0 ∧ cd_val x = 0) ∨ (∃ j, 4096 ≤ j ∧ j < 2 ^ 31 ∧ x = nI j ∧ cd_val x = 0) ∨ (∃ j, j < 4096 ∧ x = nI j ∧ cd_val x = cd_sum j) := by
  by_cases h : x < 0
  · exact Or.inl ⟨h, if_pos h⟩
  · obtain ⟨j, hj, rfl⟩ := nI_of h
    by_cases h2 : j < 4096
    · exact Or.inr (Or.inr ⟨j, h2, rfl, cd_val_nI h2⟩)
    · refine Or.inr (Or.inl ⟨j, by omega, hj, rfl, ?_⟩)
      unfold cd_val
      rw [if_neg h, nI_clamp hj, if_neg h2]
theorem cd_val_le (x : Int32) : cd_val x ≤ 7 := by
  rcases cd_cases x with ⟨_, e⟩ | ⟨_, _, _, _, e⟩ | ⟨j, _, _, e⟩
  · omega
  · omega
  · have := cd_sum_le j
    omega
theorem cd_val_ne {x : Int32} (h : cd_val x ≠ 0) : ∃ j, j < 4096 ∧ x = nI j ∧ cd_val x = cd_sum j := by
  rcases cd_cases x with ⟨_, e⟩ | ⟨_, _, _, _, e⟩ | c
  · exact absurd e h
  · exact absurd e h
  · exact c
theorem cd_tri (x : Int32) : x ≤ 0 ∨ ∃ j, 1 ≤ j ∧ j < 2 ^ 31 ∧ x = nI j := by
  by_cases h : x ≤ 0
  · exact Or.inl h
  · have h2 : ¬ x < 0 := fun q => h (Int32.le_of_lt q)
    obtain ⟨j, hj, rfl⟩ := nI_of h2
    refine Or.inr ⟨j, ?_, hj, rfl⟩
    rcases Nat.eq_zero_or_pos j with e | e
    · subst e
      exact absurd (show nI 0 ≤ 0 by decide) h
    · exact e
/-! parts and sums -/
theorem xw_part {s i : Nat} (hs : s < 4096) (hi : i < 4) {post : Int32 → Prop} (h : post (nI (cd_pt s i))) : wpX_partOf post (nI s) (nI i) := by
  unfold wpX_partOf
  rw [cd_part hs hi]
  exact h
/-- the sum, step by step: d parts still to come, from part i on -/
def cd_sr (s : Nat) : Nat → Nat → Nat → Nat → Nat
  | 0, _, sum, _ => if sum ≤ 7 then sum else 0
  | d + 1, i, sum, b => if cd_pt s i ≤ b then cd_sr s d (i + 1) (sum + cd_pt s i) (cd_pt s i) else 0
theorem cd_sr_eq1 (s : Nat) : cd_sr s 3 1 (cd_pt s 0) (cd_pt s 0) = cd_sum s := rfl
theorem cd_sr_eq (s : Nat) : cd_sr s 4 0 0 7 = cd_sum s := by
  have h0 : cd_pt s 0 ≤ 7 := Nat.le_of_lt_succ (cd_pt_lt s 0)
  have e : cd_sr s 4 0 0 7 = cd_sr s 3 1 (0 + cd_pt s 0) (cd_pt s 0) := if_pos h0
  rw [e, Nat.zero_add]
  exact cd_sr_eq1 s
theorem xw_sumL {s : Nat} (hs : s < 4096) {post : Int32 → Prop} : ∀ d i sum b, i + d = 4 → sum ≤ 7 * i → b < 8 → post (nI (cd_sr s d i sum b)) → wX_sumOf_21 post (nI s) (d + 1) (nI sum) (nI b) (nI i) := by
  intro d
  induction d with
  | zero =>
    intro i sum b hi hm hb h
    refine pk_le 4 i (fun _ => ?_) (fun q => absurd q (by omega))
    refine pk_lt 7 sum (fun q => ?_) (fun q => ?_)
    · have e : cd_sr s 0 i sum b = 0 := if_neg (by omega)
      rw [e] at h
      exact h
    · have e : cd_sr s 0 i sum b = sum := if_pos q
      rw [e] at h
      exact h
  | succ d ih =>
    intro i sum b hi hm hb h
    have hp := cd_pt_lt s i
    refine pk_le 4 i (fun q => absurd q (by omega)) (fun _ => xw_part hs (by omega) ?_)
    refine pk_le (cd_pt s i) b (fun q => ?_) (fun q => ?_)
    · refine nm_r (nI_add sum (cd_pt s i)) (nm_r (nI_1 i) ?_)
      have e : cd_sr s (d + 1) i sum b = cd_sr s d (i + 1) (sum + cd_pt s i) (cd_pt s i) := if_pos q
      rw [e] at h
      exact ih (i + 1) (sum + cd_pt s i) (cd_pt s i) (by omega) (by omega) hp h
    · have e : cd_sr s (d + 1) i sum b = 0 := if_neg (by omega)
      rw [e] at h
      exact h
theorem xw_sum (x : Int32) {post : Int32 → Prop} (h : post (nI (cd_val x))) : wpX_sumOf post x := by
  rcases cd_cases x with ⟨hx, e⟩ | ⟨j, hj, hj2, rfl, e⟩ | ⟨j, hj, rfl, e⟩
  · rw [e] at h
    exact br_t (cd_lt_of_le0 hx) h
  · rw [e] at h
    exact pk_lt j 1 (fun q => absurd q (by omega)) (fun _ => pk_le j 658 (fun q => absurd q (by omega)) (fun _ => h))
  · rw [e] at h
    refine pk_lt j 1 (fun q => ?_) (fun _ => pk_le j 658 (fun _ => ⟨5, ?_⟩) (fun q => ?_))
    · have z : j = 0 := by omega
      rw [z, cd_sum_0] at h
      exact h
    · rw [← cd_sr_eq] at h
      exact xw_sumL hj 4 0 0 7 rfl (by omega) (by omega) h
    · rw [cd_big hj q] at h
      exact h
theorem xw_sumN {s : Nat} (hs : s < 4096) {post : Int32 → Prop} (h : post (nI (cd_sum s))) : wpX_sumOf post (nI s) :=
  xw_sum (nI s) (by rw [cd_val_nI hs]; exact h)
theorem xw_pow {s l : Nat} (hs : s < 4096) (hl : l < 4) {post : Int32 → Prop} (h : post (nI (cd_pt s l + (3 - l)))) : wpX_powerOf post (nI s) (nI l) := by
  unfold wpX_powerOf
  refine xw_part hs hl ?_
  have e : ((nI (cd_pt s l) + 4) - 1) - nI l = nI (cd_pt s l + (3 - l)) := by
    have e1 : nI (cd_pt s l) + 4 = nI (cd_pt s l + 4) := nI_add _ 4
    have e2 : nI (cd_pt s l + 4) - 1 = nI (cd_pt s l + 3) := nI_pred _
    rw [e1, e2, pk_sub (by omega)]
    exact congrArg nI (by omega)
  show post (((nI (cd_pt s l) + 4) - 1) - nI l)
  rw [e]
  exact h
theorem xw_pow0 {s : Nat} (hs : s < 4096) {post : Int32 → Prop} (h : post (nI (cd_pt s 0 + 3))) : wpX_powerOf post (nI s) 0 := xw_pow (l := 0) hs (by decide) h
theorem xw_pow1 {s : Nat} (hs : s < 4096) {post : Int32 → Prop} (h : post (nI (cd_pt s 1 + 2))) : wpX_powerOf post (nI s) 1 := xw_pow (l := 1) hs (by decide) h
theorem xw_pow2 {s : Nat} (hs : s < 4096) {post : Int32 → Prop} (h : post (nI (cd_pt s 2 + 1))) : wpX_powerOf post (nI s) 2 := xw_pow (l := 2) hs (by decide) h
theorem xw_pow3 {s : Nat} (hs : s < 4096) {post : Int32 → Prop} (h : post (nI (cd_pt s 3))) : wpX_powerOf post (nI s) 3 := xw_pow (l := 3) hs (by decide) h
theorem cd_cn_t {s b i : Nat} (h : b ≤ cd_pt s i) : cd_cn s b (i + 1) = cd_cn s b i + 1 := congrArg (cd_cn s b i + ·) (if_pos h)
theorem cd_cn_f {s b i : Nat} (h : ¬ b ≤ cd_pt s i) : cd_cn s b (i + 1) = cd_cn s b i := congrArg (cd_cn s b i + ·) (if_neg h)
theorem xw_palL {s b : Nat} (hs : s < 4096) (hb : b < 100) {post : Int32 → Prop} (h : post (nI (cd_cn s b 4))) : ∀ d i, i + d = 4 → wX_partsAtLeast_4 post (nI s) (nI b) (d + 1) (nI (cd_cn s b i)) (nI i) := by
  intro d
  induction d with
  | zero =>
    intro i hi
    refine pk_le 4 i (fun _ => ?_) (fun q => absurd q (by omega))
    have e : i = 4 := by omega
    rw [e]
    exact h
  | succ d ih =>
    intro i hi
    have hp := cd_pt_lt s i
    refine pk_le 4 i (fun q => absurd q (by omega)) (fun _ => xw_part hs (by omega) ?_)
    refine pk_lt (cd_pt s i) b (fun q => nm_r (nI_1 i) ?_) (fun q => nm_r (nI_1 (cd_cn s b i)) (nm_r (nI_1 i) ?_))
    · have := ih (i + 1) (by omega)
      rw [cd_cn_f (by omega)] at this
      exact this
    · have := ih (i + 1) (by omega)
      rw [cd_cn_t q] at this
      exact this
theorem xw_pal {s b : Nat} {B : Int32} (hB : B = nI b) (hs : s < 4096) (hb : b < 100) {post : Int32 → Prop} (h : post (nI (cd_cn s b 4))) : wpX_partsAtLeast post (nI s) B := by
  subst hB
  exact ⟨5, xw_palL hs hb h 4 0 rfl⟩
theorem cd_dl_t {l m d i : Nat} (h : d / 4 ^ i % 4 = l) : cd_dl l m d (i + 1) = cd_dl l m d i + cd_pt m i := congrArg (cd_dl l m d i + ·) (if_pos h)
theorem cd_dl_f {l m d i : Nat} (h : ¬ d / 4 ^ i % 4 = l) : cd_dl l m d (i + 1) = cd_dl l m d i := congrArg (cd_dl l m d i + ·) (if_neg h)
theorem cd_m4 (x : Nat) : x % 4 < 2 ^ 31 := Nat.lt_trans (Nat.mod_lt x (by decide)) (by decide)
theorem xw_dealL {l m d : Nat} (hl : l < 4) (hm : m < 4096) (hd : d < 4096) {post : Int32 → Prop} (h : post (nI (cd_dl l m d 4))) : ∀ k i, i + k = 4 → wX_dealtTo_5 post (nI l) (nI m) (nI d) (k + 1) (nI (cd_dl l m d i)) (nI i) := by
  intro k
  induction k with
  | zero =>
    intro i hi
    refine pk_le 4 i (fun _ => ?_) (fun q => absurd q (by omega))
    have e : i = 4 := by omega
    rw [e]
    exact h
  | succ k ih =>
    intro i hi
    refine pk_le 4 i (fun q => absurd q (by omega)) (fun _ => ?_)
    refine pk_eq (d / 4 ^ i % 4) l (fun q => ?_) (fun q => ?_) (cd_dig hd (by omega)) rfl (cd_m4 _) (by omega)
    · refine xw_part hm (by omega) (nm_r (nI_add _ _) (nm_r (nI_1 i) ?_))
      have := ih (i + 1) (by omega)
      rw [cd_dl_t q] at this
      exact this
    · refine nm_r (nI_1 i) ?_
      have := ih (i + 1) (by omega)
      rw [cd_dl_f q] at this
      exact this
theorem xw_deal {L : Int32} (l : Nat) {m d : Nat} (hl : l < 4) (hm : m < 4096) (hd : d < 4096) {post : Int32 → Prop} (h : post (nI (cd_dl l m d 4))) (hL : L = nI l := by rfl) : wpX_dealtTo post L (nI m) (nI d) := by
  subst hL
  exact ⟨5, xw_dealL hl hm hd h 4 0 rfl⟩
theorem xw_stair {a b : Nat} (ha : a < 1000) (hb : b < 1000) {post : Int32 → Prop} (h1 : b ≤ a ∧ a < b + 4 → post 1) (h0 : ¬ (b ≤ a ∧ a < b + 4) → post 0) : wpX_isStair post (nI a - nI b) := by
  by_cases q : b ≤ a
  · rw [pk_sub q]
    exact pk_lt (a - b) 0 (fun z => absurd z (by omega)) (fun _ => pk_le 4 (a - b) (fun z => h0 (by omega)) (fun z => h1 (by omega)))
  · exact br_t (pk_sneg (by omega) (by omega)) (h0 (by omega))
theorem xw_dif {a b c d : Int32} {post : Int32 → Prop} (h : post (cd_dif a b c d)) : wpX_differences post a b c d := h
theorem cd_n10 : ¬ (1 : Int32) = 0 := by decide
theorem cd_n12 : ¬ (12 : Int32) = 0 := by decide
theorem xw_dc {w x y z a b c d : Nat} (hw : w < 1000) (hx : x < 1000) (hy : y < 1000) (hz : z < 1000) (ha : a < 1000) (hb : b < 1000) (hc : c < 1000) (hd : d < 1000) {post : Int32 → Prop} (h : post (nI (cd_dc w x y z a b c d))) :
    wpX_differenceCoefficient post (nI w - nI a) (nI x - nI b) (nI y - nI c) (nI z - nI d) := by
  unfold wpX_differenceCoefficient
  refine xw_stair hw ha (fun q1 => br_f cd_n10 ?_) (fun q1 => br_t rfl ?_)
  · refine xw_stair hx hb (fun q2 => br_f cd_n10 ?_) (fun q2 => br_t rfl ?_)
    · refine xw_stair hy hc (fun q3 => br_f cd_n10 ?_) (fun q3 => br_t rfl ?_)
      · refine xw_stair hz hd (fun q4 => br_f cd_n10 ?_) (fun q4 => br_t rfl ?_)
        · have e : cd_dc w x y z a b c d = cd_tab ((w - a) + 4 * (x - b) + 16 * (y - c) + 64 * (z - d)) := by
            unfold cd_dc
            rw [if_pos q1, if_pos q2, if_pos q3, if_pos q4]
          refine xw_dif ⟨cd_n12, ?_⟩
          rw [pk_sub q1.1, pk_sub q2.1, pk_sub q3.1, pk_sub q4.1]
          rw [e, ← cd_dt (w - a) (by omega) (x - b) (by omega) (y - c) (by omega) (z - d) (by omega)] at h
          exact h
        · have e : cd_dc w x y z a b c d = 0 := by
            unfold cd_dc
            rw [if_pos q1, if_pos q2, if_pos q3, if_neg q4]
          rw [e] at h
          exact h
      · have e : cd_dc w x y z a b c d = 0 := by
          unfold cd_dc
          rw [if_pos q1, if_pos q2, if_neg q3]
        rw [e] at h
        exact h
    · have e : cd_dc w x y z a b c d = 0 := by
        unfold cd_dc
        rw [if_pos q1, if_neg q2]
      rw [e] at h
      exact h
  · have e : cd_dc w x y z a b c d = 0 := by
      unfold cd_dc
      rw [if_neg q1]
    rw [e] at h
    exact h
theorem xw_coefL {s m D : Nat} (hm : m < 4096) (hD : D ≤ 256) {post : Int32 → Prop} (h : post (nI (cd_cs s m D))) : ∀ k d, d + k = D →
    wX_coefficient_43 post (nI m) (nI (cd_pt s 0 + 3)) (nI (cd_pt s 1 + 2)) (nI (cd_pt s 2 + 1)) (nI (cd_pt s 3)) (nI D) (k + 1) (nI (cd_cs s m d)) (nI d) := by
  intro k
  induction k with
  | zero =>
    intro d hd
    refine pk_le D d (fun _ => ?_) (fun q => absurd q (by omega))
    have e : d = D := by omega
    rw [e]
    exact h
  | succ k ih =>
    intro d hd
    have p0 := cd_pt_lt s 0
    have p1 := cd_pt_lt s 1
    have p2 := cd_pt_lt s 2
    have p3 := cd_pt_lt s 3
    have l0 := cd_dl_le 0 m d
    have l1 := cd_dl_le 1 m d
    have l2 := cd_dl_le 2 m d
    have l3 := cd_dl_le 3 m d
    refine pk_le D d (fun q => absurd q (by omega)) (fun _ => ?_)
    refine xw_deal 0 (by decide) hm (by omega) (nm_e ?_)
    refine xw_deal 1 (by decide) hm (by omega) (nm_e ?_)
    refine xw_deal 2 (by decide) hm (by omega) (nm_e ?_)
    refine xw_deal 3 (by decide) hm (by omega) (nm_e ?_)
    refine xw_dc (by omega) (by omega) (by omega) (by omega) (by omega) (by omega) (by omega) (by omega) (nm_r (nI_add _ _) (nm_r (nI_1 d) ?_))
    exact ih (d + 1) (by omega)
theorem cd_deals : ∀ c, c < 5 → (1 : Int32) <<< ((2 * nI c) &&& 31) = nI (4 ^ c) := by decide +kernel
theorem xw_coef {s m : Nat} (hs : s < 4096) (hm : m < 4096) {post : Int32 → Prop} (h : post (nI (cd_cx s m))) : wpX_coefficient post (nI s) (nI m) := by
  have hc := cd_cn_le m 1 4
  have hD : 4 ^ cd_cn m 1 4 ≤ 256 := Nat.le_trans (Nat.pow_le_pow_right (by decide) hc) (by decide)
  unfold wpX_coefficient
  refine xw_pow0 hs (xw_pow1 hs (xw_pow2 hs (xw_pow3 hs (xw_pal (b := 1) rfl hm (by decide) ?_))))
  refine nm_r (cd_deals _ (by omega)) ⟨4 ^ cd_cn m 1 4 + 1, ?_⟩
  exact xw_coefL hm hD h (4 ^ cd_cn m 1 4) 0 (Nat.zero_add _)
