/-! ===== the reference's walks ===== -/
theorem yw_part {f : Int32} {a b : Nat → Int32} {s : Nat} (i : Nat) {x : Int32} (hs : s < 4096) (hi : i < 4) {post : Int32 → Prop} (h : post (nI (cd_pt s i))) (hx : x = nI i := by rfl) : wpY_part post (f, a, b) (nI s) x := by
  subst hx
  show post ((nI s >>> ((3 * nI i) &&& 31)) &&& 7)
  rw [cd_part hs hi]
  exact h
theorem yw_59 {f : Int32} {a b : Nat → Int32} {s i : Nat} {x3 z : Int32} (hs : s < 4096) (hi : i < 4) {post : Int32 → Prop} {J : Int32 → Int32 → Int32 → Prop} (h : J z (x3 + nI (cd_pt s i)) (nI (i + 1))) : wY_sumOf_59 post J (nI s) x3 (nI i) z f a b := by
  unfold wY_sumOf_59
  exact yw_part i hs hi (nm_e (nm_r (nI_1 i) h))
theorem yw_58 {f : Int32} {a b : Nat → Int32} {s i : Nat} {x3 : Int32} (hs : s < 4096) (hi : i < 4) {post : Int32 → Prop} {J : Int32 → Int32 → Int32 → Prop} (h : J 0 (x3 + nI (cd_pt s i)) (nI (i + 1))) : wY_sumOf_58 post J (nI s) x3 (nI i) f a b := by
  unfold wY_sumOf_58
  exact yw_59 hs hi h
theorem yw_sum0 {f : Int32} {a b : Nat → Int32} {s : Nat} (hs : s < 4096) {post : Int32 → Prop} (h : post 0) : ∀ d i x3, i + d = 4 → wY_sumOf_25 post (nI s) f a b (d + 1) 0 x3 (nI i) := by
  intro d
  induction d with
  | zero =>
    intro i x3 hi
    exact pk_le 4 i (fun _ => br_t rfl h) (fun q => absurd q (by omega))
  | succ d ih =>
    intro i x3 hi
    exact pk_le 4 i (fun q => absurd q (by omega)) (fun _ => br_t rfl (yw_58 hs (by omega) (ih (i + 1) _ (by omega))))
theorem yw_sumL {f : Int32} {a b : Nat → Int32} {s : Nat} (hs : s < 4096) {post : Int32 → Prop} : ∀ d j sum, j + 1 + d = 4 → sum ≤ 7 * (j + 1) → post (nI (cd_sr s d (j + 1) sum (cd_pt s j))) → wY_sumOf_25 post (nI s) f a b (d + 1) 1 (nI sum) (nI (j + 1)) := by
  intro d
  induction d with
  | zero =>
    intro j sum hj hm h
    refine pk_le 4 (j + 1) (fun _ => br_f cd_n10 ?_) (fun q => absurd q (by omega))
    refine pk_lt 7 sum (fun q => ?_) (fun q => ?_)
    · have e : cd_sr s 0 (j + 1) sum (cd_pt s j) = 0 := if_neg (by omega)
      rw [e] at h
      exact h
    · have e : cd_sr s 0 (j + 1) sum (cd_pt s j) = sum := if_pos q
      rw [e] at h
      exact h
  | succ d ih =>
    intro j sum hj hm h
    have hp := cd_pt_lt s (j + 1)
    have hp0 := cd_pt_lt s j
    refine pk_le 4 (j + 1) (fun q => absurd q (by omega)) (fun _ => br_f cd_n10 ?_)
    refine yw_part (j + 1) hs (by omega) ?_
    refine yw_part j hs (by omega) ?_ (nI_pred j)
    refine pk_lt (cd_pt s j) (cd_pt s (j + 1)) (fun q => yw_58 hs (by omega) ?_) (fun q => yw_59 hs (by omega) ?_)
    · have e : cd_sr s (d + 1) (j + 1) sum (cd_pt s j) = 0 := if_neg (by omega)
      rw [e] at h
      exact yw_sum0 hs h d (j + 1 + 1) _ (by omega)
    · have e : cd_sr s (d + 1) (j + 1) sum (cd_pt s j) = cd_sr s d (j + 1 + 1) (sum + cd_pt s (j + 1)) (cd_pt s (j + 1)) := if_pos q
      rw [e] at h
      rw [nI_add]
      exact ih (j + 1) (sum + cd_pt s (j + 1)) (by omega) (by omega) h
theorem yw_sum (x : Int32) {f : Int32} {a b : Nat → Int32} {post : Int32 → Prop} (h : post (nI (cd_val x))) : wpY_sumOf post (f, a, b) x := by
  rcases cd_cases x with ⟨hx, e⟩ | ⟨j, hj, hj2, rfl, e⟩ | ⟨j, hj, rfl, e⟩
  · rw [e] at h
    exact br_t hx h
  · rw [e] at h
    exact pk_lt j 0 (fun q => absurd q (by omega)) (fun _ => pk_le j 4095 (fun q => absurd q (by omega)) (fun _ => h))
  · rw [e] at h
    have hp := cd_pt_lt j 0
    refine pk_lt j 0 (fun q => absurd q (by omega)) (fun _ => pk_le j 4095 (fun _ => ?_) (fun q => absurd q (by omega)))
    refine yw_part 0 hj (by decide) ⟨4, ?_⟩
    rw [← cd_sr_eq1] at h
    exact yw_sumL hj 3 0 (cd_pt j 0) rfl (by omega) h
theorem yw_sumN {s : Nat} {f : Int32} {a b : Nat → Int32} (hs : s < 4096) {post : Int32 → Prop} (h : post (nI (cd_sum s))) : wpY_sumOf post (f, a, b) (nI s) :=
  yw_sum (nI s) (by rw [cd_val_nI hs]; exact h)
/-! the polynomials -/
theorem yw_put {f : Int32} {a b : Nat → Int32} (c : Nat) {x v : Int32} (hc : c < 2 ^ 31) {post : SY → Prop} (h : ∀ b', (∀ k, k < 2744 → b' k = b k + cd_at1 k c v) → post (f, a, b')) (hx : x = nI c := by rfl) : wpY_put post (f, a, b) x v := by
  subst hx
  refine pk_le 2744 c (fun q => h b (fun k hk => ?_)) (fun q => ⟨vp_in_nI q (by decide), vp_in_nI q (by decide), nm_e (h _ (fun k hk => ?_))⟩)
  · have e : ¬ k = c := by omega
    unfold cd_at1
    rw [if_neg e, Int32.add_zero]
  · rw [nI_clamp hc]
    unfold cd_at1
    by_cases e : k = c
    · rw [if_pos e, e, pk_us]
    · rw [if_neg e, Int32.add_zero, pk_un e]
theorem yw_t130 {f : Int32} {b : Nat → Int32} {post : SY → Prop} (h : ∀ a', (∀ k, k < 2744 → a' k = b k) → post (f, a', b)) : ∀ d c a, c + d = 2744 → (∀ k, k < c → a k = b k) → wY_times_130 post f (d + 1) (nI c) a b := by
  intro d
  induction d with
  | zero =>
    intro c a hc hk
    exact pk_le 2744 c (fun _ => h a (fun k q => hk k (by omega))) (fun q => absurd q (by omega))
  | succ d ih =>
    intro c a hc hk
    have v : vp_in (nI c) 2744 := vp_in_nI (by omega) (by decide)
    refine pk_le 2744 c (fun q => absurd q (by omega)) (fun _ => ⟨v, v, nm_e (nm_r (nI_1 c) (ih (c + 1) _ (by omega) (fun k q => ?_)))⟩)
    rw [nI_clamp (by omega)]
    by_cases e : k = c
    · rw [e, pk_us]
    · rw [pk_un e]
      exact hk k (by omega)
theorem yw_t28 {p : Nat} (hp : p < 8) {w x y z f : Int32} {a : Nat → Int32} {post : SY → Prop} (h : ∀ b', (∀ k, k < 2744 → b' k = cd_Te p w x y z a 2744 k) → ∃ n, wY_times_130 post f n 0 a b') :
    ∀ d c b, c + d = 2744 → (∀ k, k < 2744 → b k = cd_Te p w x y z a c k) → wY_times_28 post (nI p) w x y z (d + 1) (nI c) f a b := by
  intro d
  induction d with
  | zero =>
    intro c b hc hk
    have e : c = 2744 := by omega
    rw [e] at hk
    exact pk_le 2744 c (fun _ => h b hk) (fun q => absurd q (by omega))
  | succ d ih =>
    intro c b hc hk
    have v : vp_in (nI c) 2744 := vp_in_nI (by omega) (by decide)
    have ec : (nI c).toNatClampNeg = c := nI_clamp (by omega)
    have x1 : nI c + nI p = nI (c + p) := nI_add c p
    have x2 : nI c + 14 * nI p = nI (c + 14 * p) := (congrArg (nI c + ·) (pk_mul 14 p)).trans (nI_add c (14 * p))
    have x3 : nI c + 196 * nI p = nI (c + 196 * p) := (congrArg (nI c + ·) (pk_mul 196 p)).trans (nI_add c (196 * p))
    refine pk_le 2744 c (fun q => absurd q (by omega)) (fun _ => ⟨v, br_c (fun hz => ?_) (fun hz => ⟨v, ?_⟩)⟩)
    · rw [ec] at hz
      refine nm_r (nI_1 c) (ih (c + 1) b (by omega) (fun k q => ?_))
      rw [hk k q, cd_Te_z hz]
    · refine yw_put (c + p) (by omega) (fun b1 h1 => ⟨v, ?_⟩) x1
      refine yw_put (c + 14 * p) (by omega) (fun b2 h2 => ⟨v, ?_⟩) x2
      refine yw_put (c + 196 * p) (by omega) (fun b3 h3 => ⟨v, ?_⟩) x3
      refine yw_put c (by omega) (fun b4 h4 => nm_r (nI_1 c) (ih (c + 1) b4 (by omega) (fun k q => ?_)))
      rw [h4 k q, h3 k q, h2 k q, h1 k q, hk k q, ec, cd_Te_s]
theorem yw_t3 {p : Int32} {w x y z f : Int32} {a : Nat → Int32} {post : SY → Prop} (h : ∀ b', (∀ k, k < 2744 → b' k = 0) → ∃ n, wY_times_28 post p w x y z n 0 f a b') :
    ∀ d c b, c + d = 2744 → (∀ k, k < c → b k = 0) → wY_times_3 post p w x y z f (d + 1) (nI c) a b := by
  intro d
  induction d with
  | zero =>
    intro c b hc hk
    exact pk_le 2744 c (fun _ => h b (fun k q => hk k (by omega))) (fun q => absurd q (by omega))
  | succ d ih =>
    intro c b hc hk
    have v : vp_in (nI c) 2744 := vp_in_nI (by omega) (by decide)
    refine pk_le 2744 c (fun q => absurd q (by omega)) (fun _ => ⟨v, nm_e (nm_r (nI_1 c) (ih (c + 1) _ (by omega) (fun k q => ?_)))⟩)
    rw [nI_clamp (by omega)]
    by_cases e : k = c
    · rw [e, pk_us]
    · rw [pk_un e]
      exact hk k (by omega)
theorem yw_times {p : Nat} (hp : p < 8) {w x y z f : Int32} {a b : Nat → Int32} {post : SY → Prop} (h : ∀ a' b', (∀ k, k < 2744 → a' k = cd_Te p w x y z a 2744 k) → post (f, a', b')) : wpY_times post (f, a, b) (nI p) w x y z := by
  refine ⟨2744 + 1, yw_t3 (fun b1 h1 => ⟨2744 + 1, yw_t28 hp (fun b2 h2 => ⟨2744 + 1, yw_t130 (fun a' h3 => h a' b2 (fun k q => ?_)) 2744 0 a rfl (fun k q => absurd q (Nat.not_lt_zero k))⟩) 2744 0 b1 rfl (fun k q => ?_)⟩) 2744 0 b rfl (fun k q => absurd q (Nat.not_lt_zero k))⟩
  · rw [h3 k q, h2 k q]
  · rw [h1 k q, cd_Te_0]
theorem yw_tN {p w x y z : Nat} {P W X Y Z : Int32} (hp : p < 8) (hP : P = nI p) (hW : W = nI w) (hX : X = nI x) (hY : Y = nI y) (hZ : Z = nI z) {f : Int32} {a b : Nat → Int32} {g : Nat → Nat} (hI : cd_Is a g) {post : SY → Prop}
    (h : ∀ a' b', cd_Is a' (cd_t4 p w x y z g) → post (f, a', b')) : wpY_times post (f, a, b) P W X Y Z := by
  subst hP hW hX hY hZ
  exact yw_times hp (fun a' b' h' => h a' b' (cd_Is_T hI h'))
theorem cd_vIs {a : Nat → Int32} (h : cd_Is a cd_v6) : cd_Is a cd_vt := fun k hk => (h k hk).trans (cd_v hk)
theorem yw_beginL {f : Int32} {post : SY → Prop} (h : ∀ a' b', cd_Is a' cd_vt → post (f, a', b')) : ∀ d c a b, c + d = 2744 → (∀ k, k < c → a k = nI (cd_v0 k)) → wY_begin_2 post f (d + 1) (nI c) a b := by
  intro d
  induction d with
  | zero =>
    intro c a b hc hk
    refine pk_le 2744 c (fun _ => ?_) (fun q => absurd q (by omega))
    have I0 : cd_Is a cd_v0 := fun k q => hk k (by omega)
    refine yw_tN (p := 1) (w := 1) (x := 4294967295) (y := 0) (z := 0) (by decide) rfl rfl cd_nM rfl rfl I0 (fun a1 b1 I1 => ?_)
    refine yw_tN (p := 1) (w := 1) (x := 0) (y := 4294967295) (z := 0) (by decide) rfl rfl rfl cd_nM rfl I1 (fun a2 b2 I2 => ?_)
    refine yw_tN (p := 1) (w := 1) (x := 0) (y := 0) (z := 4294967295) (by decide) rfl rfl rfl rfl cd_nM I2 (fun a3 b3 I3 => ?_)
    refine yw_tN (p := 1) (w := 0) (x := 1) (y := 4294967295) (z := 0) (by decide) rfl rfl rfl cd_nM rfl I3 (fun a4 b4 I4 => ?_)
    refine yw_tN (p := 1) (w := 0) (x := 1) (y := 0) (z := 4294967295) (by decide) rfl rfl rfl rfl cd_nM I4 (fun a5 b5 I5 => ?_)
    refine yw_tN (p := 1) (w := 0) (x := 0) (y := 1) (z := 4294967295) (by decide) rfl rfl rfl rfl cd_nM I5 (fun a6 b6 I6 => ?_)
    exact h a6 b6 (cd_vIs I6)
  | succ d ih =>
    intro c a b hc hk
    have v : vp_in (nI c) 2744 := vp_in_nI (by omega) (by decide)
    refine pk_le 2744 c (fun q => absurd q (by omega)) (fun _ => pk_eq c 0 (fun q0 => ⟨v, nm_e (nm_r (nI_1 c) (ih (c + 1) _ b (by omega) (fun k q => ?_)))⟩) (fun q0 => ⟨v, nm_e (nm_r (nI_1 c) (ih (c + 1) _ b (by omega) (fun k q => ?_)))⟩))
    · rw [nI_clamp (by omega)]
      have e : k = c := by omega
      rw [e, pk_us, q0]
      exact rfl
    · rw [nI_clamp (by omega)]
      by_cases e : k = c
      · have z : cd_v0 c = 0 := if_neg q0
        rw [e, pk_us, z]
        exact rfl
      · rw [pk_un e]
        exact hk k (by omega)
theorem yw_begin {f : Int32} {a b : Nat → Int32} {post : SY → Prop} (h : ∀ a' b', cd_Is a' cd_vt → post (f, a', b')) : wpY_begin post (f, a, b) :=
  ⟨2744 + 1, yw_beginL h 2744 0 a b rfl (fun k q => absurd q (Nat.not_lt_zero k))⟩
theorem yw_cycL {m : Nat} (hm : m < 4096) {f : Int32} {post : SY → Prop} (h : ∀ a' b', cd_Is a' (cd_g m 4) → post (f, a', b')) : ∀ d i a b, i + d = 4 → cd_Is a (cd_g m i) → wY_cycles_6 post (nI m) (d + 1) (nI i) f a b := by
  intro d
  induction d with
  | zero =>
    intro i a b hi hI
    have e : i = 4 := by omega
    rw [e] at hI
    exact pk_le 4 i (fun _ => h a b hI) (fun q => absurd q (by omega))
  | succ d ih =>
    intro i a b hi hI
    have hp := cd_pt_lt m i
    refine pk_le 4 i (fun q => absurd q (by omega)) (fun _ => yw_part i hm (by omega) ?_)
    refine pk_le (cd_pt m i) 0 (fun q => nm_r (nI_1 i) (ih (i + 1) a b (by omega) (fun k hk => ?_))) (fun q => yw_part i hm (by omega) ?_)
    · have e : cd_g m (i + 1) k = cd_g m i k := if_pos (by omega)
      rw [e]
      exact hI k hk
    · refine yw_tN (p := cd_pt m i) (w := 1) (x := 1) (y := 1) (z := 1) hp rfl rfl rfl rfl rfl hI (fun a' b' hI' => nm_r (nI_1 i) (ih (i + 1) a' b' (by omega) (fun k hk => ?_)))
      have e : cd_g m (i + 1) k = cd_t4 (cd_pt m i) 1 1 1 1 (cd_g m i) k := if_neg (by omega)
      rw [e]
      exact hI' k hk
theorem yw_cyc {m : Nat} (hm : m < 4096) {f : Int32} {a b : Nat → Int32} {post : SY → Prop} (h : ∀ a' b', cd_Is a' (cd_g m 4) → post (f, a', b')) : wpY_cycles post (f, a, b) (nI m) := by
  unfold wpY_cycles
  exact yw_begin (fun a1 b1 I1 => ⟨5, yw_cycL hm h 4 0 a1 b1 rfl I1⟩)
theorem yw_onesL {n : Nat} (hn : n < 1000) {f : Int32} {post : SY → Prop} (h : ∀ a' b', cd_Is a' (cd_o n) → post (f, a', b')) : ∀ d i a b, i + d = n → cd_Is a (cd_o i) → wY_ones_6 post (nI n) (d + 1) (nI i) f a b := by
  intro d
  induction d with
  | zero =>
    intro i a b hi hI
    have e : i = n := by omega
    rw [e] at hI
    exact pk_le n i (fun _ => h a b hI) (fun q => absurd q (by omega))
  | succ d ih =>
    intro i a b hi hI
    refine pk_le n i (fun q => absurd q (by omega)) (fun _ => ?_)
    exact yw_tN (p := 1) (w := 1) (x := 1) (y := 1) (z := 1) (by decide) rfl rfl rfl rfl rfl hI (fun a' b' hI' => nm_r (nI_1 i) (ih (i + 1) a' b' (by omega) hI'))
theorem yw_ones {n : Nat} (hn : n < 1000) {f : Int32} {a b : Nat → Int32} {post : SY → Prop} (h : ∀ a' b', cd_Is a' (cd_o n) → post (f, a', b')) : wpY_ones post (f, a, b) (nI n) := by
  unfold wpY_ones
  exact yw_begin (fun a1 b1 I1 => ⟨n + 1, yw_onesL hn h n 0 a1 b1 (Nat.zero_add n) I1⟩)
theorem yw_coef {s : Nat} (hs : s < 4096) {f : Int32} {a b : Nat → Int32} {g : Nat → Nat} (hI : cd_Is a g) {post : Int32 → Prop} (h : post (nI (g (cd_ix s)))) : wpY_coefficient post (f, a, b) (nI s) := by
  have p0 := cd_pt_lt s 0
  have p1 := cd_pt_lt s 1
  have p2 := cd_pt_lt s 2
  have hx : cd_ix s < 2744 := by
    unfold cd_ix
    omega
  have e : ((nI (cd_pt s 0) + 3) + (14 * (nI (cd_pt s 1) + 2))) + (196 * (nI (cd_pt s 2) + 1)) = nI (cd_ix s) := by
    have e0 : nI (cd_pt s 0) + 3 = nI (cd_pt s 0 + 3) := nI_add _ 3
    have e1 : nI (cd_pt s 1) + 2 = nI (cd_pt s 1 + 2) := nI_add _ 2
    have e2 : nI (cd_pt s 2) + 1 = nI (cd_pt s 2 + 1) := nI_add _ 1
    have e3 : 14 * nI (cd_pt s 1 + 2) = nI (14 * (cd_pt s 1 + 2)) := pk_mul 14 _
    have e4 : 196 * nI (cd_pt s 2 + 1) = nI (196 * (cd_pt s 2 + 1)) := pk_mul 196 _
    rw [e0, e1, e2, e3, e4, nI_add, nI_add]
    exact rfl
  unfold wpY_coefficient
  refine yw_part 0 hs (by decide) ?_
  refine yw_part 1 hs (by decide) ?_
  refine yw_part 2 hs (by decide) ?_
  show vp_in (((nI (cd_pt s 0) + 3) + (14 * (nI (cd_pt s 1) + 2))) + (196 * (nI (cd_pt s 2) + 1))) 2744 ∧ post (a (((nI (cd_pt s 0) + 3) + (14 * (nI (cd_pt s 1) + 2))) + (196 * (nI (cd_pt s 2) + 1))).toNatClampNeg)
  rw [e, nI_clamp (by omega), hI _ hx]
  exact ⟨vp_in_nI hx (by decide), h⟩
