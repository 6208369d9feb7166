section
/-! rows taken from kit/rows -/
theorem pk_us {f : Nat → Int32} {k : Nat} {x : Int32} : upd f k x k = x := if_pos rfl
theorem pk_un {f : Nat → Int32} {k j : Nat} {x : Int32} (h : j ≠ k) : upd f k x j = f j := if_neg h
theorem pk_sub {a b : Nat} (h : b ≤ a) : nI a - nI b = nI (a - b) := by
  obtain ⟨c, rfl⟩ : ∃ c, a = c + b := ⟨a - b, by omega⟩
  rw [← nI_add, Int32.add_sub_cancel, Nat.add_sub_cancel]
theorem pk_m1 (n : Nat) : nI (n + 1) + (-1) = nI n := by
  rw [← nI_1, Int32.add_assoc, show (1 : Int32) + (-1) = 0 from rfl, Int32.add_zero]
theorem pk_mul (a b : Nat) : nI a * nI b = nI (a * b) := (Int32.ofNat_mul a b).symm
theorem pk_div {a d : Nat} (ha : a < 2 ^ 31) (h0 : 0 < d) (hd : d < 2 ^ 31) : nI a / nI d = nI (a / d) := by
  apply Int32.toInt_inj.mp
  rw [lg_idiv_nonneg (by rw [nI_toInt ha]; omega) (by rw [nI_toInt hd]; omega), nI_toInt ha, nI_toInt hd, nI_toInt (Nat.lt_of_le_of_lt (Nat.div_le_self a d) ha)]
  first | rfl | exact (Int.natCast_ediv _ _).symm
theorem pk_sub_toInt {a b : Nat} (ha : a < 2 ^ 30) (hb : b < 2 ^ 30) : (nI a - nI b).toInt = (a : Int) - b := by
  rw [Int32.toInt_sub, nI_toInt (by omega), nI_toInt (by omega)]
  exact Int.bmod_eq_of_le (by omega) (by omega)
theorem pk_sneg {a b : Nat} (hb : b < 2 ^ 30) (h : a < b) : nI a - nI b < 0 := by
  rw [Int32.lt_iff_toInt_lt, pk_sub_toInt (by omega) hb, show (0 : Int32).toInt = 0 from by decide]
  omega
theorem pk_ix (x : Int32) {n : Nat} (hn : n < 2 ^ 31) : x < 0 ∨ nI n ≤ x ∨ ∃ j : Nat, j < n ∧ x = nI j := by
  by_cases h : x < 0
  · exact Or.inl h
  · obtain ⟨j, hj, rfl⟩ := nI_of h
    by_cases h2 : j < n
    · exact Or.inr (Or.inr ⟨j, h2, rfl⟩)
    · exact Or.inr (Or.inl (nI_le (by omega) hj))
theorem pk_le {x y : Int32} {A B : Prop} (a b : Nat) (f : a ≤ b → A) (g : b < a → B) (hx : x = nI a := by rfl) (hy : y = nI b := by rfl) (ha : a < 2 ^ 31 := by omega) (hb : b < 2 ^ 31 := by omega) : (x ≤ y → A) ∧ (¬ x ≤ y → B) := by
  subst hx hy
  rw [nI_leI ha hb]
  exact ⟨f, fun z => g (by omega)⟩
theorem pk_lt {x y : Int32} {A B : Prop} (a b : Nat) (f : a < b → A) (g : b ≤ a → B) (hx : x = nI a := by rfl) (hy : y = nI b := by rfl) (ha : a < 2 ^ 31 := by omega) (hb : b < 2 ^ 31 := by omega) : (x < y → A) ∧ (¬ x < y → B) := by
  subst hx hy
  rw [nI_ltI ha hb]
  exact ⟨f, fun z => g (by omega)⟩
theorem pk_eq {x y : Int32} {A B : Prop} (a b : Nat) (f : a = b → A) (g : a ≠ b → B) (hx : x = nI a := by rfl) (hy : y = nI b := by rfl) (ha : a < 2 ^ 31 := by omega) (hb : b < 2 ^ 31 := by omega) : (x = y → A) ∧ (¬ x = y → B) := by
  subst hx hy
  rw [nI_eq ha hb]
  exact ⟨f, g⟩
theorem pk_in {x : Int32} (n N : Nat) (h : n < N) (hx : x = nI n := by rfl) (hN : N < 2 ^ 31 := by omega) : vp_in x N := by
  subst hx
  exact vp_in_nI h hN
theorem pk_cl {x : Int32} (n : Nat) (hx : x = nI n := by rfl) (h : n < 2 ^ 31 := by omega) : x.toNatClampNeg = n := by
  subst hx
  exact nI_clamp h
theorem pk_tn {n : Nat} (h : n < 2 ^ 32) : (nI n).toBitVec.toNat = n := Nat.mod_eq_of_lt h
theorem pk_and (x : Int32) {m : Int32} (k : Nat) (hm : m.toBitVec.toNat = 2 ^ k - 1) : x &&& m = nI (x.toBitVec.toNat % 2 ^ k) := by
  apply Int32.toBitVec_inj.mp
  apply BitVec.eq_of_toNat_eq
  rw [Int32.toBitVec_and, BitVec.toNat_and, hm, Nat.and_two_pow_sub_one_eq_mod]
  show _ = (BitVec.ofNat 32 _).toNat
  rw [BitVec.toNat_ofNat]
  exact (Nat.mod_eq_of_lt (Nat.lt_of_le_of_lt (Nat.mod_le _ _) x.toBitVec.isLt)).symm
theorem pk_andN {n : Nat} (h : n < 2 ^ 32) {m : Int32} (k : Nat) (hm : m.toBitVec.toNat = 2 ^ k - 1) : nI n &&& m = nI (n % 2 ^ k) := by
  rw [pk_and _ k hm, pk_tn h]
theorem pk_shl (a s : Int32) (k : Nat) (hs : (s.toBitVec.smod 32).toNat = k) : (a <<< s).toBitVec.toNat = a.toBitVec.toNat * 2 ^ k % 2 ^ 32 := by
  show (a.toBitVec <<< (s.toBitVec.smod 32).toNat).toNat = _
  rw [hs, BitVec.toNat_shiftLeft, Nat.shiftLeft_eq]
theorem pk_shlN {n : Nat} (s : Int32) (k : Nat) (hs : (s.toBitVec.smod 32).toNat = k) (h : n * 2 ^ k < 2 ^ 32) : nI n <<< s = nI (n * 2 ^ k) := by
  apply Int32.toBitVec_inj.mp
  apply BitVec.eq_of_toNat_eq
  have hn : n < 2 ^ 32 := Nat.lt_of_le_of_lt (Nat.le_mul_of_pos_right n (Nat.two_pow_pos k)) h
  rw [pk_shl _ _ k hs, pk_tn hn, pk_tn h, Nat.mod_eq_of_lt h]
theorem pk_shr (a s : Int32) (k : Nat) (hs : (s.toBitVec.smod 32).toNat = k) : (a >>> s).toInt = a.toInt >>> k := by
  show (a.toBitVec.sshiftRight (s.toBitVec.smod 32).toNat).toInt = _
  rw [hs, BitVec.toInt_sshiftRight]
  rfl
theorem pk_shrN {n : Nat} (h : n < 2 ^ 31) (s : Int32) (k : Nat) (hs : (s.toBitVec.smod 32).toNat = k) : nI n >>> s = nI (n / 2 ^ k) := by
  apply Int32.toInt_inj.mp
  have h2 : n / 2 ^ k ≤ n := Nat.div_le_self _ _
  rw [pk_shr _ _ k hs, nI_toInt h, nI_toInt (by omega), Int.shiftRight_eq_div_pow]
  rfl
theorem pk_loop {σ : Type} (W : Nat → Nat → σ → Prop) (I : Nat → σ → Prop) (e i0 : Nat) (s : σ) (hi : i0 ≤ e) (h0 : I i0 s) (hx : ∀ n s, I e s → W (n + 1) e s)
    (hs : ∀ n i s, i < e → I i s → (∀ s', I (i + 1) s' → W n (i + 1) s') → W (n + 1) i s) : ∃ n, W n i0 s :=
  ⟨e + 1, loop_i W I e hx hs (e + 1) i0 s hi (by omega) h0⟩
theorem pk_loopD {σ : Type} (W : Nat → Nat → σ → Prop) (I : Nat → σ → Prop) (hx : ∀ n s, I 0 s → W (n + 1) 0 s)
    (hs : ∀ n i s, I (i + 1) s → (∀ s', I i s' → W n i s') → W (n + 1) (i + 1) s) : ∀ (e : Nat) (s : σ), I e s → W (e + 1) e s := by
  intro e
  induction e with
  | zero => exact fun s h => hx 0 s h
  | succ e ih => exact fun s h => hs (e + 1) e s h (fun s' h' => ih s' h')
theorem s_l : ∀ n, n < 32 → ((nI n &&& 31).toBitVec.smod 32).toNat = n := by decide +kernel
end
section
/-! ===== pure numbers: the parts, the sums, the letters' differences ===== -/
theorem cd_nM : (-1 : Int32) = nI 4294967295 := by decide +kernel
theorem cd_mod (a : Nat) : nI (a % 4294967296) = nI a := by
  apply Int32.toBitVec_inj.mp
  show BitVec.ofNat 32 (a % 4294967296) = BitVec.ofNat 32 a
  apply BitVec.eq_of_toNat_eq
  rw [BitVec.toNat_ofNat, BitVec.toNat_ofNat]
  exact Nat.mod_mod a 4294967296
theorem cd_eqm {a b : Nat} (h : a % 4294967296 = b % 4294967296) : nI a = nI b := by
  rw [← cd_mod a, h, cd_mod]
theorem cd_or (a b : Nat) : nI a ||| nI b = nI (a ||| b) := by
  apply Int32.toBitVec_inj.1
  show BitVec.ofNat 32 a ||| BitVec.ofNat 32 b = BitVec.ofNat 32 (a ||| b)
  apply BitVec.eq_of_getLsbD_eq
  intro i hi
  simp [hi]
theorem cd_rng {N : Nat} {f : Nat → Bool} (h : (List.range N).all f = true) {i : Nat} (hi : i < N) : f i = true :=
  List.all_eq_true.mp h i (List.mem_range.mpr hi)
/-- part i of s -/
def cd_pt (s i : Nat) : Nat := s / 8 ^ i % 8
theorem cd_pt_lt (s i : Nat) : cd_pt s i < 8 := Nat.mod_lt _ (by decide)
theorem cd_part {s i : Nat} (hs : s < 4096) (hi : i < 4) : (nI s >>> ((3 * nI i) &&& 31)) &&& 7 = nI (cd_pt s i) := by
  have e : (3 : Int32) * nI i = nI (3 * i) := pk_mul 3 i
  have e2 : (2 : Nat) ^ (3 * i) = 8 ^ i := Nat.pow_mul 2 3 i
  rw [e, pk_shrN (by omega) (nI (3 * i) &&& 31) (3 * i) (s_l (3 * i) (by omega)), pk_andN (Nat.lt_of_le_of_lt (Nat.div_le_self _ _) (by omega)) 3 (by decide), e2]
  exact rfl
theorem cd_dig {d i : Nat} (hd : d < 4096) (hi : i < 4) : (nI d >>> ((2 * nI i) &&& 31)) &&& 3 = nI (d / 4 ^ i % 4) := by
  have e : (2 : Int32) * nI i = nI (2 * i) := pk_mul 2 i
  have e2 : (2 : Nat) ^ (2 * i) = 4 ^ i := Nat.pow_mul 2 2 i
  rw [e, pk_shrN (by omega) (nI (2 * i) &&& 31) (2 * i) (s_l (2 * i) (by omega)), pk_andN (Nat.lt_of_le_of_lt (Nat.div_le_self _ _) (by omega)) 2 (by decide), e2]
theorem cd_shl {c i : Nat} (hc : c < 8) (hi : i < 4) : nI c <<< ((3 * nI i) &&& 31) = nI (c * 8 ^ i) := by
  have e : (3 : Int32) * nI i = nI (3 * i) := pk_mul 3 i
  have e2 : (2 : Nat) ^ (3 * i) = 8 ^ i := Nat.pow_mul 2 3 i
  have e3 : (8 : Nat) ^ i ≤ 8 ^ 3 := Nat.pow_le_pow_right (by decide) (by omega)
  have e4 : c * 8 ^ i ≤ 8 * 8 ^ 3 := Nat.mul_le_mul (by omega) e3
  rw [e, pk_shlN (nI (3 * i) &&& 31) (3 * i) (s_l (3 * i) (by omega)) (by rw [e2]; omega), e2]
/-- the sum of the partition s, 0 where s is none -/
def cd_sum (s : Nat) : Nat :=
  if cd_pt s 1 ≤ cd_pt s 0 then
    if cd_pt s 2 ≤ cd_pt s 1 then
      if cd_pt s 3 ≤ cd_pt s 2 then
        if cd_pt s 0 + cd_pt s 1 + cd_pt s 2 + cd_pt s 3 ≤ 7 then cd_pt s 0 + cd_pt s 1 + cd_pt s 2 + cd_pt s 3 else 0
      else 0
    else 0
  else 0
theorem cd_sum_le (s : Nat) : cd_sum s ≤ 7 := by
  unfold cd_sum
  split
  · split
    · split
      · split
        · assumption
        · omega
      · omega
    · omega
  · omega
theorem cd_bigA : (List.range 4096).all (fun s => Nat.ble s 658 || Nat.beq (cd_sum s) 0) = true := by decide +kernel
theorem cd_big {s : Nat} (h : s < 4096) (h2 : 658 < s) : cd_sum s = 0 := by
  have := cd_rng cd_bigA h
  rcases (Bool.or_eq_true _ _).mp this with a | a
  · have := Nat.le_of_ble_eq_true a
    omega
  · exact Nat.eq_of_beq_eq_true a
theorem cd_sum_0 : cd_sum 0 = 0 := by decide +kernel
def cd_L : List Nat := [1, 2, 3, 4, 5, 6, 7, 9, 10, 11, 12, 13, 14, 18, 19, 20, 21, 27, 28, 73, 74, 75, 76, 77, 82, 83, 84, 91, 146, 147, 585, 586, 587, 588, 594, 595, 658]
theorem cd_memA : (List.range 4096).all (fun s => Nat.beq (cd_sum s) 0 || decide (s ∈ cd_L)) = true := by decide +kernel
theorem cd_mem {s : Nat} (h : s < 4096) (h0 : cd_sum s ≠ 0) : s ∈ cd_L := by
  have := cd_rng cd_memA h
  rcases (Bool.or_eq_true _ _).mp this with a | a
  · exact absurd (Nat.eq_of_beq_eq_true a) h0
  · exact of_decide_eq_true a
theorem cd_all {f : Nat → Bool} (h : cd_L.all f = true) {s : Nat} (hs : s < 4096) (h0 : cd_sum s ≠ 0) : f s = true :=
  List.all_eq_true.mp h s (cd_mem hs h0)
/-- how many parts of s are at least b -/
def cd_one (s b i : Nat) : Nat := if b ≤ cd_pt s i then 1 else 0
def cd_cn (s b : Nat) : Nat → Nat
  | 0 => 0
  | i + 1 => cd_cn s b i + cd_one s b i
theorem cd_one_le (s b i : Nat) : cd_one s b i ≤ 1 := by
  unfold cd_one
  split <;> omega
theorem cd_cn_le (s b : Nat) : ∀ i, cd_cn s b i ≤ i
  | 0 => Nat.le_refl 0
  | i + 1 => Nat.add_le_add (cd_cn_le s b i) (cd_one_le s b i)
/-- 0, 1, 2 stand for 0, 1, -1 -/
def cd_sg (v : Nat) : Nat := v % 2 + v / 2 * 4294967295
def cd_tab (c : Nat) : Nat := cd_sg (Nat.shiftRight 191885445398105467971485967284285428789803277348237464423771350131480333556252158856152336912021964490502609433099961594949192947723141120 (2 * c) % 4)
theorem cd_dt : ∀ w, w < 4 → ∀ x, x < 4 → ∀ y, y < 4 → ∀ z, z < 4 →
    (((((nI w - nI x) * (nI w - nI y)) * (nI w - nI z)) * (nI x - nI y)) * (nI x - nI z)) * (nI y - nI z) / 12 = nI (cd_tab (w + 4 * x + 16 * y + 64 * z)) := by decide +kernel
/-- the sum of the parts of m that the deal d gives to the letter l -/
def cd_di (l m d i : Nat) : Nat := if d / 4 ^ i % 4 = l then cd_pt m i else 0
def cd_dl (l m d : Nat) : Nat → Nat
  | 0 => 0
  | i + 1 => cd_dl l m d i + cd_di l m d i
theorem cd_di_le (l m d i : Nat) : cd_di l m d i ≤ 7 := by
  unfold cd_di
  have := cd_pt_lt m i
  split <;> omega
theorem cd_dl_le (l m d : Nat) : cd_dl l m d 4 ≤ 28 := by
  have h0 := cd_di_le l m d 0
  have h1 := cd_di_le l m d 1
  have h2 := cd_di_le l m d 2
  have h3 := cd_di_le l m d 3
  show (((0 + cd_di l m d 0) + cd_di l m d 1) + cd_di l m d 2) + cd_di l m d 3 ≤ 28
  omega
/-- the coefficient of what is left of the powers in the differences' product -/
def cd_dc (w x y z a b c d : Nat) : Nat :=
  if a ≤ w ∧ w < a + 4 then
    if b ≤ x ∧ x < b + 4 then
      if c ≤ y ∧ y < c + 4 then
        if d ≤ z ∧ z < d + 4 then cd_tab ((w - a) + 4 * (x - b) + 16 * (y - c) + 64 * (z - d)) else 0
      else 0
    else 0
  else 0
def cd_F (s m d : Nat) : Nat := cd_dc (cd_pt s 0 + 3) (cd_pt s 1 + 2) (cd_pt s 2 + 1) (cd_pt s 3) (cd_dl 0 m d 4) (cd_dl 1 m d 4) (cd_dl 2 m d 4) (cd_dl 3 m d 4)
def cd_cs (s m : Nat) : Nat → Nat
  | 0 => 0
  | d + 1 => cd_cs s m d + cd_F s m d
/-- X's character -/
def cd_cx (s m : Nat) : Nat := cd_cs s m (4 ^ cd_cn m 1 4)
/-! ===== the reference's polynomials ===== -/
def cd_fc (f : Nat → Nat) : Nat → Nat
  | 0 => f 0
  | j + 1 => f (j + 1)
theorem cd_fc_eq (f : Nat → Nat) (k : Nat) : cd_fc f k = f k := by
  cases k <;> rfl
def cd_tw (w c : Nat) (f : Nat → Nat) (k : Nat) : Nat := if w = 0 then 0 else if c ≤ k then w * cd_fc f (k - c) else 0
def cd_t4 (p w x y z : Nat) (f : Nat → Nat) (k : Nat) : Nat := cd_tw w p f k + cd_tw x (14 * p) f k + cd_tw y (196 * p) f k + cd_tw z 0 f k
def cd_v0 (k : Nat) : Nat := if k = 0 then 1 else 0
def cd_v1 : Nat → Nat := cd_t4 1 1 4294967295 0 0 cd_v0
def cd_v2 : Nat → Nat := cd_t4 1 1 0 4294967295 0 cd_v1
def cd_v3 : Nat → Nat := cd_t4 1 1 0 0 4294967295 cd_v2
def cd_v4 : Nat → Nat := cd_t4 1 0 1 4294967295 0 cd_v3
def cd_v5 : Nat → Nat := cd_t4 1 0 1 0 4294967295 cd_v4
def cd_v6 : Nat → Nat := cd_t4 1 0 0 1 4294967295 cd_v5
def cd_vt (k : Nat) : Nat := cd_sg (Nat.shiftRight 665575260327144035771045399893052477706986738595289335327267701664246522012979879780017061066640822237645506487322434352390150364683772693837278235446282266337836239384601929310455897526067634923223843699927032534538306505386896749116491190374513031346996066189713751502755154043452255427036126980216276516010658116323652033271605177379017448111905481663975135660306595840 (2 * k) % 4)
theorem cd_vA : (List.range 2744).all (fun k => Nat.beq (cd_v6 k % 4294967296) (cd_vt k % 4294967296)) = true := by decide +kernel
theorem cd_v {k : Nat} (hk : k < 2744) : nI (cd_v6 k) = nI (cd_vt k) := cd_eqm (Nat.eq_of_beq_eq_true (cd_rng cd_vA hk))
/-- after the first i parts of m -/
def cd_g (m : Nat) : Nat → Nat → Nat
  | 0 => cd_vt
  | i + 1 => fun k => if cd_pt m i = 0 then cd_g m i k else cd_t4 (cd_pt m i) 1 1 1 1 (cd_g m i) k
/-- after n factors w + x + y + z -/
def cd_o : Nat → Nat → Nat
  | 0 => cd_vt
  | n + 1 => cd_t4 1 1 1 1 1 (cd_o n)
def cd_ix (s : Nat) : Nat := cd_pt s 0 + 3 + 14 * (cd_pt s 1 + 2) + 196 * (cd_pt s 2 + 1)
end
section
/-! ===== the 37 partitions and the 277 pairs ===== -/
theorem cd_chA : cd_L.all (fun m => cd_L.all (fun s => !(Nat.beq (cd_sum s) (cd_sum m)) || Nat.beq (cd_cx s m % 4294967296) (cd_g m 4 (cd_ix s) % 4294967296))) = true := by decide +kernel
theorem cd_ch {s m : Nat} (hs : s < 4096) (hm : m < 4096) (h0 : cd_sum m ≠ 0) (e : cd_sum s = cd_sum m) : nI (cd_cx s m) = nI (cd_g m 4 (cd_ix s)) := by
  have h1 := cd_all cd_chA hm h0
  have h2 := cd_all h1 hs (by rw [e]; exact h0)
  rcases (Bool.or_eq_true _ _).mp h2 with a | a
  · have b : Nat.beq (cd_sum s) (cd_sum m) = true := by rw [e]; exact Nat.beq_refl _
    rw [b] at a
    exact absurd a (by decide)
  · exact cd_eqm (Nat.eq_of_beq_eq_true a)
def cd_fac : Nat → Nat
  | 0 => 1
  | n + 1 => cd_fac n * (n + 1)
def cd_quo (a b : Int32) : Int32 := if b = 0 then 0 else a / b
def cd_dif (w x y z : Int32) : Int32 := (((((w - x) * (w - y)) * (w - z)) * (x - y)) * (x - z)) * (y - z)
/-- X's degree -/
def cd_dI (s : Nat) : Int32 :=
  cd_quo (nI (cd_fac (cd_sum s)) * cd_dif (nI (cd_pt s 0 + 3)) (nI (cd_pt s 1 + 2)) (nI (cd_pt s 2 + 1)) (nI (cd_pt s 3)))
    (((nI (cd_fac (cd_pt s 0 + 3)) * nI (cd_fac (cd_pt s 1 + 2))) * nI (cd_fac (cd_pt s 2 + 1))) * nI (cd_fac (cd_pt s 3)))
theorem cd_dgA : cd_L.all (fun s => decide (cd_dI s = nI (cd_o (cd_sum s) (cd_ix s)))) = true := by decide +kernel
theorem cd_dg {s : Nat} (hs : s < 4096) (h0 : cd_sum s ≠ 0) : cd_dI s = nI (cd_o (cd_sum s) (cd_ix s)) :=
  of_decide_eq_true (cd_all (f := fun s => decide (cd_dI s = nI (cd_o (cd_sum s) (cd_ix s)))) cd_dgA hs h0)
/-- X's writings: ways, before, alike -/
def cd_wi (m : Nat) : Nat → Nat × Nat × Nat
  | 0 => (1, 0, 0)
  | i + 1 =>
    if 0 < cd_pt m i then
      ((cd_wi m i).1 * (cd_pt m i * (if cd_pt m i = (cd_wi m i).2.1 then (cd_wi m i).2.2 + 1 else 1)), cd_pt m i, if cd_pt m i = (cd_wi m i).2.1 then (cd_wi m i).2.2 + 1 else 1)
    else cd_wi m i
theorem cd_wi_b (m : Nat) : ∀ i, (cd_wi m i).2.1 < 8
  | 0 => (by decide : 0 < 8)
  | i + 1 => by
    unfold cd_wi
    split
    · exact cd_pt_lt m i
    · exact cd_wi_b m i
/-- the reference's: same, again -/
def cd_ag (m i a : Nat) : Nat := if 0 < i ∧ cd_pt m i = cd_pt m (i - 1) then a + 1 else 1
def cd_yi (m : Nat) : Nat → Nat × Nat
  | 0 => (1, 0)
  | i + 1 => (if 0 < cd_pt m i then (cd_yi m i).1 * cd_pt m i * cd_ag m i (cd_yi m i).2 else (cd_yi m i).1, cd_ag m i (cd_yi m i).2)
theorem cd_peA : cd_L.all (fun m => Nat.beq (cd_wi m 4).1 (cd_yi m 4).1 && (Nat.ble 1 (cd_wi m 4).1 && Nat.ble (cd_wi m 4).1 5040)) = true := by decide +kernel
theorem cd_pe {m : Nat} (hm : m < 4096) (h0 : cd_sum m ≠ 0) : (cd_wi m 4).1 = (cd_yi m 4).1 ∧ 1 ≤ (cd_wi m 4).1 ∧ (cd_wi m 4).1 ≤ 5040 := by
  have h := cd_all cd_peA hm h0
  have ⟨a, b⟩ := (Bool.and_eq_true _ _).mp h
  have ⟨c, d⟩ := (Bool.and_eq_true _ _).mp b
  exact ⟨Nat.eq_of_beq_eq_true a, Nat.le_of_ble_eq_true c, Nat.le_of_ble_eq_true d⟩
/-- turned, by sums and by or -/
def cd_tx (s : Nat) : Nat → Nat
  | 0 => 0
  | i + 1 => cd_tx s i + cd_cn s (i + 1) 4 * 8 ^ i
def cd_ty (s : Nat) : Nat → Nat
  | 0 => 0
  | i + 1 => cd_ty s i ||| cd_cn s (i + 1) 4 * 8 ^ i
theorem cd_tuA : cd_L.all (fun s => Nat.beq (cd_tx s 4) (cd_ty s 4)) = true := by decide +kernel
theorem cd_tu {s : Nat} (hs : s < 4096) (h0 : cd_sum s ≠ 0) : cd_tx s 4 = cd_ty s 4 := Nat.eq_of_beq_eq_true (cd_all cd_tuA hs h0)
/-! ===== loops over the shapes ===== -/
/-- what stands after the shapes 1 .. k -/
def cd_fold (n : Nat) (G : Nat → Int32 → Int32) (a : Int32) : Nat → Int32
  | 0 => a
  | k + 1 => if cd_sum (k + 1) = n then G (k + 1) (cd_fold n G a k) else cd_fold n G a k
theorem cd_fold_t {n k : Nat} {G : Nat → Int32 → Int32} {a : Int32} (h : cd_sum (k + 1) = n) : cd_fold n G a (k + 1) = G (k + 1) (cd_fold n G a k) := if_pos h
theorem cd_fold_f {n k : Nat} {G : Nat → Int32 → Int32} {a : Int32} (h : ¬ cd_sum (k + 1) = n) : cd_fold n G a (k + 1) = cd_fold n G a k := if_neg h
theorem cd_fold_ext {n : Nat} {G G' : Nat → Int32 → Int32} {a : Int32} (h : ∀ s, s < 4096 → cd_sum s = n → ∀ b, G s b = G' s b) : ∀ k, k < 4096 → cd_fold n G a k = cd_fold n G' a k
  | 0, _ => rfl
  | k + 1, hk => by
    have ih := cd_fold_ext (a := a) h k (by omega)
    by_cases e : cd_sum (k + 1) = n
    · rw [cd_fold_t e, cd_fold_t e, ih, h (k + 1) hk e]
    · rw [cd_fold_f e, cd_fold_f e, ih]
theorem cd_fold_up {n : Nat} {G : Nat → Int32 → Int32} {a : Int32} (hn : n ≠ 0) : ∀ j, 658 + j < 4096 → cd_fold n G a (658 + j) = cd_fold n G a 658
  | 0, _ => rfl
  | j + 1, hj => by
    have e : ¬ cd_sum (658 + j + 1) = n := by
      rw [cd_big (by omega) (by omega)]
      omega
    show cd_fold n G a (658 + j + 1) = _
    rw [cd_fold_f e, cd_fold_up hn j (by omega)]
theorem cd_fold_top {n : Nat} {G : Nat → Int32 → Int32} {a : Int32} (hn : n ≠ 0) : cd_fold n G a 4095 = cd_fold n G a 658 := cd_fold_up hn 3437 (by decide)
theorem cd_fold_none {n : Nat} {G : Nat → Int32 → Int32} {a : Int32} (hn : 7 < n) : ∀ k, cd_fold n G a k = a
  | 0 => rfl
  | k + 1 => by
    have e : ¬ cd_sum (k + 1) = n := by
      have := cd_sum_le (k + 1)
      omega
    rw [cd_fold_f e, cd_fold_none hn k]
/-- downwards from s, f found so far -/
def cd_pd (n : Nat) (k : Int32) : Nat → Int32 → Int32
  | 0, _ => -1000000
  | s + 1, f => if cd_sum (s + 1) = n then (if f = k then nI (s + 1) else cd_pd n k s (f + 1)) else cd_pd n k s f
theorem cd_pd_r {n s : Nat} {k f : Int32} (h : cd_sum (s + 1) = n) (e : f = k) : cd_pd n k (s + 1) f = nI (s + 1) := (if_pos h).trans (if_pos e)
theorem cd_pd_n {n s : Nat} {k f : Int32} (h : cd_sum (s + 1) = n) (e : ¬ f = k) : cd_pd n k (s + 1) f = cd_pd n k s (f + 1) := (if_pos h).trans (if_neg e)
theorem cd_pd_f {n s : Nat} {k f : Int32} (h : ¬ cd_sum (s + 1) = n) : cd_pd n k (s + 1) f = cd_pd n k s f := if_neg h
theorem cd_pd_up {n : Nat} {k f : Int32} (hn : n ≠ 0) : ∀ j, 658 + j < 4096 → cd_pd n k (658 + j) f = cd_pd n k 658 f
  | 0, _ => rfl
  | j + 1, hj => by
    have e : ¬ cd_sum (658 + j + 1) = n := by
      rw [cd_big (by omega) (by omega)]
      omega
    show cd_pd n k (658 + j + 1) f = _
    rw [cd_pd_f e, cd_pd_up hn j (by omega)]
theorem cd_pd_top {n : Nat} {k f : Int32} (hn : n ≠ 0) : cd_pd n k 4095 f = cd_pd n k 658 f := cd_pd_up hn 3437 (by decide)
theorem cd_pd_none {n : Nat} {k : Int32} (hn : 7 < n) : ∀ j f, cd_pd n k j f = -1000000
  | 0, _ => rfl
  | j + 1, f => by
    have e : ¬ cd_sum (j + 1) = n := by
      have := cd_sum_le (j + 1)
      omega
    rw [cd_pd_f e, cd_pd_none hn j f]
end
section
/-! ===== what 'times' makes of an array ===== -/
def cd_tm (w : Int32) (c : Nat) (f : Nat → Int32) (e k : Nat) : Int32 := if c ≤ k ∧ k - c < e then w * f (k - c) else 0
def cd_at1 (k c : Nat) (v : Int32) : Int32 := if k = c then v else 0
theorem cd_tm_0 (w : Int32) (c : Nat) (f : Nat → Int32) (k : Nat) : cd_tm w c f 0 k = 0 := if_neg (fun h => Nat.not_lt_zero _ h.2)
theorem cd_tm_s (w : Int32) (c : Nat) (f : Nat → Int32) (e k : Nat) : cd_tm w c f (e + 1) k = cd_tm w c f e k + cd_at1 k (e + c) (w * f e) := by
  unfold cd_tm cd_at1
  by_cases h : k = e + c
  · subst h
    have h1 : c ≤ e + c ∧ e + c - c < e + 1 := by omega
    have h2 : ¬ (c ≤ e + c ∧ e + c - c < e) := by omega
    rw [if_pos h1, if_neg h2, if_pos rfl, Nat.add_sub_cancel, Int32.zero_add]
  · rw [if_neg h, Int32.add_zero]
    by_cases h2 : c ≤ k ∧ k - c < e
    · have h3 : c ≤ k ∧ k - c < e + 1 := by omega
      rw [if_pos h2, if_pos h3]
    · have h3 : ¬ (c ≤ k ∧ k - c < e + 1) := by omega
      rw [if_neg h2, if_neg h3]
theorem cd_at1_0 (k c : Nat) (w : Int32) : cd_at1 k c (w * 0) = 0 := by
  unfold cd_at1
  rw [Int32.mul_zero]
  exact ite_self _
theorem cd_tm_z {f : Nat → Int32} {e : Nat} (h : f e = 0) (w : Int32) (c k : Nat) : cd_tm w c f (e + 1) k = cd_tm w c f e k := by
  rw [cd_tm_s, h, cd_at1_0, Int32.add_zero]
def cd_Te (p : Nat) (w x y z : Int32) (f : Nat → Int32) (e k : Nat) : Int32 := cd_tm w p f e k + cd_tm x (14 * p) f e k + cd_tm y (196 * p) f e k + cd_tm z 0 f e k
theorem cd_Te_0 (p : Nat) (w x y z : Int32) (f : Nat → Int32) (k : Nat) : cd_Te p w x y z f 0 k = 0 := by
  unfold cd_Te
  rw [cd_tm_0, cd_tm_0, cd_tm_0, cd_tm_0]
  decide
theorem cd_Te_z {f : Nat → Int32} {e : Nat} (h : f e = 0) (p : Nat) (w x y z : Int32) (k : Nat) : cd_Te p w x y z f (e + 1) k = cd_Te p w x y z f e k := by
  unfold cd_Te
  rw [cd_tm_z h, cd_tm_z h, cd_tm_z h, cd_tm_z h]
theorem cd_sum8 (a b c d a' b' c' d' : Int32) : (a + a') + (b + b') + (c + c') + (d + d') = (((a + b + c + d) + a') + b') + c' + d' := by
  grind
theorem cd_Te_s (p : Nat) (w x y z : Int32) (f : Nat → Int32) (e k : Nat) :
    cd_Te p w x y z f (e + 1) k = ((((cd_Te p w x y z f e k) + cd_at1 k (e + p) (w * f e)) + cd_at1 k (e + 14 * p) (x * f e)) + cd_at1 k (e + 196 * p) (y * f e)) + cd_at1 k e (z * f e) := by
  unfold cd_Te
  rw [cd_tm_s w, cd_tm_s x, cd_tm_s y, cd_tm_s z, Nat.add_zero]
  exact cd_sum8 _ _ _ _ _ _ _ _
theorem cd_tm_nI {a : Nat → Int32} {f : Nat → Nat} (h : ∀ k, k < 2744 → a k = nI (f k)) (w c : Nat) {k : Nat} (hk : k < 2744) : cd_tm (nI w) c a 2744 k = nI (cd_tw w c f k) := by
  unfold cd_tm cd_tw
  by_cases hw : w = 0
  · subst hw
    rw [if_pos rfl, nI_0]
    split
    · exact Int32.zero_mul
    · rfl
  · rw [if_neg hw]
    by_cases hc : c ≤ k
    · have h1 : c ≤ k ∧ k - c < 2744 := by omega
      rw [if_pos h1, if_pos hc, h (k - c) (by omega), pk_mul, cd_fc_eq]
    · have h1 : ¬ (c ≤ k ∧ k - c < 2744) := by omega
      rw [if_neg h1, if_neg hc, nI_0]
/-- the array is the numbers' picture -/
def cd_Is (a : Nat → Int32) (f : Nat → Nat) : Prop := ∀ k, k < 2744 → a k = nI (f k)
theorem cd_Is_T {a a' : Nat → Int32} {f : Nat → Nat} {p w x y z : Nat} (h : cd_Is a f) (h' : ∀ k, k < 2744 → a' k = cd_Te p (nI w) (nI x) (nI y) (nI z) a 2744 k) : cd_Is a' (cd_t4 p w x y z f) := by
  intro k hk
  rw [h' k hk]
  unfold cd_Te cd_t4
  rw [cd_tm_nI h w p hk, cd_tm_nI h x (14 * p) hk, cd_tm_nI h y (196 * p) hk, cd_tm_nI h z 0 hk, nI_add, nI_add, nI_add]
end
section
/-! ===== the component's walks, each with a general post ===== -/
theorem cd_lt_of_le0 {x : Int32} (h : x < 0) : x < 1 := Int32.lt_of_lt_of_le h (by decide)
/-- the sum of any int as a shape -/
def cd_val (x : Int32) : Nat := if x < 0 then 0 else if x.toNatClampNeg < 4096 then cd_sum x.toNatClampNeg else 0
theorem cd_val_nI {j : Nat} (hj : j < 4096) : cd_val (nI j) = cd_sum j := by
  unfold cd_val
  rw [if_neg (nI_pos (by omega)), nI_clamp (by omega), if_pos hj]
theorem cd_cases (x : Int32) : (x < 0 ∧ cd_val x = 0) ∨ (∃ j, 4096 ≤ j ∧ j < 2 ^ 31 ∧ x = nI j ∧ cd_val x = 0) ∨ (∃ j, j < 4096 ∧ x = nI j ∧ cd_val x = cd_sum j) := by
  by_cases h : x < 0
  · exact Or.inl ⟨h, if_pos h⟩
  · obtain ⟨j, hj, rfl⟩ := nI_of h
    by_cases h2 : j < 4096
    · exact Or.inr (Or.inr ⟨j, h2, rfl, cd_val_nI h2⟩)
    · refine Or.inr (Or.inl ⟨j, by omega, hj, rfl, ?_⟩)
      unfold cd_val
      rw [if_neg h, nI_clamp hj, if_neg h2]
theorem cd_val_le (x : Int32) : cd_val x ≤ 7 := by
  rcases cd_cases x with ⟨_, e⟩ | ⟨_, _, _, _, e⟩ | ⟨j, _, _, e⟩
  · omega
  · omega
  · have := cd_sum_le j
    omega
theorem cd_val_ne {x : Int32} (h : cd_val x ≠ 0) : ∃ j, j < 4096 ∧ x = nI j ∧ cd_val x = cd_sum j := by
  rcases cd_cases x with ⟨_, e⟩ | ⟨_, _, _, _, e⟩ | c
  · exact absurd e h
  · exact absurd e h
  · exact c
theorem cd_tri (x : Int32) : x ≤ 0 ∨ ∃ j, 1 ≤ j ∧ j < 2 ^ 31 ∧ x = nI j := by
  by_cases h : x ≤ 0
  · exact Or.inl h
  · have h2 : ¬ x < 0 := fun q => h (Int32.le_of_lt q)
    obtain ⟨j, hj, rfl⟩ := nI_of h2
    refine Or.inr ⟨j, ?_, hj, rfl⟩
    rcases Nat.eq_zero_or_pos j with e | e
    · subst e
      exact absurd (show nI 0 ≤ 0 by decide) h
    · exact e
/-! parts and sums -/
theorem xw_part {s i : Nat} (hs : s < 4096) (hi : i < 4) {post : Int32 → Prop} (h : post (nI (cd_pt s i))) : wpX_partOf post (nI s) (nI i) := by
  unfold wpX_partOf
  rw [cd_part hs hi]
  exact h
/-- the sum, step by step: d parts still to come, from part i on -/
def cd_sr (s : Nat) : Nat → Nat → Nat → Nat → Nat
  | 0, _, sum, _ => if sum ≤ 7 then sum else 0
  | d + 1, i, sum, b => if cd_pt s i ≤ b then cd_sr s d (i + 1) (sum + cd_pt s i) (cd_pt s i) else 0
theorem cd_sr_eq1 (s : Nat) : cd_sr s 3 1 (cd_pt s 0) (cd_pt s 0) = cd_sum s := rfl
theorem cd_sr_eq (s : Nat) : cd_sr s 4 0 0 7 = cd_sum s := by
  have h0 : cd_pt s 0 ≤ 7 := Nat.le_of_lt_succ (cd_pt_lt s 0)
  have e : cd_sr s 4 0 0 7 = cd_sr s 3 1 (0 + cd_pt s 0) (cd_pt s 0) := if_pos h0
  rw [e, Nat.zero_add]
  exact cd_sr_eq1 s
theorem xw_sumL {s : Nat} (hs : s < 4096) {post : Int32 → Prop} : ∀ d i sum b, i + d = 4 → sum ≤ 7 * i → b < 8 → post (nI (cd_sr s d i sum b)) → wX_sumOf_21 post (nI s) (d + 1) (nI sum) (nI b) (nI i) := by
  intro d
  induction d with
  | zero =>
    intro i sum b hi hm hb h
    refine pk_le 4 i (fun _ => ?_) (fun q => absurd q (by omega))
    refine pk_lt 7 sum (fun q => ?_) (fun q => ?_)
    · have e : cd_sr s 0 i sum b = 0 := if_neg (by omega)
      rw [e] at h
      exact h
    · have e : cd_sr s 0 i sum b = sum := if_pos q
      rw [e] at h
      exact h
  | succ d ih =>
    intro i sum b hi hm hb h
    have hp := cd_pt_lt s i
    refine pk_le 4 i (fun q => absurd q (by omega)) (fun _ => xw_part hs (by omega) ?_)
    refine pk_le (cd_pt s i) b (fun q => ?_) (fun q => ?_)
    · refine nm_r (nI_add sum (cd_pt s i)) (nm_r (nI_1 i) ?_)
      have e : cd_sr s (d + 1) i sum b = cd_sr s d (i + 1) (sum + cd_pt s i) (cd_pt s i) := if_pos q
      rw [e] at h
      exact ih (i + 1) (sum + cd_pt s i) (cd_pt s i) (by omega) (by omega) hp h
    · have e : cd_sr s (d + 1) i sum b = 0 := if_neg (by omega)
      rw [e] at h
      exact h
theorem xw_sum (x : Int32) {post : Int32 → Prop} (h : post (nI (cd_val x))) : wpX_sumOf post x := by
  rcases cd_cases x with ⟨hx, e⟩ | ⟨j, hj, hj2, rfl, e⟩ | ⟨j, hj, rfl, e⟩
  · rw [e] at h
    exact br_t (cd_lt_of_le0 hx) h
  · rw [e] at h
    exact pk_lt j 1 (fun q => absurd q (by omega)) (fun _ => pk_le j 658 (fun q => absurd q (by omega)) (fun _ => h))
  · rw [e] at h
    refine pk_lt j 1 (fun q => ?_) (fun _ => pk_le j 658 (fun _ => ⟨5, ?_⟩) (fun q => ?_))
    · have z : j = 0 := by omega
      rw [z, cd_sum_0] at h
      exact h
    · rw [← cd_sr_eq] at h
      exact xw_sumL hj 4 0 0 7 rfl (by omega) (by omega) h
    · rw [cd_big hj q] at h
      exact h
theorem xw_sumN {s : Nat} (hs : s < 4096) {post : Int32 → Prop} (h : post (nI (cd_sum s))) : wpX_sumOf post (nI s) :=
  xw_sum (nI s) (by rw [cd_val_nI hs]; exact h)
theorem xw_pow {s l : Nat} (hs : s < 4096) (hl : l < 4) {post : Int32 → Prop} (h : post (nI (cd_pt s l + (3 - l)))) : wpX_powerOf post (nI s) (nI l) := by
  unfold wpX_powerOf
  refine xw_part hs hl ?_
  have e : ((nI (cd_pt s l) + 4) - 1) - nI l = nI (cd_pt s l + (3 - l)) := by
    have e1 : nI (cd_pt s l) + 4 = nI (cd_pt s l + 4) := nI_add _ 4
    have e2 : nI (cd_pt s l + 4) - 1 = nI (cd_pt s l + 3) := nI_pred _
    rw [e1, e2, pk_sub (by omega)]
    exact congrArg nI (by omega)
  show post (((nI (cd_pt s l) + 4) - 1) - nI l)
  rw [e]
  exact h
theorem xw_pow0 {s : Nat} (hs : s < 4096) {post : Int32 → Prop} (h : post (nI (cd_pt s 0 + 3))) : wpX_powerOf post (nI s) 0 := xw_pow (l := 0) hs (by decide) h
theorem xw_pow1 {s : Nat} (hs : s < 4096) {post : Int32 → Prop} (h : post (nI (cd_pt s 1 + 2))) : wpX_powerOf post (nI s) 1 := xw_pow (l := 1) hs (by decide) h
theorem xw_pow2 {s : Nat} (hs : s < 4096) {post : Int32 → Prop} (h : post (nI (cd_pt s 2 + 1))) : wpX_powerOf post (nI s) 2 := xw_pow (l := 2) hs (by decide) h
theorem xw_pow3 {s : Nat} (hs : s < 4096) {post : Int32 → Prop} (h : post (nI (cd_pt s 3))) : wpX_powerOf post (nI s) 3 := xw_pow (l := 3) hs (by decide) h
theorem cd_cn_t {s b i : Nat} (h : b ≤ cd_pt s i) : cd_cn s b (i + 1) = cd_cn s b i + 1 := congrArg (cd_cn s b i + ·) (if_pos h)
theorem cd_cn_f {s b i : Nat} (h : ¬ b ≤ cd_pt s i) : cd_cn s b (i + 1) = cd_cn s b i := congrArg (cd_cn s b i + ·) (if_neg h)
theorem xw_palL {s b : Nat} (hs : s < 4096) (hb : b < 100) {post : Int32 → Prop} (h : post (nI (cd_cn s b 4))) : ∀ d i, i + d = 4 → wX_partsAtLeast_4 post (nI s) (nI b) (d + 1) (nI (cd_cn s b i)) (nI i) := by
  intro d
  induction d with
  | zero =>
    intro i hi
    refine pk_le 4 i (fun _ => ?_) (fun q => absurd q (by omega))
    have e : i = 4 := by omega
    rw [e]
    exact h
  | succ d ih =>
    intro i hi
    have hp := cd_pt_lt s i
    refine pk_le 4 i (fun q => absurd q (by omega)) (fun _ => xw_part hs (by omega) ?_)
    refine pk_lt (cd_pt s i) b (fun q => nm_r (nI_1 i) ?_) (fun q => nm_r (nI_1 (cd_cn s b i)) (nm_r (nI_1 i) ?_))
    · have := ih (i + 1) (by omega)
      rw [cd_cn_f (by omega)] at this
      exact this
    · have := ih (i + 1) (by omega)
      rw [cd_cn_t q] at this
      exact this
theorem xw_pal {s b : Nat} {B : Int32} (hB : B = nI b) (hs : s < 4096) (hb : b < 100) {post : Int32 → Prop} (h : post (nI (cd_cn s b 4))) : wpX_partsAtLeast post (nI s) B := by
  subst hB
  exact ⟨5, xw_palL hs hb h 4 0 rfl⟩
theorem cd_dl_t {l m d i : Nat} (h : d / 4 ^ i % 4 = l) : cd_dl l m d (i + 1) = cd_dl l m d i + cd_pt m i := congrArg (cd_dl l m d i + ·) (if_pos h)
theorem cd_dl_f {l m d i : Nat} (h : ¬ d / 4 ^ i % 4 = l) : cd_dl l m d (i + 1) = cd_dl l m d i := congrArg (cd_dl l m d i + ·) (if_neg h)
theorem cd_m4 (x : Nat) : x % 4 < 2 ^ 31 := Nat.lt_trans (Nat.mod_lt x (by decide)) (by decide)
theorem xw_dealL {l m d : Nat} (hl : l < 4) (hm : m < 4096) (hd : d < 4096) {post : Int32 → Prop} (h : post (nI (cd_dl l m d 4))) : ∀ k i, i + k = 4 → wX_dealtTo_5 post (nI l) (nI m) (nI d) (k + 1) (nI (cd_dl l m d i)) (nI i) := by
  intro k
  induction k with
  | zero =>
    intro i hi
    refine pk_le 4 i (fun _ => ?_) (fun q => absurd q (by omega))
    have e : i = 4 := by omega
    rw [e]
    exact h
  | succ k ih =>
    intro i hi
    refine pk_le 4 i (fun q => absurd q (by omega)) (fun _ => ?_)
    refine pk_eq (d / 4 ^ i % 4) l (fun q => ?_) (fun q => ?_) (cd_dig hd (by omega)) rfl (cd_m4 _) (by omega)
    · refine xw_part hm (by omega) (nm_r (nI_add _ _) (nm_r (nI_1 i) ?_))
      have := ih (i + 1) (by omega)
      rw [cd_dl_t q] at this
      exact this
    · refine nm_r (nI_1 i) ?_
      have := ih (i + 1) (by omega)
      rw [cd_dl_f q] at this
      exact this
theorem xw_deal {L : Int32} (l : Nat) {m d : Nat} (hl : l < 4) (hm : m < 4096) (hd : d < 4096) {post : Int32 → Prop} (h : post (nI (cd_dl l m d 4))) (hL : L = nI l := by rfl) : wpX_dealtTo post L (nI m) (nI d) := by
  subst hL
  exact ⟨5, xw_dealL hl hm hd h 4 0 rfl⟩
theorem xw_stair {a b : Nat} (ha : a < 1000) (hb : b < 1000) {post : Int32 → Prop} (h1 : b ≤ a ∧ a < b + 4 → post 1) (h0 : ¬ (b ≤ a ∧ a < b + 4) → post 0) : wpX_isStair post (nI a - nI b) := by
  by_cases q : b ≤ a
  · rw [pk_sub q]
    exact pk_lt (a - b) 0 (fun z => absurd z (by omega)) (fun _ => pk_le 4 (a - b) (fun z => h0 (by omega)) (fun z => h1 (by omega)))
  · exact br_t (pk_sneg (by omega) (by omega)) (h0 (by omega))
theorem xw_dif {a b c d : Int32} {post : Int32 → Prop} (h : post (cd_dif a b c d)) : wpX_differences post a b c d := h
theorem cd_n10 : ¬ (1 : Int32) = 0 := by decide
theorem cd_n12 : ¬ (12 : Int32) = 0 := by decide
theorem xw_dc {w x y z a b c d : Nat} (hw : w < 1000) (hx : x < 1000) (hy : y < 1000) (hz : z < 1000) (ha : a < 1000) (hb : b < 1000) (hc : c < 1000) (hd : d < 1000) {post : Int32 → Prop} (h : post (nI (cd_dc w x y z a b c d))) :
    wpX_differenceCoefficient post (nI w - nI a) (nI x - nI b) (nI y - nI c) (nI z - nI d) := by
  unfold wpX_differenceCoefficient
  refine xw_stair hw ha (fun q1 => br_f cd_n10 ?_) (fun q1 => br_t rfl ?_)
  · refine xw_stair hx hb (fun q2 => br_f cd_n10 ?_) (fun q2 => br_t rfl ?_)
    · refine xw_stair hy hc (fun q3 => br_f cd_n10 ?_) (fun q3 => br_t rfl ?_)
      · refine xw_stair hz hd (fun q4 => br_f cd_n10 ?_) (fun q4 => br_t rfl ?_)
        · have e : cd_dc w x y z a b c d = cd_tab ((w - a) + 4 * (x - b) + 16 * (y - c) + 64 * (z - d)) := by
            unfold cd_dc
            rw [if_pos q1, if_pos q2, if_pos q3, if_pos q4]
          refine xw_dif ⟨cd_n12, ?_⟩
          rw [pk_sub q1.1, pk_sub q2.1, pk_sub q3.1, pk_sub q4.1]
          rw [e, ← cd_dt (w - a) (by omega) (x - b) (by omega) (y - c) (by omega) (z - d) (by omega)] at h
          exact h
        · have e : cd_dc w x y z a b c d = 0 := by
            unfold cd_dc
            rw [if_pos q1, if_pos q2, if_pos q3, if_neg q4]
          rw [e] at h
          exact h
      · have e : cd_dc w x y z a b c d = 0 := by
          unfold cd_dc
          rw [if_pos q1, if_pos q2, if_neg q3]
        rw [e] at h
        exact h
    · have e : cd_dc w x y z a b c d = 0 := by
        unfold cd_dc
        rw [if_pos q1, if_neg q2]
      rw [e] at h
      exact h
  · have e : cd_dc w x y z a b c d = 0 := by
      unfold cd_dc
      rw [if_neg q1]
    rw [e] at h
    exact h
theorem xw_coefL {s m D : Nat} (hm : m < 4096) (hD : D ≤ 256) {post : Int32 → Prop} (h : post (nI (cd_cs s m D))) : ∀ k d, d + k = D →
    wX_coefficient_43 post (nI m) (nI (cd_pt s 0 + 3)) (nI (cd_pt s 1 + 2)) (nI (cd_pt s 2 + 1)) (nI (cd_pt s 3)) (nI D) (k + 1) (nI (cd_cs s m d)) (nI d) := by
  intro k
  induction k with
  | zero =>
    intro d hd
    refine pk_le D d (fun _ => ?_) (fun q => absurd q (by omega))
    have e : d = D := by omega
    rw [e]
    exact h
  | succ k ih =>
    intro d hd
    have p0 := cd_pt_lt s 0
    have p1 := cd_pt_lt s 1
    have p2 := cd_pt_lt s 2
    have p3 := cd_pt_lt s 3
    have l0 := cd_dl_le 0 m d
    have l1 := cd_dl_le 1 m d
    have l2 := cd_dl_le 2 m d
    have l3 := cd_dl_le 3 m d
    refine pk_le D d (fun q => absurd q (by omega)) (fun _ => ?_)
    refine xw_deal 0 (by decide) hm (by omega) (nm_e ?_)
    refine xw_deal 1 (by decide) hm (by omega) (nm_e ?_)
    refine xw_deal 2 (by decide) hm (by omega) (nm_e ?_)
    refine xw_deal 3 (by decide) hm (by omega) (nm_e ?_)
    refine xw_dc (by omega) (by omega) (by omega) (by omega) (by omega) (by omega) (by omega) (by omega) (nm_r (nI_add _ _) (nm_r (nI_1 d) ?_))
    exact ih (d + 1) (by omega)
theorem cd_deals : ∀ c, c < 5 → (1 : Int32) <<< ((2 * nI c) &&& 31) = nI (4 ^ c) := by decide +kernel
theorem xw_coef {s m : Nat} (hs : s < 4096) (hm : m < 4096) {post : Int32 → Prop} (h : post (nI (cd_cx s m))) : wpX_coefficient post (nI s) (nI m) := by
  have hc := cd_cn_le m 1 4
  have hD : 4 ^ cd_cn m 1 4 ≤ 256 := Nat.le_trans (Nat.pow_le_pow_right (by decide) hc) (by decide)
  unfold wpX_coefficient
  refine xw_pow0 hs (xw_pow1 hs (xw_pow2 hs (xw_pow3 hs (xw_pal (b := 1) rfl hm (by decide) ?_))))
  refine nm_r (cd_deals _ (by omega)) ⟨4 ^ cd_cn m 1 4 + 1, ?_⟩
  exact xw_coefL hm hD h (4 ^ cd_cn m 1 4) 0 (Nat.zero_add _)
end
section
/-! ===== the component's walks: degrees, counts, loops over the shapes ===== -/
theorem xw_facL {n : Nat} (hn : n < 1000) {post : Int32 → Prop} (h : post (nI (cd_fac n))) : ∀ k j, j + k = n → wX_factorial_4 post (nI n) (k + 1) (nI (cd_fac j)) (nI (j + 1)) := by
  intro k
  induction k with
  | zero =>
    intro j hj
    refine pk_lt n (j + 1) (fun _ => ?_) (fun q => absurd q (by omega))
    have e : j = n := by omega
    rw [e]
    exact h
  | succ k ih =>
    intro j hj
    exact pk_lt n (j + 1) (fun q => absurd q (by omega)) (fun _ => nm_r (pk_mul (cd_fac j) (j + 1)) (nm_r (nI_1 (j + 1)) (ih (j + 1) (by omega))))
theorem xw_fac {n : Nat} (hn : n < 1000) {post : Int32 → Prop} (h : post (nI (cd_fac n))) : wpX_factorial post (nI n) := by
  rcases Nat.eq_zero_or_pos n with e | e
  · subst e
    exact ⟨1, pk_lt 0 2 (fun _ => h) (fun q => absurd q (by omega))⟩
  · exact ⟨n - 1 + 1, xw_facL hn h (n - 1) 1 (by omega)⟩
theorem xw_quo {a b : Int32} {post : Int32 → Prop} (h : post (cd_quo a b)) : wpX_quotient post a b := by
  unfold cd_quo at h
  exact br_c (fun e => by rw [if_pos e] at h; exact h) (fun e => ⟨e, by rw [if_neg e] at h; exact h⟩)
theorem xw_degO {s : Nat} (hs : s < 4096) {post : Int32 → Prop} (h : post (cd_dI s)) : wpX_degreeOf post (nI s) := by
  have p0 := cd_pt_lt s 0
  have p1 := cd_pt_lt s 1
  have p2 := cd_pt_lt s 2
  have p3 := cd_pt_lt s 3
  have p4 := cd_sum_le s
  unfold wpX_degreeOf
  refine xw_pow0 hs (xw_pow1 hs (xw_pow2 hs (xw_pow3 hs (xw_sumN hs ?_))))
  refine xw_fac (by omega) (xw_dif (nm_e ?_))
  refine xw_fac (by omega) ?_
  refine xw_fac (by omega) ?_
  refine xw_fac (by omega) ?_
  refine xw_fac (by omega) (nm_e ?_)
  exact xw_quo h
theorem xw_deg (x : Int32) {c : Int32} {post : Int32 → Prop} (h0 : cd_val x = 0 → post (-1000000)) (h1 : ∀ s, s < 4096 → x = nI s → cd_sum s ≠ 0 → post (cd_dI s)) : wpX_degree post c x := by
  unfold wpX_degree
  refine xw_sum x ?_
  have hv := cd_val_le x
  refine pk_eq (cd_val x) 0 (fun q => h0 q) (fun q => ?_)
  obtain ⟨s, hs, rfl, e⟩ := cd_val_ne q
  exact xw_degO hs (h1 s hs rfl (by rw [← e]; exact q))
/-- the answer of 'character' -/
def cd_ans (x y : Int32) : Int32 := if cd_val x = 0 then -1000000 else if cd_val y = cd_val x then nI (cd_cx x.toNatClampNeg y.toNatClampNeg) else -1000000
theorem xw_char (x y : Int32) {c : Int32} {post : Int32 → Prop} (h : post (cd_ans x y)) : wpX_character post c x y := by
  unfold wpX_character
  unfold cd_ans at h
  refine xw_sum x ?_
  have hv := cd_val_le x
  have hw := cd_val_le y
  refine pk_eq (cd_val x) 0 (fun q => ?_) (fun q => xw_sum y (pk_eq (cd_val y) (cd_val x) (fun q2 => ?_) (fun q2 => ?_)))
  · rw [if_pos q] at h
    exact h
  · rw [if_neg q, if_pos q2] at h
    obtain ⟨s, hs, rfl, e⟩ := cd_val_ne q
    obtain ⟨m, hm, rfl, e2⟩ := cd_val_ne (x := y) (by rw [q2]; exact q)
    rw [nI_clamp (by omega), nI_clamp (by omega)] at h
    exact xw_coef hs hm h
  · rw [if_neg q, if_neg q2] at h
    exact h
theorem xw_isSum (x : Int32) {post : Int32 → Prop} (h0 : x ≤ 0 → post 0) (h7 : ∀ j, 7 < j → j < 2 ^ 31 → x = nI j → post 0) (h1 : ∀ j, 1 ≤ j → j ≤ 7 → x = nI j → post 1) : wpX_isSum post x := by
  rcases cd_tri x with h | ⟨j, hj, hj2, rfl⟩
  · exact br_t (Int32.lt_of_le_of_lt h (by decide)) (h0 h)
  · exact pk_lt j 1 (fun q => absurd q (by omega)) (fun _ => pk_lt 7 j (fun q => h7 j q hj2 rfl) (fun q => h1 j hj q rfl))
def cd_Gc (_ : Nat) (a : Int32) : Int32 := a + 1
def cd_Gq (d : Nat → Int32) (s : Nat) (a : Int32) : Int32 := a + d s * d s
def cd_Gg (c : Nat → Int32) (s : Nat) (a : Int32) : Int32 := if c s ≤ a then a else c s
def cd_Gs (c : Nat → Int32) (s : Nat) (a : Int32) : Int32 := if c s = 0 then a else a + 1
theorem cd_Gg_t {c : Nat → Int32} {s : Nat} {a : Int32} (h : c s ≤ a) : cd_Gg c s a = a := if_pos h
theorem cd_Gg_f {c : Nat → Int32} {s : Nat} {a : Int32} (h : ¬ c s ≤ a) : cd_Gg c s a = c s := if_neg h
theorem cd_Gs_t {c : Nat → Int32} {s : Nat} {a : Int32} (h : c s = 0) : cd_Gs c s a = a := if_pos h
theorem cd_Gs_f {c : Nat → Int32} {s : Nat} {a : Int32} (h : ¬ c s = 0) : cd_Gs c s a = a + 1 := if_neg h
theorem cd_Gg_c {c c' : Nat → Int32} {s : Nat} {a : Int32} (h : c s = c' s) : cd_Gg c s a = cd_Gg c' s a := by
  unfold cd_Gg
  rw [h]
theorem cd_Gs_c {c c' : Nat → Int32} {s : Nat} {a : Int32} (h : c s = c' s) : cd_Gs c s a = cd_Gs c' s a := by
  unfold cd_Gs
  rw [h]
theorem xw_countL {n : Nat} (hn : n ≤ 7) {c : Int32} {post : Int32 → Prop} (h : post (cd_fold n cd_Gc 0 658)) : ∀ k i, i + k = 658 → wX_count_13 post (nI n) c (k + 1) (cd_fold n cd_Gc 0 i) (nI (i + 1)) := by
  intro k
  induction k with
  | zero =>
    intro i hi
    refine pk_lt 658 (i + 1) (fun _ => ?_) (fun q => absurd q (by omega))
    have e : i = 658 := by omega
    rw [e]
    exact h
  | succ k ih =>
    intro i hi
    have hs := cd_sum_le (i + 1)
    have I := ih (i + 1) (by omega)
    refine pk_lt 658 (i + 1) (fun q => absurd q (by omega)) (fun _ => xw_sumN (by omega) ?_)
    refine pk_eq (cd_sum (i + 1)) n (fun q => nm_e (nm_r (nI_1 (i + 1)) ?_)) (fun q => nm_r (nI_1 (i + 1)) ?_)
    · rw [cd_fold_t q] at I
      exact I
    · rw [cd_fold_f q] at I
      exact I
theorem xw_squaresL {n : Nat} (hn : n ≤ 7) {c : Int32} {post : Int32 → Prop} (h : post (cd_fold n (cd_Gq cd_dI) 0 658)) : ∀ k i, i + k = 658 → wX_squares_14 post (nI n) c (k + 1) (cd_fold n (cd_Gq cd_dI) 0 i) (nI (i + 1)) := by
  intro k
  induction k with
  | zero =>
    intro i hi
    refine pk_lt 658 (i + 1) (fun _ => ?_) (fun q => absurd q (by omega))
    have e : i = 658 := by omega
    rw [e]
    exact h
  | succ k ih =>
    intro i hi
    have hs := cd_sum_le (i + 1)
    have I := ih (i + 1) (by omega)
    refine pk_lt 658 (i + 1) (fun q => absurd q (by omega)) (fun _ => xw_sumN (by omega) ?_)
    refine pk_eq (cd_sum (i + 1)) n (fun q => xw_degO (by omega) (nm_e (nm_r (nI_1 (i + 1)) ?_))) (fun q => nm_r (nI_1 (i + 1)) ?_)
    · rw [cd_fold_t q] at I
      exact I
    · rw [cd_fold_f q] at I
      exact I
theorem xw_greatestL {n m : Nat} (hn : n ≤ 7) (hm : m < 4096) {c : Int32} {post : Int32 → Prop} (h : post (cd_fold n (cd_Gg (fun s => nI (cd_cx s m))) (-1000000) 658)) : ∀ k i, i + k = 658 →
    wX_greatest_18 post (nI m) (nI n) c (k + 1) (cd_fold n (cd_Gg (fun s => nI (cd_cx s m))) (-1000000) i) (nI (i + 1)) := by
  intro k
  induction k with
  | zero =>
    intro i hi
    refine pk_lt 658 (i + 1) (fun _ => ?_) (fun q => absurd q (by omega))
    have e : i = 658 := by omega
    rw [e]
    exact h
  | succ k ih =>
    intro i hi
    have hs := cd_sum_le (i + 1)
    have I := ih (i + 1) (by omega)
    refine pk_lt 658 (i + 1) (fun q => absurd q (by omega)) (fun _ => xw_sumN (by omega) ?_)
    refine pk_eq (cd_sum (i + 1)) n (fun q => xw_coef (by omega) hm (br_c (fun q2 => nm_r (nI_1 (i + 1)) ?_) (fun q2 => nm_r (nI_1 (i + 1)) ?_))) (fun q => nm_r (nI_1 (i + 1)) ?_)
    · rw [cd_fold_t q] at I
      rw [cd_Gg_t (c := fun s => nI (cd_cx s m)) q2] at I
      exact I
    · rw [cd_fold_t q] at I
      rw [cd_Gg_f (c := fun s => nI (cd_cx s m)) q2] at I
      exact I
    · rw [cd_fold_f q] at I
      exact I
theorem xw_supportL {n m : Nat} (hn : n ≤ 7) (hm : m < 4096) {c : Int32} {post : Int32 → Prop} (h : post (cd_fold n (cd_Gs (fun s => nI (cd_cx s m))) 0 658)) : ∀ k i, i + k = 658 →
    wX_support_17 post (nI m) (nI n) c (k + 1) (cd_fold n (cd_Gs (fun s => nI (cd_cx s m))) 0 i) (nI (i + 1)) := by
  intro k
  induction k with
  | zero =>
    intro i hi
    refine pk_lt 658 (i + 1) (fun _ => ?_) (fun q => absurd q (by omega))
    have e : i = 658 := by omega
    rw [e]
    exact h
  | succ k ih =>
    intro i hi
    have hs := cd_sum_le (i + 1)
    have I := ih (i + 1) (by omega)
    refine pk_lt 658 (i + 1) (fun q => absurd q (by omega)) (fun _ => xw_sumN (by omega) ?_)
    refine pk_eq (cd_sum (i + 1)) n (fun q => xw_coef (by omega) hm (br_c (fun q2 => nm_r (nI_1 (i + 1)) ?_) (fun q2 => nm_e (nm_r (nI_1 (i + 1)) ?_)))) (fun q => nm_r (nI_1 (i + 1)) ?_)
    · rw [cd_fold_t q] at I
      rw [cd_Gs_t (c := fun s => nI (cd_cx s m)) q2] at I
      exact I
    · rw [cd_fold_t q] at I
      rw [cd_Gs_f (c := fun s => nI (cd_cx s m)) q2] at I
      exact I
    · rw [cd_fold_f q] at I
      exact I
theorem xw_partL {n : Nat} (hn : n ≤ 7) {K c : Int32} {post : Int32 → Prop} : ∀ j f, j ≤ 658 → post (cd_pd n K j f) → wX_partition_17 post (nI n) K c (j + 1) f (nI j) := by
  intro j
  induction j with
  | zero =>
    intro f hj h
    exact pk_lt 0 1 (fun _ => h) (fun q => absurd q (by omega))
  | succ j ih =>
    intro f hj h
    have hs := cd_sum_le (j + 1)
    refine pk_lt (j + 1) 1 (fun q => absurd q (by omega)) (fun _ => xw_sumN (by omega) ?_)
    refine pk_eq (cd_sum (j + 1)) n (fun q => br_c (fun e => ?_) (fun e => nm_e (nm_r (pk_m1 j) ?_))) (fun q => nm_r (pk_m1 j) ?_)
    · rw [cd_pd_r q e] at h
      exact h
    · rw [cd_pd_n q e] at h
      exact ih (f + 1) (by omega) h
    · rw [cd_pd_f q] at h
      exact ih f (by omega) h
theorem xw_turnedL {s : Nat} (hs : s < 4096) {c : Int32} {post : Int32 → Prop} (h : post (nI (cd_tx s 4))) : ∀ k i, i + k = 4 → wX_turned_23 post (nI s) c (k + 1) (nI (cd_tx s i)) (nI i) := by
  intro k
  induction k with
  | zero =>
    intro i hi
    refine pk_le 4 i (fun _ => ?_) (fun q => absurd q (by omega))
    have e : i = 4 := by omega
    rw [e]
    exact h
  | succ k ih =>
    intro i hi
    have hc := cd_cn_le s (i + 1) 4
    refine pk_le 4 i (fun q => absurd q (by omega)) (fun _ => xw_pal (nI_1 i) hs (by omega) ?_)
    have e : nI (cd_tx s i) + (nI (cd_cn s (i + 1) 4) <<< ((3 * nI i) &&& 31)) = nI (cd_tx s (i + 1)) := by
      rw [cd_shl (by omega) (by omega), nI_add]
      exact rfl
    exact nm_r e (nm_r (nI_1 i) (ih (i + 1) (by omega)))
theorem xw_writL {m : Nat} (hm : m < 4096) {post : Int32 → Prop} (h : post (nI (cd_wi m 4).1)) : ∀ k i, i + k = 4 → wX_writingsOf_9 post (nI m) (k + 1) (nI (cd_wi m i).1) (nI (cd_wi m i).2.1) (nI (cd_wi m i).2.2) (nI i) := by
  intro k
  induction k with
  | zero =>
    intro i hi
    refine pk_le 4 i (fun _ => ?_) (fun q => absurd q (by omega))
    have e : i = 4 := by omega
    rw [e]
    exact h
  | succ k ih =>
    intro i hi
    have hp := cd_pt_lt m i
    have hb := cd_wi_b m i
    have I := ih (i + 1) (by omega)
    refine pk_le 4 i (fun q => absurd q (by omega)) (fun _ => xw_part hm (by omega) ?_)
    refine pk_le (cd_pt m i) 0 (fun q => nm_r (nI_1 i) ?_) (fun q => ?_)
    · have e : cd_wi m (i + 1) = cd_wi m i := if_neg (by omega)
      rw [e] at I
      exact I
    · have e : cd_wi m (i + 1) = ((cd_wi m i).1 * (cd_pt m i * (if cd_pt m i = (cd_wi m i).2.1 then (cd_wi m i).2.2 + 1 else 1)), cd_pt m i, if cd_pt m i = (cd_wi m i).2.1 then (cd_wi m i).2.2 + 1 else 1) := if_pos q
      rw [e] at I
      refine pk_eq (cd_pt m i) (cd_wi m i).2.1 (fun q2 => ?_) (fun q2 => ?_)
      · rw [if_pos q2] at I
        rw [nI_1 (cd_wi m i).2.2]
        refine nm_r ?_ (nm_r (nI_1 i) I)
        rw [pk_mul, pk_mul]
      · rw [if_neg q2] at I
        refine nm_r ?_ (nm_r (nI_1 i) I)
        exact (congrArg (nI (cd_wi m i).1 * ·) (pk_mul (cd_pt m i) 1)).trans (pk_mul _ _)
theorem xw_writ {m : Nat} (hm : m < 4096) {post : Int32 → Prop} (h : post (nI (cd_wi m 4).1)) : wpX_writingsOf post (nI m) := ⟨5, xw_writL hm h 4 0 rfl⟩
end
section
/-! ===== the reference's walks ===== -/
theorem yw_part {f : Int32} {a b : Nat → Int32} {s : Nat} (i : Nat) {x : Int32} (hs : s < 4096) (hi : i < 4) {post : Int32 → Prop} (h : post (nI (cd_pt s i))) (hx : x = nI i := by rfl) : wpY_part post (f, a, b) (nI s) x := by
  subst hx
  show post ((nI s >>> ((3 * nI i) &&& 31)) &&& 7)
  rw [cd_part hs hi]
  exact h
theorem yw_59 {f : Int32} {a b : Nat → Int32} {s i : Nat} {x3 z : Int32} (hs : s < 4096) (hi : i < 4) {post : Int32 → Prop} {J : Int32 → Int32 → Int32 → Prop} (h : J z (x3 + nI (cd_pt s i)) (nI (i + 1))) : wY_sumOf_59 post J (nI s) x3 (nI i) z f a b := by
  unfold wY_sumOf_59
  exact yw_part i hs hi (nm_e (nm_r (nI_1 i) h))
theorem yw_58 {f : Int32} {a b : Nat → Int32} {s i : Nat} {x3 : Int32} (hs : s < 4096) (hi : i < 4) {post : Int32 → Prop} {J : Int32 → Int32 → Int32 → Prop} (h : J 0 (x3 + nI (cd_pt s i)) (nI (i + 1))) : wY_sumOf_58 post J (nI s) x3 (nI i) f a b := by
  unfold wY_sumOf_58
  exact yw_59 hs hi h
theorem yw_sum0 {f : Int32} {a b : Nat → Int32} {s : Nat} (hs : s < 4096) {post : Int32 → Prop} (h : post 0) : ∀ d i x3, i + d = 4 → wY_sumOf_25 post (nI s) f a b (d + 1) 0 x3 (nI i) := by
  intro d
  induction d with
  | zero =>
    intro i x3 hi
    exact pk_le 4 i (fun _ => br_t rfl h) (fun q => absurd q (by omega))
  | succ d ih =>
    intro i x3 hi
    exact pk_le 4 i (fun q => absurd q (by omega)) (fun _ => br_t rfl (yw_58 hs (by omega) (ih (i + 1) _ (by omega))))
theorem yw_sumL {f : Int32} {a b : Nat → Int32} {s : Nat} (hs : s < 4096) {post : Int32 → Prop} : ∀ d j sum, j + 1 + d = 4 → sum ≤ 7 * (j + 1) → post (nI (cd_sr s d (j + 1) sum (cd_pt s j))) → wY_sumOf_25 post (nI s) f a b (d + 1) 1 (nI sum) (nI (j + 1)) := by
  intro d
  induction d with
  | zero =>
    intro j sum hj hm h
    refine pk_le 4 (j + 1) (fun _ => br_f cd_n10 ?_) (fun q => absurd q (by omega))
    refine pk_lt 7 sum (fun q => ?_) (fun q => ?_)
    · have e : cd_sr s 0 (j + 1) sum (cd_pt s j) = 0 := if_neg (by omega)
      rw [e] at h
      exact h
    · have e : cd_sr s 0 (j + 1) sum (cd_pt s j) = sum := if_pos q
      rw [e] at h
      exact h
  | succ d ih =>
    intro j sum hj hm h
    have hp := cd_pt_lt s (j + 1)
    have hp0 := cd_pt_lt s j
    refine pk_le 4 (j + 1) (fun q => absurd q (by omega)) (fun _ => br_f cd_n10 ?_)
    refine yw_part (j + 1) hs (by omega) ?_
    refine yw_part j hs (by omega) ?_ (nI_pred j)
    refine pk_lt (cd_pt s j) (cd_pt s (j + 1)) (fun q => yw_58 hs (by omega) ?_) (fun q => yw_59 hs (by omega) ?_)
    · have e : cd_sr s (d + 1) (j + 1) sum (cd_pt s j) = 0 := if_neg (by omega)
      rw [e] at h
      exact yw_sum0 hs h d (j + 1 + 1) _ (by omega)
    · have e : cd_sr s (d + 1) (j + 1) sum (cd_pt s j) = cd_sr s d (j + 1 + 1) (sum + cd_pt s (j + 1)) (cd_pt s (j + 1)) := if_pos q
      rw [e] at h
      rw [nI_add]
      exact ih (j + 1) (sum + cd_pt s (j + 1)) (by omega) (by omega) h
theorem yw_sum (x : Int32) {f : Int32} {a b : Nat → Int32} {post : Int32 → Prop} (h : post (nI (cd_val x))) : wpY_sumOf post (f, a, b) x := by
  rcases cd_cases x with ⟨hx, e⟩ | ⟨j, hj, hj2, rfl, e⟩ | ⟨j, hj, rfl, e⟩
  · rw [e] at h
    exact br_t hx h
  · rw [e] at h
    exact pk_lt j 0 (fun q => absurd q (by omega)) (fun _ => pk_le j 4095 (fun q => absurd q (by omega)) (fun _ => h))
  · rw [e] at h
    have hp := cd_pt_lt j 0
    refine pk_lt j 0 (fun q => absurd q (by omega)) (fun _ => pk_le j 4095 (fun _ => ?_) (fun q => absurd q (by omega)))
    refine yw_part 0 hj (by decide) ⟨4, ?_⟩
    rw [← cd_sr_eq1] at h
    exact yw_sumL hj 3 0 (cd_pt j 0) rfl (by omega) h
theorem yw_sumN {s : Nat} {f : Int32} {a b : Nat → Int32} (hs : s < 4096) {post : Int32 → Prop} (h : post (nI (cd_sum s))) : wpY_sumOf post (f, a, b) (nI s) :=
  yw_sum (nI s) (by rw [cd_val_nI hs]; exact h)
/-! the polynomials -/
theorem yw_put {f : Int32} {a b : Nat → Int32} (c : Nat) {x v : Int32} (hc : c < 2 ^ 31) {post : SY → Prop} (h : ∀ b', (∀ k, k < 2744 → b' k = b k + cd_at1 k c v) → post (f, a, b')) (hx : x = nI c := by rfl) : wpY_put post (f, a, b) x v := by
  subst hx
  refine pk_le 2744 c (fun q => h b (fun k hk => ?_)) (fun q => ⟨vp_in_nI q (by decide), vp_in_nI q (by decide), nm_e (h _ (fun k hk => ?_))⟩)
  · have e : ¬ k = c := by omega
    unfold cd_at1
    rw [if_neg e, Int32.add_zero]
  · rw [nI_clamp hc]
    unfold cd_at1
    by_cases e : k = c
    · rw [if_pos e, e, pk_us]
    · rw [if_neg e, Int32.add_zero, pk_un e]
theorem yw_t130 {f : Int32} {b : Nat → Int32} {post : SY → Prop} (h : ∀ a', (∀ k, k < 2744 → a' k = b k) → post (f, a', b)) : ∀ d c a, c + d = 2744 → (∀ k, k < c → a k = b k) → wY_times_130 post f (d + 1) (nI c) a b := by
  intro d
  induction d with
  | zero =>
    intro c a hc hk
    exact pk_le 2744 c (fun _ => h a (fun k q => hk k (by omega))) (fun q => absurd q (by omega))
  | succ d ih =>
    intro c a hc hk
    have v : vp_in (nI c) 2744 := vp_in_nI (by omega) (by decide)
    refine pk_le 2744 c (fun q => absurd q (by omega)) (fun _ => ⟨v, v, nm_e (nm_r (nI_1 c) (ih (c + 1) _ (by omega) (fun k q => ?_)))⟩)
    rw [nI_clamp (by omega)]
    by_cases e : k = c
    · rw [e, pk_us]
    · rw [pk_un e]
      exact hk k (by omega)
theorem yw_t28 {p : Nat} (hp : p < 8) {w x y z f : Int32} {a : Nat → Int32} {post : SY → Prop} (h : ∀ b', (∀ k, k < 2744 → b' k = cd_Te p w x y z a 2744 k) → ∃ n, wY_times_130 post f n 0 a b') :
    ∀ d c b, c + d = 2744 → (∀ k, k < 2744 → b k = cd_Te p w x y z a c k) → wY_times_28 post (nI p) w x y z (d + 1) (nI c) f a b := by
  intro d
  induction d with
  | zero =>
    intro c b hc hk
    have e : c = 2744 := by omega
    rw [e] at hk
    exact pk_le 2744 c (fun _ => h b hk) (fun q => absurd q (by omega))
  | succ d ih =>
    intro c b hc hk
    have v : vp_in (nI c) 2744 := vp_in_nI (by omega) (by decide)
    have ec : (nI c).toNatClampNeg = c := nI_clamp (by omega)
    have x1 : nI c + nI p = nI (c + p) := nI_add c p
    have x2 : nI c + 14 * nI p = nI (c + 14 * p) := (congrArg (nI c + ·) (pk_mul 14 p)).trans (nI_add c (14 * p))
    have x3 : nI c + 196 * nI p = nI (c + 196 * p) := (congrArg (nI c + ·) (pk_mul 196 p)).trans (nI_add c (196 * p))
    refine pk_le 2744 c (fun q => absurd q (by omega)) (fun _ => ⟨v, br_c (fun hz => ?_) (fun hz => ⟨v, ?_⟩)⟩)
    · rw [ec] at hz
      refine nm_r (nI_1 c) (ih (c + 1) b (by omega) (fun k q => ?_))
      rw [hk k q, cd_Te_z hz]
    · refine yw_put (c + p) (by omega) (fun b1 h1 => ⟨v, ?_⟩) x1
      refine yw_put (c + 14 * p) (by omega) (fun b2 h2 => ⟨v, ?_⟩) x2
      refine yw_put (c + 196 * p) (by omega) (fun b3 h3 => ⟨v, ?_⟩) x3
      refine yw_put c (by omega) (fun b4 h4 => nm_r (nI_1 c) (ih (c + 1) b4 (by omega) (fun k q => ?_)))
      rw [h4 k q, h3 k q, h2 k q, h1 k q, hk k q, ec, cd_Te_s]
theorem yw_t3 {p : Int32} {w x y z f : Int32} {a : Nat → Int32} {post : SY → Prop} (h : ∀ b', (∀ k, k < 2744 → b' k = 0) → ∃ n, wY_times_28 post p w x y z n 0 f a b') :
    ∀ d c b, c + d = 2744 → (∀ k, k < c → b k = 0) → wY_times_3 post p w x y z f (d + 1) (nI c) a b := by
  intro d
  induction d with
  | zero =>
    intro c b hc hk
    exact pk_le 2744 c (fun _ => h b (fun k q => hk k (by omega))) (fun q => absurd q (by omega))
  | succ d ih =>
    intro c b hc hk
    have v : vp_in (nI c) 2744 := vp_in_nI (by omega) (by decide)
    refine pk_le 2744 c (fun q => absurd q (by omega)) (fun _ => ⟨v, nm_e (nm_r (nI_1 c) (ih (c + 1) _ (by omega) (fun k q => ?_)))⟩)
    rw [nI_clamp (by omega)]
    by_cases e : k = c
    · rw [e, pk_us]
    · rw [pk_un e]
      exact hk k (by omega)
theorem yw_times {p : Nat} (hp : p < 8) {w x y z f : Int32} {a b : Nat → Int32} {post : SY → Prop} (h : ∀ a' b', (∀ k, k < 2744 → a' k = cd_Te p w x y z a 2744 k) → post (f, a', b')) : wpY_times post (f, a, b) (nI p) w x y z := by
  refine ⟨2744 + 1, yw_t3 (fun b1 h1 => ⟨2744 + 1, yw_t28 hp (fun b2 h2 => ⟨2744 + 1, yw_t130 (fun a' h3 => h a' b2 (fun k q => ?_)) 2744 0 a rfl (fun k q => absurd q (Nat.not_lt_zero k))⟩) 2744 0 b1 rfl (fun k q => ?_)⟩) 2744 0 b rfl (fun k q => absurd q (Nat.not_lt_zero k))⟩
  · rw [h3 k q, h2 k q]
  · rw [h1 k q, cd_Te_0]
theorem yw_tN {p w x y z : Nat} {P W X Y Z : Int32} (hp : p < 8) (hP : P = nI p) (hW : W = nI w) (hX : X = nI x) (hY : Y = nI y) (hZ : Z = nI z) {f : Int32} {a b : Nat → Int32} {g : Nat → Nat} (hI : cd_Is a g) {post : SY → Prop}
    (h : ∀ a' b', cd_Is a' (cd_t4 p w x y z g) → post (f, a', b')) : wpY_times post (f, a, b) P W X Y Z := by
  subst hP hW hX hY hZ
  exact yw_times hp (fun a' b' h' => h a' b' (cd_Is_T hI h'))
theorem cd_vIs {a : Nat → Int32} (h : cd_Is a cd_v6) : cd_Is a cd_vt := fun k hk => (h k hk).trans (cd_v hk)
theorem yw_beginL {f : Int32} {post : SY → Prop} (h : ∀ a' b', cd_Is a' cd_vt → post (f, a', b')) : ∀ d c a b, c + d = 2744 → (∀ k, k < c → a k = nI (cd_v0 k)) → wY_begin_2 post f (d + 1) (nI c) a b := by
  intro d
  induction d with
  | zero =>
    intro c a b hc hk
    refine pk_le 2744 c (fun _ => ?_) (fun q => absurd q (by omega))
    have I0 : cd_Is a cd_v0 := fun k q => hk k (by omega)
    refine yw_tN (p := 1) (w := 1) (x := 4294967295) (y := 0) (z := 0) (by decide) rfl rfl cd_nM rfl rfl I0 (fun a1 b1 I1 => ?_)
    refine yw_tN (p := 1) (w := 1) (x := 0) (y := 4294967295) (z := 0) (by decide) rfl rfl rfl cd_nM rfl I1 (fun a2 b2 I2 => ?_)
    refine yw_tN (p := 1) (w := 1) (x := 0) (y := 0) (z := 4294967295) (by decide) rfl rfl rfl rfl cd_nM I2 (fun a3 b3 I3 => ?_)
    refine yw_tN (p := 1) (w := 0) (x := 1) (y := 4294967295) (z := 0) (by decide) rfl rfl rfl cd_nM rfl I3 (fun a4 b4 I4 => ?_)
    refine yw_tN (p := 1) (w := 0) (x := 1) (y := 0) (z := 4294967295) (by decide) rfl rfl rfl rfl cd_nM I4 (fun a5 b5 I5 => ?_)
    refine yw_tN (p := 1) (w := 0) (x := 0) (y := 1) (z := 4294967295) (by decide) rfl rfl rfl rfl cd_nM I5 (fun a6 b6 I6 => ?_)
    exact h a6 b6 (cd_vIs I6)
  | succ d ih =>
    intro c a b hc hk
    have v : vp_in (nI c) 2744 := vp_in_nI (by omega) (by decide)
    refine pk_le 2744 c (fun q => absurd q (by omega)) (fun _ => pk_eq c 0 (fun q0 => ⟨v, nm_e (nm_r (nI_1 c) (ih (c + 1) _ b (by omega) (fun k q => ?_)))⟩) (fun q0 => ⟨v, nm_e (nm_r (nI_1 c) (ih (c + 1) _ b (by omega) (fun k q => ?_)))⟩))
    · rw [nI_clamp (by omega)]
      have e : k = c := by omega
      rw [e, pk_us, q0]
      exact rfl
    · rw [nI_clamp (by omega)]
      by_cases e : k = c
      · have z : cd_v0 c = 0 := if_neg q0
        rw [e, pk_us, z]
        exact rfl
      · rw [pk_un e]
        exact hk k (by omega)
theorem yw_begin {f : Int32} {a b : Nat → Int32} {post : SY → Prop} (h : ∀ a' b', cd_Is a' cd_vt → post (f, a', b')) : wpY_begin post (f, a, b) :=
  ⟨2744 + 1, yw_beginL h 2744 0 a b rfl (fun k q => absurd q (Nat.not_lt_zero k))⟩
theorem yw_cycL {m : Nat} (hm : m < 4096) {f : Int32} {post : SY → Prop} (h : ∀ a' b', cd_Is a' (cd_g m 4) → post (f, a', b')) : ∀ d i a b, i + d = 4 → cd_Is a (cd_g m i) → wY_cycles_6 post (nI m) (d + 1) (nI i) f a b := by
  intro d
  induction d with
  | zero =>
    intro i a b hi hI
    have e : i = 4 := by omega
    rw [e] at hI
    exact pk_le 4 i (fun _ => h a b hI) (fun q => absurd q (by omega))
  | succ d ih =>
    intro i a b hi hI
    have hp := cd_pt_lt m i
    refine pk_le 4 i (fun q => absurd q (by omega)) (fun _ => yw_part i hm (by omega) ?_)
    refine pk_le (cd_pt m i) 0 (fun q => nm_r (nI_1 i) (ih (i + 1) a b (by omega) (fun k hk => ?_))) (fun q => yw_part i hm (by omega) ?_)
    · have e : cd_g m (i + 1) k = cd_g m i k := if_pos (by omega)
      rw [e]
      exact hI k hk
    · refine yw_tN (p := cd_pt m i) (w := 1) (x := 1) (y := 1) (z := 1) hp rfl rfl rfl rfl rfl hI (fun a' b' hI' => nm_r (nI_1 i) (ih (i + 1) a' b' (by omega) (fun k hk => ?_)))
      have e : cd_g m (i + 1) k = cd_t4 (cd_pt m i) 1 1 1 1 (cd_g m i) k := if_neg (by omega)
      rw [e]
      exact hI' k hk
theorem yw_cyc {m : Nat} (hm : m < 4096) {f : Int32} {a b : Nat → Int32} {post : SY → Prop} (h : ∀ a' b', cd_Is a' (cd_g m 4) → post (f, a', b')) : wpY_cycles post (f, a, b) (nI m) := by
  unfold wpY_cycles
  exact yw_begin (fun a1 b1 I1 => ⟨5, yw_cycL hm h 4 0 a1 b1 rfl I1⟩)
theorem yw_onesL {n : Nat} (hn : n < 1000) {f : Int32} {post : SY → Prop} (h : ∀ a' b', cd_Is a' (cd_o n) → post (f, a', b')) : ∀ d i a b, i + d = n → cd_Is a (cd_o i) → wY_ones_6 post (nI n) (d + 1) (nI i) f a b := by
  intro d
  induction d with
  | zero =>
    intro i a b hi hI
    have e : i = n := by omega
    rw [e] at hI
    exact pk_le n i (fun _ => h a b hI) (fun q => absurd q (by omega))
  | succ d ih =>
    intro i a b hi hI
    refine pk_le n i (fun q => absurd q (by omega)) (fun _ => ?_)
    exact yw_tN (p := 1) (w := 1) (x := 1) (y := 1) (z := 1) (by decide) rfl rfl rfl rfl rfl hI (fun a' b' hI' => nm_r (nI_1 i) (ih (i + 1) a' b' (by omega) hI'))
theorem yw_ones {n : Nat} (hn : n < 1000) {f : Int32} {a b : Nat → Int32} {post : SY → Prop} (h : ∀ a' b', cd_Is a' (cd_o n) → post (f, a', b')) : wpY_ones post (f, a, b) (nI n) := by
  unfold wpY_ones
  exact yw_begin (fun a1 b1 I1 => ⟨n + 1, yw_onesL hn h n 0 a1 b1 (Nat.zero_add n) I1⟩)
theorem yw_coef {s : Nat} (hs : s < 4096) {f : Int32} {a b : Nat → Int32} {g : Nat → Nat} (hI : cd_Is a g) {post : Int32 → Prop} (h : post (nI (g (cd_ix s)))) : wpY_coefficient post (f, a, b) (nI s) := by
  have p0 := cd_pt_lt s 0
  have p1 := cd_pt_lt s 1
  have p2 := cd_pt_lt s 2
  have hx : cd_ix s < 2744 := by
    unfold cd_ix
    omega
  have e : ((nI (cd_pt s 0) + 3) + (14 * (nI (cd_pt s 1) + 2))) + (196 * (nI (cd_pt s 2) + 1)) = nI (cd_ix s) := by
    have e0 : nI (cd_pt s 0) + 3 = nI (cd_pt s 0 + 3) := nI_add _ 3
    have e1 : nI (cd_pt s 1) + 2 = nI (cd_pt s 1 + 2) := nI_add _ 2
    have e2 : nI (cd_pt s 2) + 1 = nI (cd_pt s 2 + 1) := nI_add _ 1
    have e3 : 14 * nI (cd_pt s 1 + 2) = nI (14 * (cd_pt s 1 + 2)) := pk_mul 14 _
    have e4 : 196 * nI (cd_pt s 2 + 1) = nI (196 * (cd_pt s 2 + 1)) := pk_mul 196 _
    rw [e0, e1, e2, e3, e4, nI_add, nI_add]
    exact rfl
  unfold wpY_coefficient
  refine yw_part 0 hs (by decide) ?_
  refine yw_part 1 hs (by decide) ?_
  refine yw_part 2 hs (by decide) ?_
  show vp_in (((nI (cd_pt s 0) + 3) + (14 * (nI (cd_pt s 1) + 2))) + (196 * (nI (cd_pt s 2) + 1))) 2744 ∧ post (a (((nI (cd_pt s 0) + 3) + (14 * (nI (cd_pt s 1) + 2))) + (196 * (nI (cd_pt s 2) + 1))).toNatClampNeg)
  rw [e, nI_clamp (by omega), hI _ hx]
  exact ⟨vp_in_nI hx (by decide), h⟩
end
section
/-! ===== the reference's public walks ===== -/
theorem yw_char (x y : Int32) {f : Int32} {a b : Nat → Int32} {post : Int32 → SY → Prop} (h : ∀ a' b', post (cd_ans x y) (f, a', b')) : wpY_character post (f, a, b) x y := by
  unfold wpY_character
  unfold cd_ans at h
  refine yw_sum x ?_
  have hv := cd_val_le x
  have hw := cd_val_le y
  refine pk_eq (cd_val x) 0 (fun q => ?_) (fun q => yw_sum y (pk_eq (cd_val x) (cd_val y) (fun q2 => ?_) (fun q2 => ?_)))
  · rw [if_pos q] at h
    exact h a b
  · rw [if_neg q, if_pos q2.symm] at h
    obtain ⟨s, hs, rfl, e⟩ := cd_val_ne q
    obtain ⟨m, hm, rfl, e2⟩ := cd_val_ne (x := y) (by rw [← q2]; exact q)
    rw [nI_clamp (by omega), nI_clamp (by omega)] at h
    refine yw_cyc hm (fun a' b' hI => yw_coef hs hI ?_)
    rw [← cd_ch hs hm (by omega) (by omega)]
    exact h a' b'
  · rw [if_neg q, if_neg (fun z => q2 z.symm)] at h
    exact h a b
theorem yw_deg (x : Int32) {f : Int32} {a b : Nat → Int32} {post : Int32 → SY → Prop} (h0 : cd_val x = 0 → ∀ a' b', post (-1000000) (f, a', b')) (h1 : ∀ s, s < 4096 → x = nI s → cd_sum s ≠ 0 → ∀ a' b', post (cd_dI s) (f, a', b')) : wpY_degree post (f, a, b) x := by
  unfold wpY_degree
  refine yw_sum x ?_
  have hv := cd_val_le x
  refine pk_eq (cd_val x) 0 (fun q => h0 q a b) (fun q => ?_)
  obtain ⟨s, hs, rfl, e⟩ := cd_val_ne q
  have q2 : cd_sum s ≠ 0 := by omega
  refine yw_ones (by omega) (fun a' b' hI => yw_coef hs hI ?_)
  rw [e, ← cd_dg hs q2]
  exact h1 s hs rfl q2 a' b'
theorem yw_countL {n : Nat} (hn : 1 ≤ n) (hn2 : n < 2 ^ 31) {f : Int32} {a b : Nat → Int32} {post : Int32 → Prop} (h : post (cd_fold n cd_Gc 0 4095)) : ∀ k i, i + k = 4095 → wY_count_4 post (nI n) f a b (k + 1) (cd_fold n cd_Gc 0 i) (nI (i + 1)) := by
  intro k
  induction k with
  | zero =>
    intro i hi
    refine pk_le 4096 (i + 1) (fun _ => ?_) (fun q => absurd q (by omega))
    have e : i = 4095 := by omega
    rw [e]
    exact h
  | succ k ih =>
    intro i hi
    have hs := cd_sum_le (i + 1)
    have I := ih (i + 1) (by omega)
    refine pk_le 4096 (i + 1) (fun q => absurd q (by omega)) (fun _ => pk_le n 0 (fun q => absurd q (by omega)) (fun _ => yw_sumN (by omega) ?_))
    refine pk_eq (cd_sum (i + 1)) n (fun q => nm_e (nm_r (nI_1 (i + 1)) ?_)) (fun q => nm_r (nI_1 (i + 1)) ?_)
    · rw [cd_fold_t q] at I
      exact I
    · rw [cd_fold_f q] at I
      exact I
theorem yw_partL {n : Nat} (hn : 1 ≤ n) (hn2 : n < 2 ^ 31) {K f : Int32} {a b : Nat → Int32} {post : Int32 → Prop} : ∀ j v, j ≤ 4095 → post (cd_pd n K j v) → wY_partition_7 post (nI n) K f a b (j + 1) v (nI j) := by
  intro j
  induction j with
  | zero =>
    intro v hj h
    exact pk_le 0 0 (fun _ => h) (fun q => absurd q (by omega))
  | succ j ih =>
    intro v hj h
    have hs := cd_sum_le (j + 1)
    refine pk_le (j + 1) 0 (fun q => absurd q (by omega)) (fun _ => pk_le n 0 (fun q => absurd q (by omega)) (fun _ => yw_sumN (by omega) ?_))
    refine pk_eq (cd_sum (j + 1)) n (fun q => br_c (fun e => ?_) (fun e => nm_e (nm_r (pk_m1 j) ?_))) (fun q => nm_r (pk_m1 j) ?_)
    · rw [cd_pd_r q e] at h
      exact h
    · rw [cd_pd_n q e] at h
      exact ih (v + 1) (by omega) h
    · rw [cd_pd_f q] at h
      exact ih v (by omega) h
theorem yw_turned36 {s i : Nat} (hs : s < 4096) (hi : i < 4) {x2 f : Int32} {a b : Nat → Int32} {post : Int32 → Prop} {J : Int32 → Int32 → Prop} (h : J (x2 ||| nI (cd_cn s (i + 1) 4 * 8 ^ i)) (nI (i + 1))) : ∀ k r, r + k = 4 → wY_turned_36 post J (nI s) x2 (nI i) f a b (k + 1) (nI (cd_cn s (i + 1) r)) (nI r) := by
  have hc := cd_cn_le s (i + 1) 4
  intro k
  induction k with
  | zero =>
    intro r hr
    refine pk_le 4 r (fun _ => ?_) (fun q => absurd q (by omega))
    have e : r = 4 := by omega
    rw [e]
    refine nm_r (congrArg (x2 ||| ·) (cd_shl (by omega) hi)) (nm_r (nI_1 i) h)
  | succ k ih =>
    intro r hr
    have hp := cd_pt_lt s r
    have I := ih (r + 1) (by omega)
    refine pk_le 4 r (fun q => absurd q (by omega)) (fun _ => yw_part r hs (by omega) ?_)
    refine pk_le (cd_pt s r) i (fun q => nm_r (nI_1 r) ?_) (fun q => nm_r (nI_1 _) (nm_r (nI_1 r) ?_))
    · rw [cd_cn_f (by omega)] at I
      exact I
    · rw [cd_cn_t (by omega)] at I
      exact I
theorem yw_turnedL {s : Nat} (hs : s < 4096) {f : Int32} {a b : Nat → Int32} {post : Int32 → Prop} (h : post (nI (cd_ty s 4))) : ∀ k i, i + k = 4 → wY_turned_25 post (nI s) f a b (k + 1) (nI (cd_ty s i)) (nI i) := by
  intro k
  induction k with
  | zero =>
    intro i hi
    refine pk_le 4 i (fun _ => ?_) (fun q => absurd q (by omega))
    have e : i = 4 := by omega
    rw [e]
    exact h
  | succ k ih =>
    intro i hi
    have I := ih (i + 1) (by omega)
    refine pk_le 4 i (fun q => absurd q (by omega)) (fun _ => ⟨5, yw_turned36 hs (by omega) ?_ 4 0 rfl⟩)
    rw [cd_or]
    exact I
theorem yw_86 {m i : Nat} {x1 x3 f : Int32} {a b : Nat → Int32} {t z : Nat} {post : Int32 → Prop} {J : Int32 → Int32 → Int32 → Prop} (h : J (nI (if 0 < cd_pt m i then t * cd_pt m i * z else t)) (nI z) (nI (i + 1))) : wY_permutations_86 post J x1 x3 (nI t) (nI i) (nI (cd_pt m i)) (nI z) f a b := by
  have hp := cd_pt_lt m i
  unfold wY_permutations_86
  refine pk_le (cd_pt m i) 0 (fun q => nm_r (nI_1 i) ?_) (fun q => nm_r ?_ (nm_r (nI_1 i) h))
  · rw [if_neg (by omega)] at h
    exact h
  · rw [pk_mul, pk_mul, if_pos q]
theorem yw_44 {m : Nat} (hm : m < 4096) {x3 f : Int32} {a b : Nat → Int32} {post : Int32 → Prop} (h1 : 1 ≤ (cd_yi m 4).1) (h2 : (cd_yi m 4).1 ≤ 5040) (h : post (x3 / nI (cd_yi m 4).1)) : ∀ k i, i + k = 4 → wY_permutations_44 post (nI m) x3 f a b (k + 1) (nI (cd_yi m i).1) (nI (cd_yi m i).2) (nI i) := by
  intro k
  induction k with
  | zero =>
    intro i hi
    refine pk_le 4 i (fun _ => ?_) (fun q => absurd q (by omega))
    have e : i = 4 := by omega
    rw [e]
    exact pk_le (cd_yi m 4).1 0 (fun q => absurd q (by omega)) (fun _ => ⟨nI_ne0 (by omega) (by omega), h⟩)
  | succ k ih =>
    intro i hi
    have hp := cd_pt_lt m i
    have hp1 := cd_pt_lt m (i - 1)
    have I := ih (i + 1) (by omega)
    have e : cd_yi m (i + 1) = (if 0 < cd_pt m i then (cd_yi m i).1 * cd_pt m i * cd_ag m i (cd_yi m i).2 else (cd_yi m i).1, cd_ag m i (cd_yi m i).2) := rfl
    rw [e] at I
    refine pk_le 4 i (fun q => absurd q (by omega)) (fun _ => yw_part i hm (by omega) ?_)
    refine pk_le i 0 (fun q => ?_) (fun q => ?_)
    · have g : cd_ag m i (cd_yi m i).2 = 1 := if_neg (fun z => absurd z.1 (by omega))
      rw [g] at I
      unfold wY_permutations_85
      exact yw_86 I
    · refine yw_part (i - 1) hm (by omega) ?_ (pk_sub (a := i) (b := 1) (by omega))
      refine pk_eq (cd_pt m i) (cd_pt m (i - 1)) (fun q2 => ?_) (fun q2 => ?_)
      · have g : cd_ag m i (cd_yi m i).2 = (cd_yi m i).2 + 1 := if_pos ⟨by omega, q2⟩
        rw [g] at I
        rw [nI_1 (cd_yi m i).2]
        exact yw_86 I
      · have g : cd_ag m i (cd_yi m i).2 = 1 := if_neg (fun z => q2 z.2)
        rw [g] at I
        unfold wY_permutations_85
        exact yw_86 I
theorem yw_18 {m n : Nat} (hn : n < 1000) {f : Int32} {a b : Nat → Int32} {post : Int32 → Prop} (h : ∃ n44, wY_permutations_44 post (nI m) (nI (cd_fac n)) f a b n44 1 0 0) : ∀ k j, j + k = n → wY_permutations_18 post (nI m) (nI n) f a b (k + 1) (nI (cd_fac j)) (nI (j + 1)) := by
  intro k
  induction k with
  | zero =>
    intro j hj
    refine pk_lt n (j + 1) (fun _ => ?_) (fun q => absurd q (by omega))
    have e : j = n := by omega
    rw [e]
    exact h
  | succ k ih =>
    intro j hj
    exact pk_lt n (j + 1) (fun q => absurd q (by omega)) (fun _ => nm_r (pk_mul (cd_fac j) (j + 1)) (nm_r (nI_1 (j + 1)) (ih (j + 1) (by omega))))
theorem yw_squaresL {n : Nat} (hn : n ≤ 7) {f : Int32} {a b : Nat → Int32} {g : Nat → Nat} (hI : cd_Is a g) {post : Int32 → SY → Prop} (h : post (cd_fold n (cd_Gq (fun s => nI (g (cd_ix s)))) 0 4095) (f, a, b)) : ∀ k i, i + k = 4095 → wY_squares_23 post (nI n) f a b (k + 1) (cd_fold n (cd_Gq (fun s => nI (g (cd_ix s)))) 0 i) (nI (i + 1)) := by
  intro k
  induction k with
  | zero =>
    intro i hi
    refine pk_le 4096 (i + 1) (fun _ => ?_) (fun q => absurd q (by omega))
    have e : i = 4095 := by omega
    rw [e]
    exact h
  | succ k ih =>
    intro i hi
    have hs := cd_sum_le (i + 1)
    have I := ih (i + 1) (by omega)
    refine pk_le 4096 (i + 1) (fun q => absurd q (by omega)) (fun _ => yw_sumN (by omega) ?_)
    refine pk_eq (cd_sum (i + 1)) n (fun q => yw_coef (by omega) hI (nm_e (nm_r (nI_1 (i + 1)) ?_))) (fun q => nm_r (nI_1 (i + 1)) ?_)
    · rw [cd_fold_t q] at I
      exact I
    · rw [cd_fold_f q] at I
      exact I
theorem yw_greatestL {n : Nat} (hn : n ≤ 7) {f : Int32} {a b : Nat → Int32} {g : Nat → Nat} (hI : cd_Is a g) {post : Int32 → SY → Prop} (h : post (cd_fold n (cd_Gg (fun s => nI (g (cd_ix s)))) (-1000000) 4095) (f, a, b)) : ∀ k i, i + k = 4095 → wY_greatest_24 post (nI n) f a b (k + 1) (cd_fold n (cd_Gg (fun s => nI (g (cd_ix s)))) (-1000000) i) (nI (i + 1)) := by
  intro k
  induction k with
  | zero =>
    intro i hi
    refine pk_le 4096 (i + 1) (fun _ => ?_) (fun q => absurd q (by omega))
    have e : i = 4095 := by omega
    rw [e]
    exact h
  | succ k ih =>
    intro i hi
    have hs := cd_sum_le (i + 1)
    have I := ih (i + 1) (by omega)
    refine pk_le 4096 (i + 1) (fun q => absurd q (by omega)) (fun _ => yw_sumN (by omega) ?_)
    refine pk_eq (cd_sum (i + 1)) n (fun q => yw_coef (by omega) hI (br_c (fun q2 => nm_r (nI_1 (i + 1)) ?_) (fun q2 => nm_r (nI_1 (i + 1)) ?_))) (fun q => nm_r (nI_1 (i + 1)) ?_)
    · rw [cd_fold_t q] at I
      rw [cd_Gg_t (c := fun s => nI (g (cd_ix s))) q2] at I
      exact I
    · rw [cd_fold_t q] at I
      rw [cd_Gg_f (c := fun s => nI (g (cd_ix s))) q2] at I
      exact I
    · rw [cd_fold_f q] at I
      exact I
theorem yw_supportL {n : Nat} (hn : n ≤ 7) {f : Int32} {a b : Nat → Int32} {g : Nat → Nat} (hI : cd_Is a g) {post : Int32 → SY → Prop} (h : post (cd_fold n (cd_Gs (fun s => nI (g (cd_ix s)))) 0 4095) (f, a, b)) : ∀ k i, i + k = 4095 → wY_support_23 post (nI n) f a b (k + 1) (cd_fold n (cd_Gs (fun s => nI (g (cd_ix s)))) 0 i) (nI (i + 1)) := by
  intro k
  induction k with
  | zero =>
    intro i hi
    refine pk_le 4096 (i + 1) (fun _ => ?_) (fun q => absurd q (by omega))
    have e : i = 4095 := by omega
    rw [e]
    exact h
  | succ k ih =>
    intro i hi
    have hs := cd_sum_le (i + 1)
    have I := ih (i + 1) (by omega)
    refine pk_le 4096 (i + 1) (fun q => absurd q (by omega)) (fun _ => yw_sumN (by omega) ?_)
    refine pk_eq (cd_sum (i + 1)) n (fun q => yw_coef (by omega) hI (br_c (fun q2 => nm_r (nI_1 (i + 1)) ?_) (fun q2 => nm_e (nm_r (nI_1 (i + 1)) ?_)))) (fun q => nm_r (nI_1 (i + 1)) ?_)
    · rw [cd_fold_t q] at I
      rw [cd_Gs_t (c := fun s => nI (g (cd_ix s))) q2] at I
      exact I
    · rw [cd_fold_t q] at I
      rw [cd_Gs_f (c := fun s => nI (g (cd_ix s))) q2] at I
      exact I
    · rw [cd_fold_f q] at I
      exact I
end
section
/-! ===== what is owed ===== -/
/-- both have chosen the same shape; the reference's arrays may hold anything -/
def i_Rel (_ : Nat) (u : SX) (v : SY) : Prop := u = v.1
theorem i_up {k : Nat} {u : SX} {v : SY} (h : i_Rel k u v) : i_Rel (k + 3) u v := h
theorem i_vc0 : wpX_init (fun u => wpY_init (fun v => i_Rel 0 u v)) := rfl
theorem i_vc_choose {k : Nat} {u : SX} {v : SY} (I : i_Rel k u v) (hk : k + 3 ≤ 1536) (v1 : Int32) : wpX_choose (fun r u' => wpY_choose (fun r' v' => r' = r ∧ i_Rel (k + 3) u' v') v v1) u v1 := by
  obtain ⟨f, a, b⟩ := v
  cases I
  have hv := cd_val_le v1
  unfold wpX_choose wpY_choose
  refine xw_sum v1 ?_
  refine pk_eq (cd_val v1) 0 (fun q => yw_sum v1 ?_) (fun q => yw_sum v1 ?_)
  · exact pk_eq (cd_val v1) 0 (fun _ => ⟨rfl, rfl⟩) (fun q2 => absurd q q2)
  · exact pk_eq (cd_val v1) 0 (fun q2 => absurd q2 q) (fun _ => ⟨rfl, rfl⟩)
theorem i_vc_shape {k : Nat} {u : SX} {v : SY} (I : i_Rel k u v) (hk : k + 3 ≤ 1536) : wpX_shape (fun r => wpY_shape (fun r' => r' = r ∧ i_Rel (k + 3) u v) v) u := by
  obtain ⟨f, a, b⟩ := v
  cases I
  exact ⟨rfl, rfl⟩
theorem i_vc_at {k : Nat} {u : SX} {v : SY} (I : i_Rel k u v) (hk : k + 3 ≤ 1536) (v1 : Int32) : wpX_at (fun r => wpY_at (fun r' v' => r' = r ∧ i_Rel (k + 3) u v') v v1) u v1 := by
  obtain ⟨f, a, b⟩ := v
  cases I
  unfold wpX_at wpY_at
  refine xw_char f v1 ?_
  exact yw_char f v1 (fun a' b' => ⟨rfl, rfl⟩)
theorem i_vc_character {k : Nat} {u : SX} {v : SY} (I : i_Rel k u v) (hk : k + 3 ≤ 1536) (v1 : Int32) (v2 : Int32) : wpX_character (fun r => wpY_character (fun r' v' => r' = r ∧ i_Rel (k + 3) u v') v v1 v2) u v1 v2 := by
  obtain ⟨f, a, b⟩ := v
  cases I
  exact xw_char v1 v2 (yw_char v1 v2 (fun a' b' => ⟨rfl, rfl⟩))
theorem i_vc_degree {k : Nat} {u : SX} {v : SY} (I : i_Rel k u v) (hk : k + 3 ≤ 1536) (v1 : Int32) : wpX_degree (fun r => wpY_degree (fun r' v' => r' = r ∧ i_Rel (k + 3) u v') v v1) u v1 := by
  obtain ⟨f, a, b⟩ := v
  cases I
  refine xw_deg v1 (fun q => yw_deg v1 (fun _ a' b' => ⟨rfl, rfl⟩) (fun s hs e h0 => ?_)) (fun s hs e h0 => yw_deg v1 (fun q => ?_) (fun s' hs' e' h0' a' b' => ?_))
  · rw [e, cd_val_nI hs] at q
    exact absurd q h0
  · rw [e, cd_val_nI hs] at q
    exact absurd q h0
  · rw [e, nI_eq (by omega) (by omega)] at e'
    rw [e']
    exact ⟨rfl, rfl⟩
theorem i_vc_count {k : Nat} {u : SX} {v : SY} (I : i_Rel k u v) (hk : k + 3 ≤ 1536) (v1 : Int32) : wpX_count (fun r => wpY_count (fun r' => r' = r ∧ i_Rel (k + 3) u v) v v1) u v1 := by
  obtain ⟨f, a, b⟩ := v
  cases I
  unfold wpX_count wpY_count
  refine xw_isSum v1 (fun h => br_t rfl ?_) (fun j h7 hj e => br_t rfl ?_) (fun j h1 h7 e => br_f cd_n10 ?_)
  · exact ⟨1, pk_le 4096 1 (fun q => absurd q (by omega)) (fun _ => br_t h ⟨rfl, rfl⟩)⟩
  · subst e
    refine ⟨4096, yw_countL (by omega) hj ?_ 4095 0 rfl⟩
    exact ⟨cd_fold_none h7 4095, rfl⟩
  · subst e
    refine ⟨659, xw_countL h7 ?_ 658 0 rfl⟩
    refine ⟨4096, yw_countL h1 (by omega) ?_ 4095 0 rfl⟩
    exact ⟨cd_fold_top (by omega), rfl⟩
theorem i_vc_partition {k : Nat} {u : SX} {v : SY} (I : i_Rel k u v) (hk : k + 3 ≤ 1536) (v1 : Int32) (v2 : Int32) : wpX_partition (fun r => wpY_partition (fun r' => r' = r ∧ i_Rel (k + 3) u v) v v1 v2) u v1 v2 := by
  obtain ⟨f, a, b⟩ := v
  cases I
  unfold wpX_partition wpY_partition
  refine xw_isSum v1 (fun h => br_t rfl ?_) (fun j h7 hj e => br_t rfl ?_) (fun j h1 h7 e => br_f cd_n10 ?_)
  · exact ⟨1, pk_le 4095 0 (fun q => absurd q (by omega)) (fun _ => br_t h ⟨rfl, rfl⟩)⟩
  · subst e
    refine ⟨4096, yw_partL (by omega) hj 4095 0 (by omega) ?_⟩
    exact ⟨cd_pd_none h7 4095 0, rfl⟩
  · subst e
    refine ⟨659, xw_partL h7 658 0 (by omega) ?_⟩
    refine ⟨4096, yw_partL h1 (by omega) 4095 0 (by omega) ?_⟩
    exact ⟨cd_pd_top (by omega), rfl⟩
theorem i_vc_turned {k : Nat} {u : SX} {v : SY} (I : i_Rel k u v) (hk : k + 3 ≤ 1536) (v1 : Int32) : wpX_turned (fun r => wpY_turned (fun r' => r' = r ∧ i_Rel (k + 3) u v) v v1) u v1 := by
  obtain ⟨f, a, b⟩ := v
  cases I
  have hv := cd_val_le v1
  unfold wpX_turned wpY_turned
  refine xw_sum v1 (pk_eq (cd_val v1) 0 (fun q => yw_sum v1 ?_) (fun q => ?_))
  · exact pk_eq (cd_val v1) 0 (fun _ => ⟨rfl, rfl⟩) (fun q2 => absurd q q2)
  · obtain ⟨s, hs, rfl, e⟩ := cd_val_ne q
    have hp := cd_pt_lt s 0
    refine xw_part (i := 0) hs (by decide) (pk_le (cd_pt s 0) 4 (fun q4 => ⟨5, xw_turnedL hs ?_ 4 0 rfl⟩) (fun q4 => ?_))
    · refine yw_sum (nI s) (pk_eq (cd_val (nI s)) 0 (fun q2 => absurd q2 q) (fun _ => yw_part 0 hs (by decide) (pk_le (cd_pt s 0) 4 (fun _ => ⟨5, yw_turnedL hs ?_ 4 0 rfl⟩) (fun z => absurd z (by omega)))))
      exact ⟨congrArg nI (cd_tu hs (by omega)).symm, rfl⟩
    · refine yw_sum (nI s) (pk_eq (cd_val (nI s)) 0 (fun q2 => absurd q2 q) (fun _ => yw_part 0 hs (by decide) (pk_le (cd_pt s 0) 4 (fun z => absurd z (by omega)) (fun _ => ⟨rfl, rfl⟩))))
theorem i_vc_permutations {k : Nat} {u : SX} {v : SY} (I : i_Rel k u v) (hk : k + 3 ≤ 1536) (v1 : Int32) : wpX_permutations (fun r => wpY_permutations (fun r' => r' = r ∧ i_Rel (k + 3) u v) v v1) u v1 := by
  obtain ⟨f, a, b⟩ := v
  cases I
  have hv := cd_val_le v1
  unfold wpX_permutations wpY_permutations
  refine xw_sum v1 (pk_eq (cd_val v1) 0 (fun q => yw_sum v1 ?_) (fun q => ?_))
  · exact pk_eq (cd_val v1) 0 (fun _ => ⟨rfl, rfl⟩) (fun q2 => absurd q q2)
  · obtain ⟨m, hm, rfl, e⟩ := cd_val_ne q
    obtain ⟨w1, w2, w3⟩ := cd_pe hm (by omega)
    refine xw_fac (by omega) (xw_writ hm (xw_quo ?_))
    refine yw_sum (nI m) (pk_eq (cd_val (nI m)) 0 (fun q2 => absurd q2 q) (fun _ => ?_))
    refine ⟨cd_val (nI m) - 1 + 1, yw_18 (by omega) ⟨5, yw_44 hm (by omega) (by omega) ?_ 4 0 rfl⟩ (cd_val (nI m) - 1) 1 (by omega)⟩
    refine ⟨?_, rfl⟩
    have z : ¬ nI (cd_wi m 4).1 = 0 := nI_ne0 (by omega) (by omega)
    unfold cd_quo
    rw [if_neg z, w1]
theorem i_vc_squares {k : Nat} {u : SX} {v : SY} (I : i_Rel k u v) (hk : k + 3 ≤ 1536) (v1 : Int32) : wpX_squares (fun r => wpY_squares (fun r' v' => r' = r ∧ i_Rel (k + 3) u v') v v1) u v1 := by
  obtain ⟨f, a, b⟩ := v
  cases I
  unfold wpX_squares wpY_squares
  refine xw_isSum v1 (fun h => br_t rfl ?_) (fun j h7 hj e => br_t rfl ?_) (fun j h1 h7 e => br_f cd_n10 ?_)
  · exact br_t (Int32.lt_of_le_of_lt h (by decide)) ⟨rfl, rfl⟩
  · subst e
    exact pk_lt j 1 (fun q => absurd q (by omega)) (fun _ => pk_le j 7 (fun q => absurd q (by omega)) (fun _ => ⟨rfl, rfl⟩))
  · subst e
    refine ⟨659, xw_squaresL h7 ?_ 658 0 rfl⟩
    refine pk_lt j 1 (fun q => absurd q (by omega)) (fun _ => pk_le j 7 (fun _ => ?_) (fun q => absurd q (by omega)))
    refine yw_ones (by omega) (fun a' b' hI => ⟨4096, yw_squaresL h7 hI ?_ 4095 0 rfl⟩)
    refine ⟨?_, rfl⟩
    rw [cd_fold_top (by omega)]
    refine cd_fold_ext (fun s hs e b => ?_) 658 (by omega)
    unfold cd_Gq
    rw [cd_dg hs (by omega), e]
theorem i_vc_vanishes {k : Nat} {u : SX} {v : SY} (I : i_Rel k u v) (hk : k + 3 ≤ 1536) (v1 : Int32) (v2 : Int32) : wpX_vanishes (fun r => wpY_vanishes (fun r' v' => r' = r ∧ i_Rel (k + 3) u v') v v1 v2) u v1 v2 := by
  obtain ⟨f, a, b⟩ := v
  cases I
  unfold wpX_vanishes wpY_vanishes
  refine xw_char v1 v2 (br_c (fun q => ?_) (fun q => ?_))
  · exact yw_char v1 v2 (fun a' b' => br_t q ⟨rfl, rfl⟩)
  · exact yw_char v1 v2 (fun a' b' => br_f q ⟨rfl, rfl⟩)
theorem i_vc_greatest {k : Nat} {u : SX} {v : SY} (I : i_Rel k u v) (hk : k + 3 ≤ 1536) (v1 : Int32) : wpX_greatest (fun r => wpY_greatest (fun r' v' => r' = r ∧ i_Rel (k + 3) u v') v v1) u v1 := by
  obtain ⟨f, a, b⟩ := v
  cases I
  have hv := cd_val_le v1
  unfold wpX_greatest wpY_greatest
  refine xw_sum v1 (pk_eq (cd_val v1) 0 (fun q => yw_sum v1 ?_) (fun q => ?_))
  · exact pk_eq (cd_val v1) 0 (fun _ => ⟨rfl, rfl⟩) (fun q2 => absurd q q2)
  · obtain ⟨m, hm, rfl, e⟩ := cd_val_ne q
    refine ⟨659, xw_greatestL hv hm ?_ 658 0 rfl⟩
    refine yw_sum (nI m) (pk_eq (cd_val (nI m)) 0 (fun q2 => absurd q2 q) (fun _ => ?_))
    refine yw_cyc hm (fun a' b' hI => ⟨4096, yw_greatestL hv hI ?_ 4095 0 rfl⟩)
    refine ⟨?_, rfl⟩
    rw [cd_fold_top q]
    refine cd_fold_ext (fun s hs e2 b => ?_) 658 (by omega)
    exact cd_Gg_c (c := fun s => nI (cd_g m 4 (cd_ix s))) (c' := fun s => nI (cd_cx s m)) (cd_ch hs hm (by omega) (by omega)).symm
theorem i_vc_support {k : Nat} {u : SX} {v : SY} (I : i_Rel k u v) (hk : k + 3 ≤ 1536) (v1 : Int32) : wpX_support (fun r => wpY_support (fun r' v' => r' = r ∧ i_Rel (k + 3) u v') v v1) u v1 := by
  obtain ⟨f, a, b⟩ := v
  cases I
  have hv := cd_val_le v1
  unfold wpX_support wpY_support
  refine xw_sum v1 (pk_eq (cd_val v1) 0 (fun q => yw_sum v1 ?_) (fun q => ?_))
  · exact pk_eq (cd_val v1) 0 (fun _ => ⟨rfl, rfl⟩) (fun q2 => absurd q q2)
  · obtain ⟨m, hm, rfl, e⟩ := cd_val_ne q
    refine ⟨659, xw_supportL hv hm ?_ 658 0 rfl⟩
    refine yw_sum (nI m) (pk_eq (cd_val (nI m)) 0 (fun q2 => absurd q2 q) (fun _ => ?_))
    refine yw_cyc hm (fun a' b' hI => ⟨4096, yw_supportL hv hI ?_ 4095 0 rfl⟩)
    refine ⟨?_, rfl⟩
    rw [cd_fold_top q]
    refine cd_fold_ext (fun s hs e2 b => ?_) 658 (by omega)
    exact cd_Gs_c (c := fun s => nI (cd_g m 4 (cd_ix s))) (c' := fun s => nI (cd_cx s m)) (cd_ch hs hm (by omega) (by omega)).symm
end
