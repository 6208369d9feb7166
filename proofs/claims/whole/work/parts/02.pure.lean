/-! ===== pure numbers: the parts, the sums, the letters' differences ===== -/
theorem cd_nM : (-1 : Int32) = nI 4294967295 := by decide +kernel
theorem cd_mod (a : Nat) : nI (a % 4294967296) = nI a := by
  apply Int32.toBitVec_inj.mp
  show BitVec.ofNat 32 (a % 4294967296) = BitVec.ofNat 32 a
  apply BitVec.eq_of_toNat_eq
  rw [BitVec.toNat_ofNat, BitVec.toNat_ofNat]
  exact Nat.mod_mod a 4294967296
theorem cd_eqm {a b : Nat} (h : a % 4294967296 = b % 4294967296) : nI a = nI b := by
  rw [← cd_mod a, h, cd_mod]
theorem cd_or (a b : Nat) : nI a ||| nI b = nI (a ||| b) := by
  apply Int32.toBitVec_inj.1
  show BitVec.ofNat 32 a ||| BitVec.ofNat 32 b = BitVec.ofNat 32 (a ||| b)
  apply BitVec.eq_of_getLsbD_eq
  intro i hi
  simp [hi]
theorem cd_rng {N : Nat} {f : Nat → Bool} (h : (List.range N).all f = true) {i : Nat} (hi : i < N) : f i = true :=
  List.all_eq_true.mp h i (List.mem_range.mpr hi)
/-- part i of s -/
def cd_pt (s i : Nat) : Nat := s / 8 ^ i % 8
theorem cd_pt_lt (s i : Nat) : cd_pt s i < 8 := Nat.mod_lt _ (by decide)
theorem cd_part {s i : Nat} (hs : s < 4096) (hi : i < 4) : (nI s >>> ((3 * nI i) &&& 31)) &&& 7 = nI (cd_pt s i) := by
  have e : (3 : Int32) * nI i = nI (3 * i) := pk_mul 3 i
  have e2 : (2 : Nat) ^ (3 * i) = 8 ^ i := Nat.pow_mul 2 3 i
  rw [e, pk_shrN (by omega) (nI (3 * i) &&& 31) (3 * i) (s_l (3 * i) (by omega)), pk_andN (Nat.lt_of_le_of_lt (Nat.div_le_self _ _) (by omega)) 3 (by decide), e2]
  exact rfl
theorem cd_dig {d i : Nat} (hd : d < 4096) (hi : i < 4) : (nI d >>> ((2 * nI i) &&& 31)) &&& 3 = nI (d / 4 ^ i % 4) := by
  have e : (2 : Int32) * nI i = nI (2 * i) := pk_mul 2 i
  have e2 : (2 : Nat) ^ (2 * i) = 4 ^ i := Nat.pow_mul 2 2 i
  rw [e, pk_shrN (by omega) (nI (2 * i) &&& 31) (2 * i) (s_l (2 * i) (by omega)), pk_andN (Nat.lt_of_le_of_lt (Nat.div_le_self _ _) (by omega)) 2 (by decide), e2]
theorem cd_shl {c i : Nat} (hc : c < 8) (hi : i < 4) : nI c <<< ((3 * nI i) &&& 31) = nI (c * 8 ^ i) := by
  have e : (3 : Int32) * nI i = nI (3 * i) := pk_mul 3 i
  have e2 : (2 : Nat) ^ (3 * i) = 8 ^ i := Nat.pow_mul 2 3 i
  have e3 : (8 : Nat) ^ i ≤ 8 ^ 3 := Nat.pow_le_pow_right (by decide) (by omega)
  have e4 : c * 8 ^ i ≤ 8 * 8 ^ 3 := Nat.mul_le_mul (by omega) e3
  rw [e, pk_shlN (nI (3 * i) &&& 31) (3 * i) (s_l (3 * i) (by omega)) (by rw [e2]; omega), e2]
/-- the sum of the partition s, 0 where s is none -/
def cd_sum (s : Nat) : Nat :=
  if cd_pt s 1 ≤ cd_pt s 0 then
    if cd_pt s 2 ≤ cd_pt s 1 then
      if cd_pt s 3 ≤ cd_pt s 2 then
        if cd_pt s 0 + cd_pt s 1 + cd_pt s 2 + cd_pt s 3 ≤ 7 then cd_pt s 0 + cd_pt s 1 + cd_pt s 2 + cd_pt s 3 else 0
      else 0
    else 0
  else 0
theorem cd_sum_le (s : Nat) : cd_sum s ≤ 7 := by
  unfold cd_sum
  split
  · split
    · split
      · split
        · assumption
        · omega
      · omega
    · omega
  · omega
theorem cd_bigA : (List.range 4096).all (fun s => Nat.ble s 658 || Nat.beq (cd_sum s) 0) = true := by decide +kernel
theorem cd_big {s : Nat} (h : s < 4096) (h2 : 658 < s) : cd_sum s = 0 := by
  have := cd_rng cd_bigA h
  rcases (Bool.or_eq_true _ _).mp this with a | a
  · have := Nat.le_of_ble_eq_true a
    omega
  · exact Nat.eq_of_beq_eq_true a
theorem cd_sum_0 : cd_sum 0 = 0 := by decide +kernel
def cd_L : List Nat := [1, 2, 3, 4, 5, 6, 7, 9, 10, 11, 12, 13, 14, 18, 19, 20, 21, 27, 28, 73, 74, 75, 76, 77, 82, 83, 84, 91, 146, 147, 585, 586, 587, 588, 594, 595, 658]
theorem cd_memA : (List.range 4096).all (fun s => Nat.beq (cd_sum s) 0 || decide (s ∈ cd_L)) = true := by decide +kernel
theorem cd_mem {s : Nat} (h : s < 4096) (h0 : cd_sum s ≠ 0) : s ∈ cd_L := by
  have := cd_rng cd_memA h
  rcases (Bool.or_eq_true _ _).mp this with a | a
  · exact absurd (Nat.eq_of_beq_eq_true a) h0
  · exact of_decide_eq_true a
theorem cd_all {f : Nat → Bool} (h : cd_L.all f = true) {s : Nat} (hs : s < 4096) (h0 : cd_sum s ≠ 0) : f s = true :=
  List.all_eq_true.mp h s (cd_mem hs h0)
/-- how many parts of s are at least b -/
def cd_one (s b i : Nat) : Nat := if b ≤ cd_pt s i then 1 else 0
def cd_cn (s b : Nat) : Nat → Nat
  | 0 => 0
  | i + 1 => cd_cn s b i + cd_one s b i
theorem cd_one_le (s b i : Nat) : cd_one s b i ≤ 1 := by
  unfold cd_one
  split <;> omega
theorem cd_cn_le (s b : Nat) : ∀ i, cd_cn s b i ≤ i
  | 0 => Nat.le_refl 0
  | i + 1 => Nat.add_le_add (cd_cn_le s b i) (cd_one_le s b i)
/-- 0, 1, 2 stand for 0, 1, -1 -/
def cd_sg (v : Nat) : Nat := v % 2 + v / 2 * 4294967295
def cd_tab (c : Nat) : Nat := cd_sg (Nat.shiftRight 191885445398105467971485967284285428789803277348237464423771350131480333556252158856152336912021964490502609433099961594949192947723141120 (2 * c) % 4)
theorem cd_dt : ∀ w, w < 4 → ∀ x, x < 4 → ∀ y, y < 4 → ∀ z, z < 4 →
    (((((nI w - nI x) * (nI w - nI y)) * (nI w - nI z)) * (nI x - nI y)) * (nI x - nI z)) * (nI y - nI z) / 12 = nI (cd_tab (w + 4 * x + 16 * y + 64 * z)) := by decide +kernel
/-- the sum of the parts of m that the deal d gives to the letter l -/
def cd_di (l m d i : Nat) : Nat := if d / 4 ^ i % 4 = l then cd_pt m i else 0
def cd_dl (l m d : Nat) : Nat → Nat
  | 0 => 0
  | i + 1 => cd_dl l m d i + cd_di l m d i
theorem cd_di_le (l m d i : Nat) : cd_di l m d i ≤ 7 := by
  unfold cd_di
  have := cd_pt_lt m i
  split <;> omega
theorem cd_dl_le (l m d : Nat) : cd_dl l m d 4 ≤ 28 := by
  have h0 := cd_di_le l m d 0
  have h1 := cd_di_le l m d 1
  have h2 := cd_di_le l m d 2
  have h3 := cd_di_le l m d 3
  show (((0 + cd_di l m d 0) + cd_di l m d 1) + cd_di l m d 2) + cd_di l m d 3 ≤ 28
  omega
/-- the coefficient of what is left of the powers in the differences' product -/
def cd_dc (w x y z a b c d : Nat) : Nat :=
  if a ≤ w ∧ w < a + 4 then
    if b ≤ x ∧ x < b + 4 then
      if c ≤ y ∧ y < c + 4 then
        if d ≤ z ∧ z < d + 4 then cd_tab ((w - a) + 4 * (x - b) + 16 * (y - c) + 64 * (z - d)) else 0
      else 0
    else 0
  else 0
def cd_F (s m d : Nat) : Nat := cd_dc (cd_pt s 0 + 3) (cd_pt s 1 + 2) (cd_pt s 2 + 1) (cd_pt s 3) (cd_dl 0 m d 4) (cd_dl 1 m d 4) (cd_dl 2 m d 4) (cd_dl 3 m d 4)
def cd_cs (s m : Nat) : Nat → Nat
  | 0 => 0
  | d + 1 => cd_cs s m d + cd_F s m d
/-- X's character -/
def cd_cx (s m : Nat) : Nat := cd_cs s m (4 ^ cd_cn m 1 4)
/-! ===== the reference's polynomials ===== -/
def cd_fc (f : Nat → Nat) : Nat → Nat
  | 0 => f 0
  | j + 1 => f (j + 1)
theorem cd_fc_eq (f : Nat → Nat) (k : Nat) : cd_fc f k = f k := by
  cases k <;> rfl
def cd_tw (w c : Nat) (f : Nat → Nat) (k : Nat) : Nat := if w = 0 then 0 else if c ≤ k then w * cd_fc f (k - c) else 0
def cd_t4 (p w x y z : Nat) (f : Nat → Nat) (k : Nat) : Nat := cd_tw w p f k + cd_tw x (14 * p) f k + cd_tw y (196 * p) f k + cd_tw z 0 f k
def cd_v0 (k : Nat) : Nat := if k = 0 then 1 else 0
def cd_v1 : Nat → Nat := cd_t4 1 1 4294967295 0 0 cd_v0
def cd_v2 : Nat → Nat := cd_t4 1 1 0 4294967295 0 cd_v1
def cd_v3 : Nat → Nat := cd_t4 1 1 0 0 4294967295 cd_v2
def cd_v4 : Nat → Nat := cd_t4 1 0 1 4294967295 0 cd_v3
def cd_v5 : Nat → Nat := cd_t4 1 0 1 0 4294967295 cd_v4
def cd_v6 : Nat → Nat := cd_t4 1 0 0 1 4294967295 cd_v5
def cd_vt (k : Nat) : Nat := cd_sg (Nat.shiftRight 665575260327144035771045399893052477706986738595289335327267701664246522012979879780017061066640822237645506487322434352390150364683772693837278235446282266337836239384601929310455897526067634923223843699927032534538306505386896749116491190374513031346996066189713751502755154043452255427036126980216276516010658116323652033271605177379017448111905481663975135660306595840 (2 * k) % 4)
theorem cd_vA : (List.range 2744).all (fun k => Nat.beq (cd_v6 k % 4294967296) (cd_vt k % 4294967296)) = true := by decide +kernel
theorem cd_v {k : Nat} (hk : k < 2744) : nI (cd_v6 k) = nI (cd_vt k) := cd_eqm (Nat.eq_of_beq_eq_true (cd_rng cd_vA hk))
/-- after the first i parts of m -/
def cd_g (m : Nat) : Nat → Nat → Nat
  | 0 => cd_vt
  | i + 1 => fun k => if cd_pt m i = 0 then cd_g m i k else cd_t4 (cd_pt m i) 1 1 1 1 (cd_g m i) k
/-- after n factors w + x + y + z -/
def cd_o : Nat → Nat → Nat
  | 0 => cd_vt
  | n + 1 => cd_t4 1 1 1 1 1 (cd_o n)
def cd_ix (s : Nat) : Nat := cd_pt s 0 + 3 + 14 * (cd_pt s 1 + 2) + 196 * (cd_pt s 2 + 1)
