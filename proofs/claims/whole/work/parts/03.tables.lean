/-! ===== the 37 partitions and the 277 pairs ===== -/
theorem cd_chA : cd_L.all (fun m => cd_L.all (fun s => !(Nat.beq (cd_sum s) (cd_sum m)) || Nat.beq (cd_cx s m % 4294967296) (cd_g m 4 (cd_ix s) % 4294967296))) = true := by decide +kernel
theorem cd_ch {s m : Nat} (hs : s < 4096) (hm : m < 4096) (h0 : cd_sum m ≠ 0) (e : cd_sum s = cd_sum m) : nI (cd_cx s m) = nI (cd_g m 4 (cd_ix s)) := by
  have h1 := cd_all cd_chA hm h0
  have h2 := cd_all h1 hs (by rw [e]; exact h0)
  rcases (Bool.or_eq_true _ _).mp h2 with a | a
  · have b : Nat.beq (cd_sum s) (cd_sum m) = true := by rw [e]; exact Nat.beq_refl _
    rw [b] at a
    exact absurd a (by decide)
  · exact cd_eqm (Nat.eq_of_beq_eq_true a)
def cd_fac : Nat → Nat
  | 0 => 1
  | n + 1 => cd_fac n * (n + 1)
def cd_quo (a b : Int32) : Int32 := if b = 0 then 0 else a / b
def cd_dif (w x y z : Int32) : Int32 := (((((w - x) * (w - y)) * (w - z)) * (x - y)) * (x - z)) * (y - z)
/-- X's degree -/
def cd_dI (s : Nat) : Int32 :=
  cd_quo (nI (cd_fac (cd_sum s)) * cd_dif (nI (cd_pt s 0 + 3)) (nI (cd_pt s 1 + 2)) (nI (cd_pt s 2 + 1)) (nI (cd_pt s 3)))
    (((nI (cd_fac (cd_pt s 0 + 3)) * nI (cd_fac (cd_pt s 1 + 2))) * nI (cd_fac (cd_pt s 2 + 1))) * nI (cd_fac (cd_pt s 3)))
theorem cd_dgA : cd_L.all (fun s => decide (cd_dI s = nI (cd_o (cd_sum s) (cd_ix s)))) = true := by decide +kernel
theorem cd_dg {s : Nat} (hs : s < 4096) (h0 : cd_sum s ≠ 0) : cd_dI s = nI (cd_o (cd_sum s) (cd_ix s)) :=
  of_decide_eq_true (cd_all (f := fun s => decide (cd_dI s = nI (cd_o (cd_sum s) (cd_ix s)))) cd_dgA hs h0)
/-- X's writings: ways, before, alike -/
def cd_wi (m : Nat) : Nat → Nat × Nat × Nat
  | 0 => (1, 0, 0)
  | i + 1 =>
    if 0 < cd_pt m i then
      ((cd_wi m i).1 * (cd_pt m i * (if cd_pt m i = (cd_wi m i).2.1 then (cd_wi m i).2.2 + 1 else 1)), cd_pt m i, if cd_pt m i = (cd_wi m i).2.1 then (cd_wi m i).2.2 + 1 else 1)
    else cd_wi m i
theorem cd_wi_b (m : Nat) : ∀ i, (cd_wi m i).2.1 < 8
  | 0 => (by decide : 0 < 8)
  | i + 1 => by
    unfold cd_wi
    split
    · exact cd_pt_lt m i
    · exact cd_wi_b m i
/-- the reference's: same, again -/
def cd_ag (m i a : Nat) : Nat := if 0 < i ∧ cd_pt m i = cd_pt m (i - 1) then a + 1 else 1
def cd_yi (m : Nat) : Nat → Nat × Nat
  | 0 => (1, 0)
  | i + 1 => (if 0 < cd_pt m i then (cd_yi m i).1 * cd_pt m i * cd_ag m i (cd_yi m i).2 else (cd_yi m i).1, cd_ag m i (cd_yi m i).2)
theorem cd_peA : cd_L.all (fun m => Nat.beq (cd_wi m 4).1 (cd_yi m 4).1 && (Nat.ble 1 (cd_wi m 4).1 && Nat.ble (cd_wi m 4).1 5040)) = true := by decide +kernel
theorem cd_pe {m : Nat} (hm : m < 4096) (h0 : cd_sum m ≠ 0) : (cd_wi m 4).1 = (cd_yi m 4).1 ∧ 1 ≤ (cd_wi m 4).1 ∧ (cd_wi m 4).1 ≤ 5040 := by
  have h := cd_all cd_peA hm h0
  have ⟨a, b⟩ := (Bool.and_eq_true _ _).mp h
  have ⟨c, d⟩ := (Bool.and_eq_true _ _).mp b
  exact ⟨Nat.eq_of_beq_eq_true a, Nat.le_of_ble_eq_true c, Nat.le_of_ble_eq_true d⟩
/-- turned, by sums and by or -/
def cd_tx (s : Nat) : Nat → Nat
  | 0 => 0
  | i + 1 => cd_tx s i + cd_cn s (i + 1) 4 * 8 ^ i
def cd_ty (s : Nat) : Nat → Nat
  | 0 => 0
  | i + 1 => cd_ty s i ||| cd_cn s (i + 1) 4 * 8 ^ i
theorem cd_tuA : cd_L.all (fun s => Nat.beq (cd_tx s 4) (cd_ty s 4)) = true := by decide +kernel
theorem cd_tu {s : Nat} (hs : s < 4096) (h0 : cd_sum s ≠ 0) : cd_tx s 4 = cd_ty s 4 := Nat.eq_of_beq_eq_true (cd_all cd_tuA hs h0)
/-! ===== loops over the shapes ===== -/
/-- what stands after the shapes 1 .. k -/
def cd_fold (n : Nat) (G : Nat → Int32 → Int32) (a : Int32) : Nat → Int32
  | 0 => a
  | k + 1 => if cd_sum (k + 1) = n then G (k + 1) (cd_fold n G a k) else cd_fold n G a k
theorem cd_fold_t {n k : Nat} {G : Nat → Int32 → Int32} {a : Int32} (h : cd_sum (k + 1) = n) : cd_fold n G a (k + 1) = G (k + 1) (cd_fold n G a k) := if_pos h
theorem cd_fold_f {n k : Nat} {G : Nat → Int32 → Int32} {a : Int32} (h : ¬ cd_sum (k + 1) = n) : cd_fold n G a (k + 1) = cd_fold n G a k := if_neg h
theorem cd_fold_ext {n : Nat} {G G' : Nat → Int32 → Int32} {a : Int32} (h : ∀ s, s < 4096 → cd_sum s = n → ∀ b, G s b = G' s b) : ∀ k, k < 4096 → cd_fold n G a k = cd_fold n G' a k
  | 0, _ => rfl
  | k + 1, hk => by
    have ih := cd_fold_ext (a := a) h k (by omega)
    by_cases e : cd_sum (k + 1) = n
    · rw [cd_fold_t e, cd_fold_t e, ih, h (k + 1) hk e]
    · rw [cd_fold_f e, cd_fold_f e, ih]
theorem cd_fold_up {n : Nat} {G : Nat → Int32 → Int32} {a : Int32} (hn : n ≠ 0) : ∀ j, 658 + j < 4096 → cd_fold n G a (658 + j) = cd_fold n G a 658
  | 0, _ => rfl
  | j + 1, hj => by
    have e : ¬ cd_sum (658 + j + 1) = n := by
      rw [cd_big (by omega) (by omega)]
      omega
    show cd_fold n G a (658 + j + 1) = _
    rw [cd_fold_f e, cd_fold_up hn j (by omega)]
theorem cd_fold_top {n : Nat} {G : Nat → Int32 → Int32} {a : Int32} (hn : n ≠ 0) : cd_fold n G a 4095 = cd_fold n G a 658 := cd_fold_up hn 3437 (by decide)
theorem cd_fold_none {n : Nat} {G : Nat → Int32 → Int32} {a : Int32} (hn : 7 < n) : ∀ k, cd_fold n G a k = a
  | 0 => rfl
  | k + 1 => by
    have e : ¬ cd_sum (k + 1) = n := by
      have := cd_sum_le (k + 1)
      omega
    rw [cd_fold_f e, cd_fold_none hn k]
/-- downwards from s, f found so far -/
def cd_pd (n : Nat) (k : Int32) : Nat → Int32 → Int32
  | 0, _ => -1000000
  | s + 1, f => if cd_sum (s + 1) = n then (if f = k then nI (s + 1) else cd_pd n k s (f + 1)) else cd_pd n k s f
theorem cd_pd_r {n s : Nat} {k f : Int32} (h : cd_sum (s + 1) = n) (e : f = k) : cd_pd n k (s + 1) f = nI (s + 1) := (if_pos h).trans (if_pos e)
theorem cd_pd_n {n s : Nat} {k f : Int32} (h : cd_sum (s + 1) = n) (e : ¬ f = k) : cd_pd n k (s + 1) f = cd_pd n k s (f + 1) := (if_pos h).trans (if_neg e)
theorem cd_pd_f {n s : Nat} {k f : Int32} (h : ¬ cd_sum (s + 1) = n) : cd_pd n k (s + 1) f = cd_pd n k s f := if_neg h
theorem cd_pd_up {n : Nat} {k f : Int32} (hn : n ≠ 0) : ∀ j, 658 + j < 4096 → cd_pd n k (658 + j) f = cd_pd n k 658 f
  | 0, _ => rfl
  | j + 1, hj => by
    have e : ¬ cd_sum (658 + j + 1) = n := by
      rw [cd_big (by omega) (by omega)]
      omega
    show cd_pd n k (658 + j + 1) f = _
    rw [cd_pd_f e, cd_pd_up hn j (by omega)]
theorem cd_pd_top {n : Nat} {k f : Int32} (hn : n ≠ 0) : cd_pd n k 4095 f = cd_pd n k 658 f := cd_pd_up hn 3437 (by decide)
theorem cd_pd_none {n : Nat} {k : Int32} (hn : 7 < n) : ∀ j f, cd_pd n k j f = -1000000
  | 0, _ => rfl
  | j + 1, f => by
    have e : ¬ cd_sum (j + 1) = n := by
      have := cd_sum_le (j + 1)
      omega
    rw [cd_pd_f e, cd_pd_none hn j f]
