/-! ===== what 'times' makes of an array ===== -/
def cd_tm (w : Int32) (c : Nat) (f : Nat → Int32) (e k : Nat) : Int32 := if c ≤ k ∧ k - c < e then w * f (k - c) else 0
def cd_at1 (k c : Nat) (v : Int32) : Int32 := if k = c then v else 0
theorem cd_tm_0 (w : Int32) (c : Nat) (f : Nat → Int32) (k : Nat) : cd_tm w c f 0 k = 0 := if_neg (fun h => Nat.not_lt_zero _ h.2)
theorem cd_tm_s (w : Int32) (c : Nat) (f : Nat → Int32) (e k : Nat) : cd_tm w c f (e + 1) k = cd_tm w c f e k + cd_at1 k (e + c) (w * f e) := by
  unfold cd_tm cd_at1
  by_cases h : k = e + c
  · subst h
    have h1 : c ≤ e + c ∧ e + c - c < e + 1 := by omega
    have h2 : ¬ (c ≤ e + c ∧ e + c - c < e) := by omega
    rw [if_pos h1, if_neg h2, if_pos rfl, Nat.add_sub_cancel, Int32.zero_add]
  · rw [if_neg h, Int32.add_zero]
    by_cases h2 : c ≤ k ∧ k - c < e
    · have h3 : c ≤ k ∧ k - c < e + 1 := by omega
      rw [if_pos h2, if_pos h3]
    · have h3 : ¬ (c ≤ k ∧ k - c < e + 1) := by omega
      rw [if_neg h2, if_neg h3]
theorem cd_at1_0 (k c : Nat) (w : Int32) : cd_at1 k c (w * 0) = 0 := by
  unfold cd_at1
  rw [Int32.mul_zero]
  exact ite_self _
theorem cd_tm_z {f : Nat → Int32} {e : Nat} (h : f e = 0) (w : Int32) (c k : Nat) : cd_tm w c f (e + 1) k = cd_tm w c f e k := by
  rw [cd_tm_s, h, cd_at1_0, Int32.add_zero]
def cd_Te (p : Nat) (w x y z : Int32) (f : Nat → Int32) (e k : Nat) : Int32 := cd_tm w p f e k + cd_tm x (14 * p) f e k + cd_tm y (196 * p) f e k + cd_tm z 0 f e k
theorem cd_Te_0 (p : Nat) (w x y z : Int32) (f : Nat → Int32) (k : Nat) : cd_Te p w x y z f 0 k = 0 := by
  unfold cd_Te
  rw [cd_tm_0, cd_tm_0, cd_tm_0, cd_tm_0]
  decide
theorem cd_Te_z {f : Nat → Int32} {e : Nat} (h : f e = 0) (p : Nat) (w x y z : Int32) (k : Nat) : cd_Te p w x y z f (e + 1) k = cd_Te p w x y z f e k := by
  unfold cd_Te
  rw [cd_tm_z h, cd_tm_z h, cd_tm_z h, cd_tm_z h]
theorem cd_sum8 (a b c d a' b' c' d' : Int32) : (a + a') + (b + b') + (c + c') + (d + d') = (((a + b + c + d) + a') + b') + c' + d' := by
  grind
theorem cd_Te_s (p : Nat) (w x y z : Int32) (f : Nat → Int32) (e k : Nat) :
    cd_Te p w x y z f (e + 1) k = ((((cd_Te p w x y z f e k) + cd_at1 k (e + p) (w * f e)) + cd_at1 k (e + 14 * p) (x * f e)) + cd_at1 k (e + 196 * p) (y * f e)) + cd_at1 k e (z * f e) := by
  unfold cd_Te
  rw [cd_tm_s w, cd_tm_s x, cd_tm_s y, cd_tm_s z, Nat.add_zero]
  exact cd_sum8 _ _ _ _ _ _ _ _
theorem cd_tm_nI {a : Nat → Int32} {f : Nat → Nat} (h : ∀ k, k < 2744 → a k = nI (f k)) (w c : Nat) {k : Nat} (hk : k < 2744) : cd_tm (nI w) c a 2744 k = nI (cd_tw w c f k) := by
  unfold cd_tm cd_tw
  by_cases hw : w = 0
  · subst hw
    rw [if_pos rfl, nI_0]
    split
    · exact Int32.zero_mul
    · rfl
  · rw [if_neg hw]
    by_cases hc : c ≤ k
    · have h1 : c ≤ k ∧ k - c < 2744 := by omega
      rw [if_pos h1, if_pos hc, h (k - c) (by omega), pk_mul, cd_fc_eq]
    · have h1 : ¬ (c ≤ k ∧ k - c < 2744) := by omega
      rw [if_neg h1, if_neg hc, nI_0]
/-- the array is the numbers' picture -/
def cd_Is (a : Nat → Int32) (f : Nat → Nat) : Prop := ∀ k, k < 2744 → a k = nI (f k)
theorem cd_Is_T {a a' : Nat → Int32} {f : Nat → Nat} {p w x y z : Nat} (h : cd_Is a f) (h' : ∀ k, k < 2744 → a' k = cd_Te p (nI w) (nI x) (nI y) (nI z) a 2744 k) : cd_Is a' (cd_t4 p w x y z f) := by
  intro k hk
  rw [h' k hk]
  unfold cd_Te cd_t4
  rw [cd_tm_nI h w p hk, cd_tm_nI h x (14 * p) hk, cd_tm_nI h y (196 * p) hk, cd_tm_nI h z 0 hk, nI_add, nI_add, nI_add]
