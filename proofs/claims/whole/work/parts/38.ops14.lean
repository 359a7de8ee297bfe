/-! near -/
theorem k_wa7 {M : xM} (o0 o1 : Option Int32) {k : Nat} (hk : k < 5) : ∀ (j c : Nat), k + j < 2 ^ 30 → c < 2 ^ 31 → K_wordAt_7 o0 o1 (nI k) (nI c) (nI (k + j)) M = some (nI (c / 10 ^ j % 10) - nI 1, M)
  | 0, c, hj, hc => by
    rw [K_wordAt_7_eq, if_pos (show nI (k + 0) ≤ nI k by rw [y_le (by omega) (by omega)]; omega), y_rem hc, show c / 10 ^ 0 = c from Nat.div_one _]
  | j + 1, c, hj, hc => by
    have h1 : c / 10 ≤ c := Nat.div_le_self _ _
    rw [K_wordAt_7_eq, if_neg (show ¬ nI (k + (j + 1)) ≤ nI k by rw [y_le (by omega) (by omega)]; omega), y_div hc (by decide) (by decide), show k + (j + 1) = (k + j) + 1 by omega, pk_m1, k_wa7 o0 o1 hk j (c / 10) (by omega) (by omega), Nat.div_div_eq_div_mul, Nat.pow_succ, Nat.mul_comm 10]
/-- wordAt at any length: the digit less one -/
theorem k_wa {M : xM} {L k c : Nat} (hL : L ≤ 5) (hk : k < L) (hc : c < 2 ^ 31) : K_wordAt (nI c) (nI L) (nI k) M = some (nI (c / 10 ^ (L - 1 - k) % 10) - nI 1, M) := by
  have h := k_wa7 (M := M) (some (nI c)) (some (nI L)) (show k < 5 by omega) (L - 1 - k) c (by omega) hc
  rw [show k + (L - 1 - k) = L - 1 by omega] at h
  rw [K_wordAt_eq, y_sub (by omega)]
  exact h
theorem y_dge : ∀ a, a < 10 → ∀ b, b < 10 → ((nI a - nI 1 = nI b - nI 1) = (a = b)) := by
  have : ∀ a, a < 10 → ∀ b, b < 10 → ((nI a - nI 1 = nI b - nI 1) ↔ (a = b)) := by decide +kernel
  exact fun a ha b hb => propext (this a ha b hb)
/-- in how many of the lowest n digits c and d differ -/
def y_df (c d : Nat) : Nat → Nat
  | 0 => 0
  | n + 1 => y_df c d n + (if c / 10 ^ n % 10 = d / 10 ^ n % 10 then 0 else 1)
theorem y_df_le (c d : Nat) : ∀ n, y_df c d n ≤ n
  | 0 => Nat.le_refl _
  | n + 1 => by
    have := y_df_le c d n
    show y_df c d n + (if c / 10 ^ n % 10 = d / 10 ^ n % 10 then 0 else 1) ≤ n + 1
    split <;> omega
