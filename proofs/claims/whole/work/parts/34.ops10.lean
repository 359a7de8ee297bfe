/-! run -/
theorem y_lc_gt {p q : Nat} (hp : p < 2 ^ 63) (hq : q < 2 ^ 63) : (nI 0 < x_lc (lN p) (lN q)) = (q < p) := by
  rw [x_lc_eq]
  unfold lg_cmp
  apply propext
  by_cases h : q < p
  · rw [if_pos (show lN p > lN q from (pk_lLT hq hp).mpr h)]
    exact ⟨fun _ => h, fun _ => by decide⟩
  · rw [if_neg (fun z => h ((pk_lLT hq hp).mp z))]
    split
    · exact ⟨fun z => absurd z (by decide), fun z => absurd z h⟩
    · exact ⟨fun z => absurd z (by decide), fun z => absurd z h⟩
theorem y_lc_lt {p q : Nat} (hp : p < 2 ^ 63) (hq : q < 2 ^ 63) : (x_lc (lN p) (lN q) < nI 0) = (p < q) := by
  rw [x_lc_eq]
  unfold lg_cmp
  apply propext
  by_cases h : q < p
  · rw [if_pos (show lN p > lN q from (pk_lLT hq hp).mpr h)]
    exact ⟨fun z => absurd z (by decide), fun z => by omega⟩
  · rw [if_neg (fun z => h ((pk_lLT hq hp).mp z))]
    by_cases e : p = q
    · rw [if_pos (by rw [e])]
      exact ⟨fun z => absurd z (by decide), fun z => by omega⟩
    · rw [if_neg (fun z => e ((pk_lEQ hp hq).mp z))]
      exact ⟨fun _ => by omega, fun _ => by decide⟩
theorem run_both {M M' : xM} {x y : Nat} (hx : x ≤ 10) (hy1 : 1 ≤ y) (hy : y ≤ 9) (o1 : Option Int32) : ∀ (n d a m : Nat) (o3 o5 o6 o7 : Option Int32), d + n = 16 → m ≤ a → a ≤ 1000000000000000 → a * 10 ^ n ≤ 10000000000000000 → ∃ v, C_daysToRun_8 (nI x) (nI y) (lN a) o3 (lN m) o5 (nI d) M = some (v, M) ∧ K_run_57 o1 (nI x) (nI y) (lN m) o6 (lN a) o7 (nI d) M' = some (v, M')
  | 0, d, a, m, o3, o5, o6, o7, hd, hm, ha, hp => by
    refine ⟨-4, ?_, ?_⟩
    · rw [C_daysToRun_8_eq, if_pos (by rw [y_lt (by omega) (by omega)]; omega)]
    · rw [K_run_57_eq, if_pos (by rw [y_le (by omega) (by omega)]; omega)]
  | n + 1, d, a, m, o3, o5, o6, o7, hd, hm, ha, hp => by
    have hmx : m * (10 - x) ≤ a * 10 := Nat.mul_le_mul hm (by omega)
    have hay : a * 10 * (10 - y) ≤ a * 10 * 10 := Nat.mul_le_mul (Nat.le_refl _) (by omega)
    have hya : y * (a * 10) ≤ 10 * (a * 10) := Nat.mul_le_mul (by omega) (Nat.le_refl _)
    have hsum : a * 10 * (10 - y) + y * (a * 10) = a * 10 * 10 := by
      rw [Nat.mul_comm y, ← Nat.mul_add]
      congr 1
      omega
    have e1 : (nI 10 - nI x).toInt64 = lN (10 - x) := by rw [y_sub hx, nI_l (by omega)]
    have e2 : (nI 10 - nI y).toInt64 = lN (10 - y) := by rw [y_sub (by omega), nI_l (by omega)]
    have e3 : (nI y).toInt64 = lN y := nI_l (by omega)
    rw [C_daysToRun_8_eq, if_neg (show ¬ nI 15 < nI d by rw [y_lt (by omega) (by omega)]; omega), K_run_57_eq, if_neg (show ¬ nI 16 ≤ nI d by rw [y_le (by omega) (by omega)]; omega)]
    simp only [e1, e2, e3]
    simp only [lN_mul, lN_sub hmx, y_add, y_lc_gt (show m * (10 - x) * 10 < 2 ^ 63 by omega) (show a * 10 * (10 - y) < 2 ^ 63 by omega), y_lc_lt (show 10 * (a * 10 - m * (10 - x)) < 2 ^ 63 by omega) (show y * (a * 10) < 2 ^ 63 by omega)]
    by_cases h : a * 10 * (10 - y) < m * (10 - x) * 10
    · rw [if_pos h, if_pos (by omega)]
      rw [Nat.pow_succ] at hp
      have hpn : 0 < 10 ^ n := Nat.pow_pos (by decide)
      have hp2 : a * 10 * 10 ^ n ≤ 10000000000000000 := by rw [Nat.mul_assoc, Nat.mul_comm 10]; exact hp
      cases n with
      | zero =>
        refine ⟨-4, ?_, ?_⟩
        · rw [C_daysToRun_8_eq, if_pos (by rw [y_lt (by omega) (by omega)]; omega)]
        · rw [K_run_57_eq, if_pos (by rw [y_le (by omega) (by omega)]; omega)]
      | succ n =>
        have h10 : a * 10 * 10 ≤ a * 10 * 10 ^ (n + 1) := Nat.mul_le_mul (Nat.le_refl _) (by rw [Nat.pow_succ]; have := Nat.pow_pos (n := n) (show 0 < 10 by decide); omega)
        exact run_both hx hy1 hy o1 (n + 1) (d + 1) (a * 10) (m * (10 - x)) none none none none (by omega) hmx (by omega) hp2
    · rw [if_neg h, if_neg (by omega)]
      exact ⟨nI d, rfl, rfl⟩
