/-! run -/
theorem y_lc_gt {p q : Nat} (hp : p < 2 ^ 63) (hq : q < 2 ^ 63) : (nI 0 < x_lc (lN p) (lN q)) = (q < p) := by
  rw [x_lc_eq]
  unfold lg_cmp
  apply propext
  by_cases h : q < p
  · rw [if_pos (show lN p > lN q from (pk_lLT hq hp).mpr h)]
    exact ⟨fun _ => h, fun _ => by decide⟩
  · rw [if_neg (fun z => h ((pk_lLT hq hp).mp z))]
    split
    · exact ⟨fun z => absurd z (by decide), fun z => absurd z h⟩
    · exact ⟨fun z => absurd z (by decide), fun z => absurd z h⟩
theorem y_lc_lt {p q : Nat} (hp : p < 2 ^ 63) (hq : q < 2 ^ 63) : (x_lc (lN p) (lN q) < nI 0) = (p < q) := by
  rw [x_lc_eq]
  unfold lg_cmp
  apply propext
  by_cases h : q < p
  · rw [if_pos (show lN p > lN q from (pk_lLT hq hp).mpr h)]
    exact ⟨fun z => absurd z (by decide), fun z => by omega⟩
  · rw [if_neg (fun z => h ((pk_lLT hq hp).mp z))]
    by_cases e : p = q
    · rw [if_pos (by rw [e])]
      exact ⟨fun z => absurd z (by decide), fun z => by omega⟩
    · rw [if_neg (fun z => e ((pk_lEQ hp hq).mp z))]
      exact ⟨fun _ => by omega, fun _ => by decide⟩
theorem run_both {M M' : xM} {x y : Nat} (hx : x ≤ 10) (hy1 : 1 ≤ y) (hy : y ≤ 9) (o1 : Option Int32) : ∀ (n d a m : Nat) (o3 o5 o6 o7 : Option Int32), d + n = 16 → m ≤ a → a ≤ 1000000000000000 → a * 10 ^ n ≤ 10000000000000000 → ∃ v, C_daysToRun_8 (nI x) (nI y) (lN a) o3 (lN m) o5 (nI d) M = some (v, M) ∧ K_run_57 o1 (nI x) (nI y) (lN m) o6 (lN a) o7 (nI d) M' = some (v, M')
  | 0, d, a, m, o3, o5, o6, o7, hd, hm, ha, hp => by
    refine ⟨-4, ?_, ?_⟩
    · rw [C_daysToRun_8_eq, if_pos (by rw [y_lt (by omega) (by omega)]; omega)]
    · rw [K_run_57_eq, if_pos (by rw [y_le (by omega) (by omega)]; omega)]
  | n + 1, d, a, m, o3, o5, o6, o7, hd, hm, ha, hp => by
    have hmx : m * (10 - x) ≤ a * 10 := Nat.mul_le_mul hm (by omega)
    have hay : a * 10 * (10 - y) ≤ a * 10 * 10 := Nat.mul_le_mul (Nat.le_refl _) (by omega)
    have hya : y * (a * 10) ≤ 10 * (a * 10) := Nat.mul_le_mul (by omega) (Nat.le_refl _)
    have hsum : a * 10 * (10 - y) + y * (a * 10) = a * 10 * 10 := by
      rw [Nat.mul_comm y, ← Nat.mul_add]
      congr 1
      omega
    have e1 : (nI 10 - nI x).toInt64 = lN (10 - x) := by rw [y_sub hx, nI_l (by omega)]
    have e2 : (nI 10 - nI y).toInt64 = lN (10 - y) := by rw [y_sub (by omega), nI_l (by omega)]
    have e3 : (nI y).toInt64 = lN y := nI_l (by omega)
    rw [C_daysToRun_8_eq, if_neg (show ¬ nI 15 < nI d by rw [y_lt (by omega) (by omega)]; omega), K_run_57_eq, if_neg (show ¬ nI 16 ≤ nI d by rw [y_le (by omega) (by omega)]; omega)]
    simp only [e1, e2, e3]
    simp only [lN_mul, lN_sub hmx, y_add, y_lc_gt (show m * (10 - x) * 10 < 2 ^ 63 by omega) (show a * 10 * (10 - y) < 2 ^ 63 by omega), y_lc_lt (show 10 * (a * 10 - m * (10 - x)) < 2 ^ 63 by omega) (show y * (a * 10) < 2 ^ 63 by omega)]
    by_cases h : a * 10 * (10 - y) < m * (10 - x) * 10
    · rw [if_pos h, if_pos (by omega)]
      rw [Nat.pow_succ] at hp
      have hpn : 0 < 10 ^ n := Nat.pow_pos (by decide)
      have hp2 : a * 10 * 10 ^ n ≤ 10000000000000000 := by rw [Nat.mul_assoc, Nat.mul_comm 10]; exact hp
      cases n with
      | zero =>
        refine ⟨-4, ?_, ?_⟩
        · rw [C_daysToRun_8_eq, if_pos (by rw [y_lt (by omega) (by omega)]; omega)]
        · rw [K_run_57_eq, if_pos (by rw [y_le (by omega) (by omega)]; omega)]
      | succ n =>
        have h10 : a * 10 * 10 ≤ a * 10 * 10 ^ (n + 1) := Nat.mul_le_mul (Nat.le_refl _) (by rw [Nat.pow_succ]; have := Nat.pow_pos (n := n) (show 0 < 10 by decide); omega)
        exact run_both hx hy1 hy o1 (n + 1) (d + 1) (a * 10) (m * (10 - x)) none none none none (by omega) hmx (by omega) hp2
    · rw [if_neg h, if_neg (by omega)]
      exact ⟨nI d, rfl, rfl⟩
theorem op_run {M : xM} (h : y_Inv M) (x y z : Int32) : y_op (C_run x y z) (K_run x y z) M := by
  obtain ⟨w, pr, me, r, ki, wa, N, nt, tx, nc, ch, nk, kp, nh, th, hI⟩ := id h
  obtain ⟨⟨-, hCW, hCR, hKW, hKR⟩, hN, ⟨hn1, hn2, hn3⟩, ht, hc, hk, hh⟩ := id hI
  have hn6 := hN.1
  have hC := C_run_eq x y z M
  rw [c_hasN (by omega) hn1, Option.bind_some, y_b0] at hC
  have hK := K_run_eq x y z M
  rw [k_isNotice (by omega) hn3.1, Option.bind_some, y_b0] at hK
  by_cases hx : y_inb x N.1 = true
  · rw [if_pos hx] at hC hK
    rw [c_within0 (by decide), Option.bind_some, y_b0] at hC
    rw [k_in0 (by decide), Option.bind_some, y_b0] at hK
    by_cases hy : y_inb y (10 + 1) = true
    · rw [if_pos hy, C_isWithin_eq] at hC
      rw [if_pos hy, K_in_eq] at hK
      by_cases hz1 : z < nI 1
      · rw [if_pos hz1] at hC hK
        exact y_op.same h hC hK
      · by_cases hz2 : nI 9 < z
        · rw [if_neg hz1, if_pos hz2] at hC hK
          exact y_op.same h hC hK
        · rw [if_neg hz1, if_neg hz2] at hC
          have hv : ∃ v, 1 ≤ v ∧ v ≤ 9 ∧ z = nI v := by
            rcases y_cases z with hneg | ⟨v, hv, rfl⟩
            · exact absurd (y_neg_lt hneg (by omega)) hz1
            · rw [y_lt hv (by omega)] at hz1
              rw [y_lt (by omega) hv] at hz2
              exact ⟨v, by omega, by omega, rfl⟩
          obtain ⟨v, hv1, hv2, rfl⟩ := hv
          obtain ⟨j, hj, rfl⟩ := y_inb_t hx
          obtain ⟨b, hb, rfl⟩ := y_inb_t hy
          have hds := hN.2.1 j hj
          obtain ⟨M1, m1, m2, m3⟩ := c_measurep hCW hds
          have m4 : y_but y_scr M M1 := m3.mono (by decide)
          obtain ⟨⟨-, hCW1, hCR1, hKW1, hKR1⟩, -, ⟨hm1, hm2, hm3⟩, -⟩ := hI.scr m4
          rw [Option.bind_some, if_neg (show ¬ nI 1 = nI 0 by decide), y_in (show j < 6 by omega) (by decide)] at hC
          simp only [y_clamp (show j < 2 ^ 31 by omega), hn2 j hj, C_answerersOf_eq, m1, Option.bind_some, c_answ_r (fun j hj => (hCW1.2.2.2 j hj).2) hCR1 hds m2, C_daysToRun_eq] at hC
          have hcode : M1 45 (1 + j) = nI (y_cd (N.2.1 j)) := by
            have := hm3.2.1 j hj
            rwa [Nat.zero_add] at this
          have hK := K_run_eq (nI j) (nI b) (nI v) M1
          rw [k_isNotice (by omega) hm3.1, Option.bind_some, y_b0, if_pos hx, k_in0 (by decide), Option.bind_some, y_b0, if_pos hy, K_in_eq, if_neg hz1, if_neg hz2, Option.bind_some, if_neg (show ¬ nI 1 = nI 0 by decide)] at hK
          simp only [y_add, y_in2 (show 1 + j < 15 by omega) (show 15 < 2 ^ 31 by decide), y_clamp (show 1 + j < 2 ^ 31 by omega), hcode, k_whoDoes hKW1 hKR1 hds, Option.bind_some] at hK
          by_cases hw : nI (y_who me (fun j => N.2.2 j) ki wa (N.2.1 j) r) = nI 0
          · rw [if_pos hw] at hC hK
            exact y_op.ro h hC hK m4 y_but.rf
          · rw [if_neg hw] at hC hK
            obtain ⟨u, u1, u2⟩ := run_both (M := M1) (M' := M1) (show b ≤ 10 by omega) hv1 hv2 (some (nI j)) 15 1 1 1 none none none none (by omega) (by omega) (by omega) (by decide)
            rw [u1, Option.bind_some] at hC
            rw [u2] at hK
            exact y_op.ro h hC hK m4 y_but.rf
    · rw [if_neg hy] at hC hK
      exact y_op.same h hC hK
  · rw [if_neg hx] at hC hK
    exact y_op.same h hC hK
