/-! odds -/
theorem j_bits {M : xM} {s : Nat} (hs : s < 64) : J_bitCount (nI s) M = some (nI (y_ones s), M) := by
  rw [J_bitCount_eq]
  refine congrArg (fun z => some (z, M)) ?_
  clear M
  revert s
  decide +kernel
theorem y_ones6 : ∀ s, s < 64 → y_ones s ≤ 6 := by decide +kernel
def y_eu : Nat → Nat → Nat → Nat
  | 0, a, _ => a
  | f + 1, a, b => if b = 0 then a else y_eu f b (a % b)
def y_euf : Nat → Nat → Nat → Bool
  | 0, _, _ => false
  | f + 1, a, b => if b = 0 then true else y_euf f b (a % b)
theorem y_rem2 {a d : Nat} (ha : a < 2 ^ 31) (h0 : 0 < d) (hd : d < 2 ^ 31) : nI a - nI a / nI d * nI d = nI (a % d) := pk_rem ha h0 hd
theorem c_gcd {M : xM} (o0 o1 : Option Int32) : ∀ (f k a b : Nat) (o5 : Option Int32), k + f = 64 → a < 2 ^ 31 → b < 2 ^ 31 → y_eu f a b ≠ 0 → C_commonDivisor_7 o0 o1 (nI a) (nI b) (nI k) o5 M = some (nI (y_eu f a b), M)
  | 0, k, a, b, o5, hk, ha, hb, hne => by
    rw [C_commonDivisor_7_eq, if_pos (show nI 64 ≤ nI k by rw [y_le (by omega) (by omega)]; omega), if_neg (show ¬ nI a = nI 0 by rw [y_eq (by omega) (by omega)]; exact hne)]
    rfl
  | f + 1, k, a, b, o5, hk, ha, hb, hne => by
    rw [show y_eu (f + 1) a b = if b = 0 then a else y_eu f b (a % b) from rfl] at hne ⊢
    rw [C_commonDivisor_7_eq, if_neg (show ¬ nI 64 ≤ nI k by rw [y_le (by omega) (by omega)]; omega)]
    by_cases h0 : b = 0
    · rw [if_pos h0] at hne ⊢
      rw [if_pos (show nI b = nI 0 by rw [h0]), if_neg (show ¬ nI a = nI 0 by rw [y_eq (by omega) (by omega)]; exact hne)]
    · rw [if_neg h0] at hne ⊢
      have hz : ¬ nI b = nI 0 := by rw [y_eq (by omega) (by omega)]; exact h0
      rw [if_neg hz, if_neg hz, y_rem2 ha (by omega) hb, y_add]
      have hm : a % b < b := Nat.mod_lt _ (by omega)
      exact c_gcd o0 o1 f (k + 1) b (a % b) _ (by omega) hb (by omega) hne
theorem k_gcd {M : xM} (o1 o2 o4 : Option Int32) {z A P : Nat} (hz : z < 2) (hA : A < 2 ^ 31) (hP : P < 2 ^ 31) : ∀ (f a b : Nat) (o9 : Option Int32), a < 2 ^ 31 → b < 2 ^ 31 → y_euf f a b = true → y_eu f a b ≠ 0 → y_eu f a b < 2 ^ 31 → K_odds_95 o1 o2 (nI z) o4 (nI A) (nI P) (nI a) (nI b) o9 M = some (nI (if z = 0 then P / y_eu f a b else A / y_eu f a b), M)
  | 0, a, b, o9, ha, hb, hf, hne, hlt => absurd hf (by show ¬ false = true; decide)
  | f + 1, a, b, o9, ha, hb, hf, hne, hlt => by
    rw [show y_euf (f + 1) a b = if b = 0 then true else y_euf f b (a % b) from rfl] at hf
    rw [show y_eu (f + 1) a b = if b = 0 then a else y_eu f b (a % b) from rfl] at hne hlt ⊢
    rw [K_odds_95_eq]
    by_cases h0 : b = 0
    · rw [if_pos h0] at hne hlt
      rw [if_pos h0]
      have hz0 : ¬ nI a = nI 0 := by rw [y_eq (by omega) (by omega)]; exact hne
      rw [if_pos (show nI b ≤ nI 0 by rw [y_le (by omega) (by omega)]; omega), if_neg hz0, if_neg hz0, y_div hP (by omega) ha, y_div hA (by omega) ha]
      by_cases e : z = 0
      · rw [if_pos e, if_pos (show nI z = nI 0 by rw [e])]
      · rw [if_neg e, if_neg (show ¬ nI z = nI 0 by rw [y_eq (by omega) (by omega)]; exact e)]
    · rw [if_neg h0] at hne hlt hf
      rw [if_neg h0]
      have hz0 : ¬ nI b = nI 0 := by rw [y_eq (by omega) (by omega)]; exact h0
      rw [if_neg (show ¬ nI b ≤ nI 0 by rw [y_le (by omega) (by omega)]; omega), if_neg hz0, y_rem2 ha (by omega) hb]
      have hm : a % b < b := Nat.mod_lt _ (by omega)
      exact k_gcd o1 o2 o4 hz hA hP f b (a % b) _ hb (by omega) hf hne hlt
theorem y_odds : ∀ n, n < 7 → ∀ x, x < 11 → (10 ^ n < 2 ^ 31 ∧ (10 - x) ^ n ≤ 10 ^ n) ∧ y_euf 64 (10 ^ n - (10 - x) ^ n) (10 ^ n) = true ∧ y_eu 64 (10 ^ n - (10 - x) ^ n) (10 ^ n) = y_eu 64 (10 ^ n) (10 ^ n - (10 - x) ^ n) ∧ y_eu 64 (10 ^ n) (10 ^ n - (10 - x) ^ n) ≠ 0 ∧ y_eu 64 (10 ^ n) (10 ^ n - (10 - x) ^ n) < 2 ^ 31 := by decide +kernel
theorem c_odds57 {M : xM} (o1 o8 : Option Int32) {x z c : Nat} (hx : x < 11) (hz : z < 2) (hc : c < 7) : ∀ (n i : Nat), i + n = c → C_odds_57 o1 (nI x) (nI z) (nI (10 ^ i)) (nI ((10 - x) ^ i)) (nI c) (nI i) o8 M = some (nI (if z = 0 then (10 ^ c - (10 - x) ^ c) / y_eu 64 (10 ^ c) (10 ^ c - (10 - x) ^ c) else 10 ^ c / y_eu 64 (10 ^ c) (10 ^ c - (10 - x) ^ c)), M)
  | 0, i, h => by
    have hi : i = c := by omega
    subst hi
    obtain ⟨⟨q1, q2⟩, q3, q4, q5, q6⟩ := y_odds i hc x hx
    rw [C_odds_57_eq, if_pos (show nI i ≤ nI i by rw [y_le (by omega) (by omega)]; omega), y_sub q2, C_commonDivisor_eq, c_gcd _ _ 64 0 _ _ none (by omega) q1 (by omega) q5, Option.bind_some]
    have hz0 : ¬ nI (y_eu 64 (10 ^ i) (10 ^ i - (10 - x) ^ i)) = nI 0 := by rw [y_eq q6 (by omega)]; exact q5
    rw [if_neg hz0, if_neg hz0, y_div (by omega) (by omega) q6, y_div q1 (by omega) q6]
    by_cases e : z = 0
    · rw [if_pos e, if_pos (show nI z = nI 0 by rw [e])]
    · rw [if_neg e, if_neg (show ¬ nI z = nI 0 by rw [y_eq (by omega) (by omega)]; exact e)]
  | n + 1, i, h => by
    rw [C_odds_57_eq, if_neg (show ¬ nI c ≤ nI i by rw [y_le (by omega) (by omega)]; omega), y_sub (by omega), y_mul, y_mul, y_add, ← Nat.pow_succ, ← Nat.pow_succ]
    exact c_odds57 o1 o8 hx hz hc n (i + 1) (by omega)
theorem k_odds38 {M : xM} {w r : Nat} {pr me ta ki wa : Nat → Nat} (hKW : y_KW M w pr me ta) (hKR : y_KR M r ki wa) {ds : List Nat} (hds : y_no w ds) {j : Nat} (hj : j < 6) (hcode : M 45 (1 + j) = nI (y_cd ds)) (hr : y_who me ta ki wa ds r < 64) {x z c : Nat} (hx : x < 11) (hz : z < 2) (hc : y_ones (y_who me ta ki wa ds r) = c) : ∀ (n i : Nat) (o7 o8 o9 : Option Int32), i + n = c → K_odds_38 (nI j) (nI x) (nI z) (nI ((10 - x) ^ i)) (nI (10 ^ i)) (nI i) o7 o8 o9 M = some (nI (if z = 0 then (10 ^ c - (10 - x) ^ c) / y_eu 64 (10 ^ c) (10 ^ c - (10 - x) ^ c) else 10 ^ c / y_eu 64 (10 ^ c) (10 ^ c - (10 - x) ^ c)), M)
  | 0, i, o7, o8, o9, h => by
    have hi : i = c := by omega
    subst hi
    have hc7 := y_ones6 _ hr
    obtain ⟨⟨q1, q2⟩, q3, q4, q5, q6⟩ := y_odds i (by omega) x hx
    rw [K_odds_38_eq]
    simp only [y_add, y_in2 (show 1 + j < 15 by omega) (show 15 < 2 ^ 31 by decide), y_clamp (show 1 + j < 2 ^ 31 by omega), hcode, k_whoDoes hKW hKR hds, k_ones (show y_who me ta ki wa ds r < 1024 by omega), Option.bind_some, hc, y_sub q2]
    rw [if_pos (show nI i ≤ nI i by rw [y_le (by omega) (by omega)]; omega), k_gcd _ _ _ hz q1 (by omega) 64 _ _ _ (by omega) q1 q3 (by rw [q4]; exact q5) (by rw [q4]; exact q6), q4]
  | n + 1, i, o7, o8, o9, h => by
    have hc7 := y_ones6 _ hr
    rw [K_odds_38_eq]
    simp only [y_add, y_in2 (show 1 + j < 15 by omega) (show 15 < 2 ^ 31 by decide), y_clamp (show 1 + j < 2 ^ 31 by omega), hcode, k_whoDoes hKW hKR hds, k_ones (show y_who me ta ki wa ds r < 1024 by omega), Option.bind_some, hc, y_sub (show x ≤ 10 by omega), y_mul]
    rw [if_neg (show ¬ nI c ≤ nI i by rw [y_le (by omega) (by omega)]; omega), ← Nat.pow_succ, ← Nat.pow_succ]
    exact k_odds38 hKW hKR hds hj hcode hr hx hz hc n (i + 1) o7 o8 o9 (by omega)
theorem op_odds {M : xM} (h : y_Inv M) (x y z : Int32) : y_op (C_odds x y z) (K_odds x y z) M := by
  obtain ⟨w, pr, me, r, ki, wa, N, nt, tx, nc, ch, nk, kp, nh, th, hI⟩ := id h
  obtain ⟨⟨-, hCW, hCR, hKW, hKR⟩, hN, ⟨hn1, hn2, hn3⟩, ht, hc, hk, hh⟩ := id hI
  have hn6 := hN.1
  have hC := C_odds_eq x y z M
  rw [c_hasN (by omega) hn1, Option.bind_some, y_b0] at hC
  have hK := K_odds_eq x y z M
  rw [k_isNotice (by omega) hn3.1, Option.bind_some, y_b0] at hK
  by_cases hx : y_inb x N.1 = true
  · rw [if_pos hx] at hC hK
    rw [c_within0 (by decide), Option.bind_some, y_b0] at hC
    rw [k_in0 (by decide), Option.bind_some, y_b0] at hK
    by_cases hy : y_inb y (10 + 1) = true
    · rw [if_pos hy, c_either, Option.bind_some, y_b0] at hC
      rw [if_pos hy, k_in0 (by decide), Option.bind_some, y_b0] at hK
      by_cases hz : y_inb z 2 = true
      · rw [if_pos hz] at hC
        obtain ⟨j, hj, rfl⟩ := y_inb_t hx
        obtain ⟨b, hb, rfl⟩ := y_inb_t hy
        obtain ⟨v, hv, rfl⟩ := y_inb_t hz
        have hds := hN.2.1 j hj
        obtain ⟨M1, m1, m2, m3⟩ := c_measurep hCW hds
        have m4 : y_but y_scr M M1 := m3.mono (by decide)
        obtain ⟨⟨-, hCW1, hCR1, hKW1, hKR1⟩, -, ⟨hm1, hm2, hm3⟩, -⟩ := hI.scr m4
        have hr6 : r ≤ 6 := hCR1.1
        have hr : y_who me N.2.2 ki wa (N.2.1 j) r < 64 := Nat.lt_of_lt_of_le (y_who_lt _ _ _ _ _ r) (Nat.pow_le_pow_right (n := 2) (by decide) hr6)
        have hc7 := y_ones6 _ hr
        rw [y_in (show j < 6 by omega) (by decide)] at hC
        simp only [y_clamp (show j < 2 ^ 31 by omega), hn2 j hj, C_answerersOf_eq, m1, Option.bind_some, c_answ_r (fun j hj => (hCW1.2.2.2 j hj).2) hCR1 hds m2, j_bits hr] at hC
        have hcode : M1 45 (1 + j) = nI (y_cd (N.2.1 j)) := by
          have := hm3.2.1 j hj
          rwa [Nat.zero_add] at this
        have hK := K_odds_eq (nI j) (nI b) (nI v) M1
        rw [k_isNotice (by omega) hm3.1, Option.bind_some, y_b0, if_pos hx, k_in0 (by decide), Option.bind_some, y_b0, if_pos hy, k_in0 (by decide), Option.bind_some, y_b0, if_pos hz] at hK
        have a1 := c_odds57 (M := M1) (some (nI j)) none hb hv (show y_ones (y_who me N.2.2 ki wa (N.2.1 j) r) < 7 by omega) _ 0 (Nat.zero_add _)
        have a2 := k_odds38 hKW1 hKR1 hds (show j < 6 by omega) hcode hr hb hv rfl _ 0 none none none (Nat.zero_add _)
        exact y_op.ro h (hC.trans a1) (hK.trans a2) m4 y_but.rf
      · rw [if_neg hz] at hC hK
        exact y_op.same h hC hK
    · rw [if_neg hy] at hC hK
      exact y_op.same h hC hK
  · rw [if_neg hx] at hC hK
    exact y_op.same h hC hK
