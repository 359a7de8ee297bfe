/-! near, of all notices -/
def y_sm (f : Nat → Nat) : Nat → Nat
  | 0 => 0
  | n + 1 => y_sm f n + f n
/-- the bits of those that are told -/
def y_bs (p : Nat → Nat) : Nat → Nat
  | 0 => 0
  | n + 1 => y_bs p n ||| (if p n = 0 then 0 else 2 ^ n)
theorem y_bs_s (p : Nat → Nat) (n : Nat) : y_bs p (n + 1) = y_bs p n ||| (if p n = 0 then 0 else 2 ^ n) := rfl
theorem y_bs_lt (p : Nat → Nat) : ∀ n, y_bs p n < 2 ^ n
  | 0 => by show 0 < 1; decide
  | n + 1 => by
    have h := y_bs_lt p n
    have hp : 2 ^ n < 2 ^ (n + 1) := Nat.pow_lt_pow_right (by decide) (by omega)
    refine Nat.or_lt_two_pow (by omega) ?_
    split
    · exact Nat.two_pow_pos _
    · exact hp
theorem y_bs_ones {p : Nat → Nat} (h01 : ∀ j, p j = 0 ∨ p j = 1) : ∀ n, n ≤ 8 → y_ones (y_bs p n) = y_sm p n
  | 0, _ => (by decide : y_ones 0 = 0)
  | n + 1, h => by
    have hl := y_bs_lt p n
    have ih := y_bs_ones h01 n (by omega)
    have hp : 2 ^ n ≤ 2 ^ 7 := Nat.pow_le_pow_right (by decide) (by omega)
    rw [y_bs_s, y_sm]
    rcases h01 n with e | e
    · rw [if_pos e, Nat.or_zero, ih, e, Nat.add_zero]
    · rw [if_neg (by omega)]
      have h2 := y_on_or (y_bs p n) (by omega) n (by omega)
      rw [Nat.div_eq_of_lt hl] at h2
      omega
theorem y_sm_add (f g : Nat → Nat) : ∀ n, y_sm (fun k => f k + g k) n = y_sm f n + y_sm g n
  | 0 => rfl
  | n + 1 => by
    rw [y_sm, y_sm, y_sm, y_sm_add f g n]
    omega
theorem y_sm_ext {f g : Nat → Nat} : ∀ n, (∀ k, k < n → f k = g k) → y_sm f n = y_sm g n
  | 0, _ => rfl
  | n + 1, h => by rw [y_sm, y_sm, y_sm_ext n (fun k hk => h k (by omega)), h n (by omega)]
theorem y_sm_le {f : Nat → Nat} {b : Nat} : ∀ n, (∀ k, k < n → f k ≤ b) → y_sm f n ≤ b * n
  | 0, _ => Nat.zero_le _
  | n + 1, h => by
    have h1 := y_sm_le n (fun k hk => h k (by omega))
    have h2 := h n (by omega)
    rw [y_sm, Nat.mul_succ]
    omega
/-- pairs, each counted from both sides -/
theorem y_two {f : Nat → Nat → Nat} (hs : ∀ a b, f a b = f b a) (h0 : ∀ a, f a a = 0) : ∀ n, y_sm (fun k => y_sm (f k) n) n = 2 * y_sm (fun a => y_sm (f a) a) n
  | 0 => rfl
  | n + 1 => by
    have ih := y_two hs h0 n
    have e1 : y_sm (fun k => y_sm (f k) (n + 1)) n = y_sm (fun k => y_sm (f k) n) n + y_sm (f n) n := by
      rw [← y_sm_add]
      exact y_sm_ext n (fun k _ => by rw [y_sm, hs k n])
    rw [y_sm, e1, ih, y_sm, y_sm, h0 n]
    omega
theorem y_nr01 (ds es : List Nat) : y_nr ds es = 0 ∨ y_nr ds es = 1 := by
  unfold y_nr
  split
  · split
    · exact Or.inr rfl
    · exact Or.inl rfl
  · exact Or.inl rfl
def y_np (no : Nat → List Nat) (k j : Nat) : Nat := y_nr (no k) (no j)
theorem y_np01 (no : Nat → List Nat) (k j : Nat) : y_np no k j = 0 ∨ y_np no k j = 1 := y_nr01 _ _
theorem y_np_sym (no : Nat → List Nat) (k j : Nat) : y_np no k j = y_np no j k := y_nr_sym _ _
theorem y_np_self (no : Nat → List Nat) (k : Nat) : y_np no k k = 0 := y_nr_self _
theorem y_10 : (nI 1 = nI 0) = False := by simp; decide
section
variable {M : xM} {w : Nat} {pr me ta : Nat → Nat} {K : Nat} {no : Nat → List Nat}
theorem c_nt4 (hQ : y_CQ M w pr me ta K no) {k : Nat} (hk : k < K) : ∀ (n i : Nat), i + n = K → C_nearTo_4 (nI k) (nI (y_bs (y_np no k) i)) (nI i) M = some (nI (y_bs (y_np no k) K), M)
  | 0, i, h => by
    have hK := hQ.2.1
    rw [C_nearTo_4_eq, hQ.2.2.1, if_pos (by rw [y_le (by omega) (by omega)]; omega), show i = K by omega]
  | n + 1, i, h => by
    obtain ⟨hCW, hK, h3, hq⟩ := id hQ
    obtain ⟨hds, hcd⟩ := hq i (by omega)
    obtain ⟨hdk, hck⟩ := hq k hk
    have hs := y_bs_lt (y_np no k) i
    have hp : 2 ^ i ≤ 2 ^ 5 := Nat.pow_le_pow_right (by decide) (by omega)
    have ih := c_nt4 hQ hk n (i + 1) (by omega)
    have hN : C_isNear (nI (y_cd (no k))) (nI (y_cd (no i))) M = some (nI (y_np no k i), M) := c_isNear hCW.1 hdk hds
    rw [y_bs_s] at ih
    rw [C_nearTo_4_eq, h3, if_neg (by rw [y_le (by omega) (by omega)]; omega), y_in (show k < 6 by omega) (by decide), y_in (show i < 6 by omega) (by decide), y_clamp (show k < 2 ^ 31 by omega), y_clamp (show i < 2 ^ 31 by omega), hcd, hck, hN, Option.bind_some, y_bit_or6 _ (by omega) _ (by omega), y_add]
    rcases y_np01 no k i with e | e
    · rw [if_pos e, Nat.or_zero] at ih
      rw [e, if_pos (show nI 0 = nI 0 from rfl)]
      exact ih
    · rw [if_neg (by omega)] at ih
      rw [e, if_neg (show ¬ nI 1 = nI 0 by decide)]
      exact ih
theorem c_nearTo (hQ : y_CQ M w pr me ta K no) {k : Nat} (hk : k < K) : C_nearTo (nI k) M = some (nI (y_bs (y_np no k) K), M) := by
  rw [C_nearTo_eq]
  exact c_nt4 hQ hk K 0 (by omega)
theorem y_bs_64 {p : Nat → Nat} {n : Nat} (h : n ≤ 6) : y_bs p n < 64 := by
  have h1 := y_bs_lt p n
  have h2 : 2 ^ n ≤ 2 ^ 6 := Nat.pow_le_pow_right (by decide) h
  omega
theorem c_np4 (hQ : y_CQ M w pr me ta K no) : ∀ (n i : Nat), i + n = K → C_nearPairs_4 (nI (y_sm (fun k => y_sm (y_np no k) K) i)) (nI i) M = some (nI (y_sm (fun k => y_sm (y_np no k) K) K / 2), M)
  | 0, i, h => by
    have hK := hQ.2.1
    have hb := y_sm_le (f := fun k => y_sm (y_np no k) K) (b := 1 * K) K (fun k _ => y_sm_le K (fun j _ => by have := y_np01 no k j; omega))
    have hb2 : 1 * K * K ≤ 1 * 6 * 6 := Nat.mul_le_mul (Nat.mul_le_mul (Nat.le_refl _) hK) hK
    rw [C_nearPairs_4_eq, hQ.2.2.1, if_pos (by rw [y_le (by omega) (by omega)]; omega), show i = K by omega, y_div (by omega) (by decide) (by decide)]
  | n + 1, i, h => by
    have hK := hQ.2.1
    have ih := c_np4 hQ n (i + 1) (by omega)
    rw [C_nearPairs_4_eq, hQ.2.2.1, if_neg (by rw [y_le (by omega) (by omega)]; omega), c_nearTo hQ (by omega), Option.bind_some, j_bits (y_bs_64 hK), Option.bind_some, y_bs_ones (y_np01 no i) K (by omega), y_add, y_add]
    exact ih
theorem c_nearPairs (hQ : y_CQ M w pr me ta K no) : C_nearPairs M = some (nI (y_sm (fun a => y_sm (y_np no a) a) K), M) := by
  have h := c_np4 hQ K 0 (by omega)
  rw [C_nearPairs_eq]
  rw [y_two (y_np_sym no) (y_np_self no), show 2 * y_sm (fun a => y_sm (y_np no a) a) K / 2 = y_sm (fun a => y_sm (y_np no a) a) K by omega] at h
  exact h
/-- the reference's count -/
theorem k_np36 (hQ : y_KQ M w pr me ta K no) {a : Nat} (ha : a < K) : ∀ (n b c : Nat) (o : Option Int32), b + n = a → ∃ o5 o6, K_near_36 (-1) (nI 0) (nI (c + y_sm (y_np no a) b)) (nI a) (nI b) o M = K_near_22 (-1) (nI 0) (nI (c + y_sm (y_np no a) a)) (nI (a + 1)) o5 o6 M
  | 0, b, c, o, h => by
    have hK := hQ.2.1
    refine ⟨some (nI b), o, ?_⟩
    rw [K_near_36_eq, if_pos (by rw [y_le (by omega) (by omega)]; omega), y_add, show b = a by omega]
  | n + 1, b, c, o, h => by
    have hK := hQ.2.1
    have hN : K_isNear (nI a) (nI b) M = some (nI (y_np no a b), M) := k_isNear hQ ha (by omega)
    obtain ⟨o5, o6, ih⟩ := k_np36 hQ ha n (b + 1) c (some (nI (y_np no a b))) (by omega)
    refine ⟨o5, o6, ?_⟩
    rw [← ih, y_sm, ← Nat.add_assoc]
    have n1 : (nI a = -1) = False := by simp only [eq_iff_iff, iff_false]; exact y_ne_neg (by omega)
    have n2 : (nI b = -1) = False := by simp only [eq_iff_iff, iff_false]; exact y_ne_neg (by omega)
    rw [K_near_36_eq, if_neg (by rw [y_le (by omega) (by omega)]; omega), hN, Option.bind_some]
    rcases y_np01 no a b with e | e
    · simp only [e, if_true, y_or0, y_add]
    · simp only [e, y_10, if_false, n1, n2, y_or0, y_add]
theorem k_np22 (hQ : y_KQ M w pr me ta K no) : ∀ (n a : Nat) (o5 o6 : Option Int32), a + n = K → K_near_22 (-1) (nI 0) (nI (y_sm (fun a => y_sm (y_np no a) a) a)) (nI a) o5 o6 M = some (nI (y_sm (fun a => y_sm (y_np no a) a) K), M)
  | 0, a, o5, o6, h => by
    have hK := hQ.2.1
    rw [K_near_22_eq, hQ.2.2.1, if_pos (by rw [y_le (by omega) (by omega)]; omega), if_pos rfl, show a = K by omega]
  | n + 1, a, o5, o6, h => by
    have hK := hQ.2.1
    obtain ⟨p5, p6, e⟩ := k_np36 hQ (show a < K by omega) a 0 (y_sm (fun a => y_sm (y_np no a) a) a) o6 (by omega)
    rw [K_near_22_eq, hQ.2.2.1, if_neg (by rw [y_le (by omega) (by omega)]; omega)]
    rw [show y_sm (fun a => y_sm (y_np no a) a) a + y_sm (y_np no a) 0 = y_sm (fun a => y_sm (y_np no a) a) a from rfl] at e
    rw [e]
    exact k_np22 hQ n (a + 1) p5 p6 (by omega)
/-- the reference's set, on the way -/
def y_ni (p : Nat → Nat) (k a b : Nat) : Nat := if a < k then 0 else if a = k then y_bs p b else if b ≤ k then y_bs p a else y_bs p (a + 1)
theorem y_ni_lt (p : Nat → Nat) {k a b : Nat} (ha : a < 6) (hb : b ≤ 6) : y_ni p k a b < 64 := by
  unfold y_ni
  split
  · decide
  · split
    · exact y_bs_64 hb
    · split
      · exact y_bs_64 (by omega)
      · exact y_bs_64 (by omega)
theorem y_ni_next {p : Nat → Nat} {k a : Nat} (h0 : p k = 0) : y_ni p k a a = y_ni p k (a + 1) 0 := by
  unfold y_ni
  by_cases h1 : a < k
  · rw [if_pos h1]
    by_cases h2 : a + 1 < k
    · rw [if_pos h2]
    · rw [if_neg h2, if_pos (by omega)]
      rfl
  · rw [if_neg h1, if_neg (show ¬ a + 1 < k by omega), if_neg (show ¬ a + 1 = k by omega), if_pos (show 0 ≤ k by omega)]
    by_cases h2 : a = k
    · rw [if_pos h2, y_bs_s, h2, if_pos h0, Nat.or_zero]
    · rw [if_neg h2, if_neg (by omega)]
theorem y_ni_step {p : Nat → Nat} {k a b : Nat} (hb : b < a) {q : Nat} (hq : (a = k → q = p b) ∧ (b = k → q = p a)) : y_ni p k a (b + 1) = (y_ni p k a b ||| (if q = 0 then 0 else if a = k then 2 ^ b else 0)) ||| (if q = 0 then 0 else if b = k then 2 ^ a else 0) := by
  unfold y_ni
  by_cases h1 : a < k
  · rw [if_pos h1, if_pos h1, if_neg (show ¬ a = k by omega), if_neg (show ¬ b = k by omega)]
    simp
  · rw [if_neg h1, if_neg h1]
    by_cases h2 : a = k
    · rw [if_pos h2, if_pos h2, if_pos h2, if_neg (show ¬ b = k by omega), y_bs_s, hq.1 h2]
      simp
    · rw [if_neg h2, if_neg h2, if_neg h2]
      by_cases h3 : b = k
      · rw [if_neg (by omega), if_pos (by omega), if_pos h3, y_bs_s, hq.2 h3]
        simp
      · rw [if_neg h3]
        by_cases h4 : b + 1 ≤ k
        · rw [if_pos h4, if_pos (by omega)]
          simp
        · rw [if_neg h4, if_neg (by omega)]
          simp
theorem k_ns36 (hQ : y_KQ M w pr me ta K no) {k a : Nat} (hk : k < K) (ha : a < K) : ∀ (n b : Nat) (x3 : Int32) (o : Option Int32), b + n = a → ∃ x3' o5 o6, K_near_36 (nI k) (nI (y_ni (y_np no k) k a b)) x3 (nI a) (nI b) o M = K_near_22 (nI k) (nI (y_ni (y_np no k) k a a)) x3' (nI (a + 1)) o5 o6 M
  | 0, b, x3, o, h => by
    have hK := hQ.2.1
    refine ⟨x3, some (nI b), o, ?_⟩
    rw [K_near_36_eq, if_pos (by rw [y_le (by omega) (by omega)]; omega), y_add, show b = a by omega]
  | n + 1, b, x3, o, h => by
    have hK := hQ.2.1
    have hN : K_isNear (nI a) (nI b) M = some (nI (y_np no a b), M) := k_isNear hQ ha (by omega)
    have hst := y_ni_step (p := y_np no k) (k := k) (a := a) (b := b) (by omega) (q := y_np no a b) ⟨fun e => by rw [e], fun e => by rw [e, y_np_sym]⟩
    have hl := y_ni_lt (y_np no k) (k := k) (a := a) (b := b) (by omega) (by omega)
    rw [K_near_36_eq, if_neg (by rw [y_le (by omega) (by omega)]; omega), hN, Option.bind_some]
    simp only [y_eq (show a < 2 ^ 31 by omega) (show k < 2 ^ 31 by omega), y_eq (show b < 2 ^ 31 by omega) (show k < 2 ^ 31 by omega)]
    rcases y_np01 no a b with e | e
    · rw [e, if_pos rfl, if_pos rfl, Nat.or_zero, Nat.or_zero] at hst
      simp only [e, if_true, y_or0, y_add]
      rw [← hst]
      exact k_ns36 hQ hk ha n (b + 1) _ _ (by omega)
    · rw [e, if_neg (show ¬ 1 = 0 by decide), if_neg (show ¬ 1 = 0 by decide)] at hst
      simp only [e, y_10, if_false, y_or0, y_add]
      by_cases h1 : a = k
      · rw [if_pos h1, if_neg (show ¬ b = k by omega), Nat.or_zero] at hst
        simp only [if_pos h1, if_neg (show ¬ b = k by omega), y_or0, y_bit_or6 _ hl b (by omega)]
        rw [← hst]
        exact k_ns36 hQ hk ha n (b + 1) _ _ (by omega)
      · rw [if_neg h1, Nat.or_zero] at hst
        by_cases h2 : b = k
        · rw [if_pos h2] at hst
          simp only [if_neg h1, if_pos h2, y_or0, y_bit_or6 _ hl a (by omega)]
          rw [← hst]
          exact k_ns36 hQ hk ha n (b + 1) _ _ (by omega)
        · rw [if_neg h2, Nat.or_zero] at hst
          simp only [if_neg h1, if_neg h2, y_or0]
          rw [← hst]
          exact k_ns36 hQ hk ha n (b + 1) _ _ (by omega)
theorem k_ns22 (hQ : y_KQ M w pr me ta K no) {k : Nat} (hk : k < K) : ∀ (n a : Nat) (x3 : Int32) (o5 o6 : Option Int32), a + n = K → K_near_22 (nI k) (nI (y_ni (y_np no k) k a 0)) x3 (nI a) o5 o6 M = some (nI (y_bs (y_np no k) K), M)
  | 0, a, x3, o5, o6, h => by
    have hK := hQ.2.1
    rw [K_near_22_eq, hQ.2.2.1, if_pos (by rw [y_le (by omega) (by omega)]; omega), if_neg (y_ne_neg (by omega)), show a = K by omega]
    unfold y_ni
    rw [if_neg (by omega), if_neg (by omega), if_pos (by omega)]
  | n + 1, a, x3, o5, o6, h => by
    have hK := hQ.2.1
    obtain ⟨y3, p5, p6, e⟩ := k_ns36 hQ hk (show a < K by omega) a 0 x3 o6 (by omega)
    rw [K_near_22_eq, hQ.2.2.1, if_neg (by rw [y_le (by omega) (by omega)]; omega), e, y_ni_next (y_np_self no k)]
    exact k_ns22 hQ hk n (a + 1) y3 p5 p6 (by omega)
end
theorem op_near {M : xM} (h : y_Inv M) (x : Int32) : y_op (C_near x) (K_near x) M := by
  obtain ⟨w, pr, me, r, ki, wa, N, nt, tx, nc, ch, nk, kp, nh, th, hI⟩ := id h
  obtain ⟨hQ, hQ2⟩ := hI.CQ
  have hK := hQ.2.1
  have hC := C_near_eq x M
  have hKK := K_near_eq x M
  by_cases hx : x = -1
  · subst hx
    rw [if_pos rfl, c_nearPairs hQ, Option.bind_some] at hC
    have e := k_np22 hQ2 N.1 0 none none (by omega)
    rw [if_pos rfl] at hKK
    exact y_op.same h hC (hKK.trans e)
  · rw [if_neg hx, c_hasN (by omega) hQ.2.2.1, Option.bind_some, y_b0] at hC
    rw [if_neg hx, k_isNotice (by omega) hQ2.2.2.1, Option.bind_some, y_b0] at hKK
    by_cases hi : y_inb x N.1 = true
    · rw [if_pos hi] at hC hKK
      obtain ⟨k, hk, rfl⟩ := y_inb_t hi
      rw [c_nearTo hQ hk, Option.bind_some] at hC
      have e := k_ns22 hQ2 hk N.1 0 (nI 0) none none (by omega)
      have e0 : y_ni (y_np N.2.1 k) k 0 0 = 0 := by
        unfold y_ni
        split
        · rfl
        · rw [if_pos (by omega)]
          rfl
      rw [e0] at e
      exact y_op.same h hC (hKK.trans e)
    · rw [if_neg hi] at hC hKK
      exact y_op.same h hC hKK
