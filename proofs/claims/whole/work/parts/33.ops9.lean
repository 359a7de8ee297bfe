/-! twofold, moods -/
/-- words and notices, by the class -/
def y_CQ (M : xM) (w : Nat) (pr me ta : Nat → Nat) (K : Nat) (no : Nat → List Nat) : Prop := y_CWp M w pr me ta ∧ K ≤ 6 ∧ M 3 8 = nI K ∧ ∀ k, k < K → y_no w (no k) ∧ M 9 k = nI (y_cd (no k))
theorem y_CQ.keep {M M' : xM} {w : Nat} {pr me ta : Nat → Nat} {K : Nat} {no : Nat → List Nat} (h : y_CQ M w pr me ta K no) (hb : y_but [25] M M') : y_CQ M' w pr me ta K no := by
  obtain ⟨h1, h2, h3, h4⟩ := h
  refine ⟨h1.keep (hb _ (by decide)) (hb _ (by decide)) (hb _ (by decide)) (hb _ (by decide)), h2, by rw [hb 3 (by decide)]; exact h3, fun k hk => by rw [hb 9 (by decide)]; exact h4 k hk⟩
/-- words and notices, by the reference -/
def y_KQ (M : xM) (w : Nat) (pr me ta : Nat → Nat) (K : Nat) (no : Nat → List Nat) : Prop := y_KW M w pr me ta ∧ K ≤ 6 ∧ M 45 0 = nI K ∧ ∀ k, k < K → y_no w (no k) ∧ M 45 (1 + k) = nI (y_cd (no k))
theorem y_I.CQ {M : xM} {w : Nat} {pr me : Nat → Nat} {r : Nat} {ki wa : Nat → Nat} {N : yN} {nt : Nat} {tx : Nat → Nat} {nc : Nat} {ch : Nat → yN} {nk : Nat} {kp : Nat → yN} {nh : Nat} {th : Nat → Nat × List Nat × Nat} (h : y_I M w pr me r ki wa N nt tx nc ch nk kp nh th) : y_CQ M w pr me N.2.2 N.1 N.2.1 ∧ y_KQ M w pr me N.2.2 N.1 N.2.1 := by
  obtain ⟨⟨-, hCW, hCR, hKW, hKR⟩, hN, ⟨hn1, hn2, hn3⟩, -⟩ := h
  exact ⟨⟨hCW, hN.1, hn1, fun k hk => ⟨hN.2.1 k hk, hn2 k hk⟩⟩, ⟨hKW, hN.1, hn3.1, fun k hk => ⟨hN.2.1 k hk, by have := hn3.2.1 k hk; rwa [Nat.zero_add] at this⟩⟩⟩
def y_tw (me ta : Nat → Nat) (no : Nat → List Nat) : Nat → Nat
  | 0 => 0
  | n + 1 => y_tw me ta no n ||| (if y_read me ta 0 (no n) = y_read me ta 1 (no n) then 0 else 2 ^ n)
theorem y_tw_lt (me ta : Nat → Nat) (no : Nat → List Nat) : ∀ n, y_tw me ta no n < 2 ^ n
  | 0 => by show 0 < 1; decide
  | n + 1 => by
    have h := y_tw_lt me ta no n
    have hp : 2 ^ n < 2 ^ (n + 1) := Nat.pow_lt_pow_right (by decide) (by omega)
    refine Nat.or_lt_two_pow (by omega) ?_
    split
    · exact Nat.two_pow_pos _
    · exact hp
theorem c_tw4 {w : Nat} {pr me ta : Nat → Nat} {K : Nat} {no : Nat → List Nat} : ∀ (n i : Nat) (M : xM), i + n = K → y_CQ M w pr me ta K no → ∃ M', C_twofold_4 (nI (y_tw me ta no i)) (nI i) M = some (nI (y_tw me ta no K), M') ∧ y_but [25] M M'
  | 0, i, M, h, hQ => by
    have hK := hQ.2.1
    refine ⟨M, ?_, y_but.rf⟩
    rw [C_twofold_4_eq, hQ.2.2.1, if_pos (by rw [y_le (by omega) (by omega)]; omega), show i = K by omega]
  | n + 1, i, M, h, hQ => by
    obtain ⟨hCW, hK, h3, hk⟩ := id hQ
    obtain ⟨hds, hcd⟩ := hk i (by omega)
    obtain ⟨M1, m1, m2, m3⟩ := c_measurep hCW hds
    have hCW1 := (hQ.keep m3).1
    have hs := y_tw_lt me ta no i
    have hp : 2 ^ i ≤ 2 ^ 5 := Nat.pow_le_pow_right (by decide) (by omega)
    have hb := fun j hj => (hCW1.2.2.2 j hj).2
    have l0 := y_read_lt me ta 0 (no i)
    have l1 := y_read_lt me ta 1 (no i)
    obtain ⟨M', a1, a2⟩ := c_tw4 n (i + 1) M1 (by omega) (hQ.keep m3)
    refine ⟨M', ?_, m3.tr a2⟩
    rw [C_twofold_4_eq, h3, if_neg (by rw [y_le (by omega) (by omega)]; omega), y_in (show i < 6 by omega) (by decide), y_clamp (by omega), hcd, m1, Option.bind_some, c_byKind_r hb hds m2 (by decide), Option.bind_some, c_byKind_r hb hds m2 (by decide), Option.bind_some, y_bit_or6 _ (by omega) _ (by omega), y_add]
    rw [show y_tw me ta no (i + 1) = y_tw me ta no i ||| (if y_read me ta 0 (no i) = y_read me ta 1 (no i) then 0 else 2 ^ i) from rfl] at a1
    by_cases e : y_read me ta 0 (no i) = y_read me ta 1 (no i)
    · rw [if_pos e, Nat.or_zero] at a1
      rw [if_pos (show nI (y_read me ta 0 (no i)) = nI (y_read me ta 1 (no i)) by rw [e])]
      exact a1
    · rw [if_neg e] at a1
      rw [if_neg (show ¬ nI (y_read me ta 0 (no i)) = nI (y_read me ta 1 (no i)) by rw [y_eq (by omega) (by omega)]; exact e)]
      exact a1
theorem k_tw4 {M : xM} {w : Nat} {pr me ta : Nat → Nat} {K : Nat} {no : Nat → List Nat} (hQ : y_KQ M w pr me ta K no) : ∀ (n i : Nat), i + n = K → K_twofold_4 (nI (y_tw me ta no i)) (nI i) M = some (nI (y_tw me ta no K), M)
  | 0, i, h => by
    have hK := hQ.2.1
    rw [K_twofold_4_eq, hQ.2.2.1, if_pos (by rw [y_le (by omega) (by omega)]; omega), show i = K by omega]
  | n + 1, i, h => by
    obtain ⟨hKW, hK, h0, hk⟩ := id hQ
    obtain ⟨hds, hcd⟩ := hk i (by omega)
    have hs := y_tw_lt me ta no i
    have hp : 2 ^ i ≤ 2 ^ 5 := Nat.pow_le_pow_right (by decide) (by omega)
    have l0 := y_read_lt me ta 0 (no i)
    have l1 := y_read_lt me ta 1 (no i)
    have ih := k_tw4 hQ n (i + 1) (by omega)
    rw [show y_tw me ta no (i + 1) = y_tw me ta no i ||| (if y_read me ta 0 (no i) = y_read me ta 1 (no i) then 0 else 2 ^ i) from rfl] at ih
    rw [K_twofold_4_eq, h0, if_neg (by rw [y_le (by omega) (by omega)]; omega)]
    simp only [y_add, y_in2 (show 1 + i < 15 by omega) (show 15 < 2 ^ 31 by decide), y_clamp (show 1 + i < 2 ^ 31 by omega), hcd, k_readBy hKW hds (show 0 ≤ 3 by decide), k_readBy hKW hds (show 1 ≤ 3 by decide), Option.bind_some, y_or0, y_bit_or6 _ (show y_tw me ta no i < 64 by omega) _ (show i < 6 by omega), y_eq (show y_read me ta 0 (no i) < 2 ^ 31 by omega) (show y_read me ta 1 (no i) < 2 ^ 31 by omega)]
    by_cases e : y_read me ta 0 (no i) = y_read me ta 1 (no i)
    · rw [if_pos e, Nat.or_zero] at ih
      rw [if_pos e]
      exact ih
    · rw [if_neg e] at ih
      rw [if_neg e]
      exact ih
theorem op_twofold {M : xM} (h : y_Inv M) : y_op C_twofold K_twofold M := by
  obtain ⟨w, pr, me, r, ki, wa, N, nt, tx, nc, ch, nk, kp, nh, th, hI⟩ := id h
  obtain ⟨M1, a1, a2⟩ := c_tw4 N.1 0 M (by omega) hI.CQ.1
  have a3 : y_but y_scr M M1 := a2.mono (by decide)
  have a4 := k_tw4 (hI.scr a3).CQ.2 N.1 0 (by omega)
  exact y_op.ro h (by rw [C_twofold_eq]; exact a1) (by rw [K_twofold_eq]; exact a4) a3 y_but.rf
