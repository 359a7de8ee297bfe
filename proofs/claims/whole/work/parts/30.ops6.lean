/-! keep, undo, back -/
theorem k_kp13 : ∀ (n i : Nat) (M : xM) (c : Nat), i + n = 15 → c < 2 → M 40 9 = nI c → ∃ M', K_keep_13 (nI i) M = some (nI (c + 1), M') ∧ (∀ q, M' 47 q = if 15 * c + i ≤ q ∧ q < 15 * c + 15 then M 45 (q - 15 * c) else M 47 q) ∧ M' 40 9 = nI (c + 1) ∧ (∀ j, j ≠ 9 → M' 40 j = M 40 j) ∧ y_but [40, 47] M M'
  | 0, i, M, c, h, hc, h7 => by
    rw [K_keep_13_eq, if_pos (by rw [y_le (by omega) (by omega)]; omega), h7, y_add]
    refine ⟨_, rfl, fun q => ?_, ?_, fun j hj => ?_, y_but.rf.up (by simp)⟩
    · rw [if_neg (by omega)]; rfl
    · simp only [y_up_at]; simp
    · simp only [y_up_at]; simp [hj]
  | n + 1, i, M, c, h, hc, h7 => by
    rw [K_keep_13_eq, if_neg (by rw [y_le (by omega) (by omega)]; omega), y_in (show i < 15 by omega) (by decide), h7, y_mul, y_add, y_in (show 15 * c + i < 30 by omega) (by decide), y_add, y_clamp (by omega), y_clamp (by omega)]
    obtain ⟨M', a1, a2, a3, a4, a5⟩ := k_kp13 n (i + 1) (x_up M 47 (15 * c + i) (M 45 i)) c (by omega) hc h7
    refine ⟨M', a1, fun q => ?_, a3, fun j hj => by rw [a4 j hj]; rfl, (y_but.rf.up (by simp)).tr a5⟩
    rw [a2]
    simp only [y_up_at]
    simp
    by_cases e : q = 15 * c + i
    · rw [if_neg (by omega), if_pos e, if_pos (by omega), e, show 15 * c + i - 15 * c = i by omega]
    · by_cases e2 : 15 * c + (i + 1) ≤ q ∧ q < 15 * c + 15
      · rw [if_pos e2, if_pos (by omega)]
      · rw [if_neg e2, if_neg e, if_neg (by omega)]
theorem op_keep {M : xM} (h : y_Inv M) : y_op C_keep K_keep M := by
  obtain ⟨w, pr, me, r, ki, wa, N, nt, tx, nc, ch, nk, kp, nh, th, hI⟩ := id h
  obtain ⟨hp, hN, hn, ht, hc, hk, hh⟩ := id hI
  obtain ⟨hw1, hCW, hCR, hKW, hKR⟩ := id hp
  obtain ⟨hn1, hn2, hn3⟩ := id hn
  obtain ⟨g1, g2, g3, g4, g5⟩ := id hk
  have hw := hCW.1
  have hC := C_keep_eq M
  by_cases h2 : nk = 2
  · have hK := K_keep_eq M
    rw [if_pos (by rw [g4, h2])] at hK
    rw [S_push_k_p_eq, g2, g3, h2, if_neg (by decide), Option.bind_some, if_pos (show nI 0 = nI 0 from rfl)] at hC
    exact y_op.same h hC hK
  · obtain ⟨M1, b1, b2, b3, b4, b5⟩ := s_push_k (M := M) (c := nk) (by omega) g2 g3
    rw [b1, Option.bind_some, if_neg (show ¬ nI 1 = nI 0 by decide)] at hC
    have q3 : ∀ a, a ≠ 19 → a ≠ 20 → M1 a = M a := fun a h1 h2 => b5 a (by simp; omega)
    obtain ⟨M2, d1, d2, d3, d4, d5⟩ := k_kp13 15 0 M1 nk (by omega) (by omega) (by rw [q3 40 (by decide) (by decide)]; exact g4)
    have q2 : ∀ a, a ≠ 40 → a ≠ 47 → M2 a = M1 a := fun a h1 h2 => d5 a (by simp; omega)
    have hK := K_keep_eq M1
    rw [q3 40 (by decide) (by decide), g4, if_neg (by rw [y_eq (by omega) (by omega)]; exact h2), d1] at hK
    have hrow : y_rC (M1 20) (15 * nk) w N := y_rC_of (M := M) hw hN.1 (fun j hj => (hCW.2.2.1 j hj).2.2) hn2 hn1 (fun i => by
      rw [b2]
      by_cases e1 : i = 15 * nk + 14
      · simp [e1]
      · by_cases e2 : 15 * nk + 8 ≤ i ∧ i < 15 * nk + 14
        · simp [e1, e2]
        · by_cases e3 : 15 * nk ≤ i ∧ i < 15 * nk + 8
          · simp [e1, e2, e3]
          · simp [e1, e2, e3])
    have hrow2 : y_rK (M2 47) (15 * nk) w N := hn3.move hw hN.1 (fun i hi => by rw [d2, if_pos (by omega), q3 45 (by decide) (by decide), Nat.zero_add, show 15 * nk + i - 15 * nk = i by omega])
    have q : ∀ a, a ≠ 40 → a ≠ 47 → a ≠ 19 → a ≠ 20 → M2 a = M a := fun a h1 h2 h3 h4 => (q2 a h1 h2).trans (q3 a h3 h4)
    have q40 : ∀ j, j ≠ 9 → M2 40 j = M 40 j := fun j hj => by rw [d4 j hj, q3 40 (by decide) (by decide)]
    refine ⟨nI (nk + 1), M1, M2, by rw [hC]; show some (M1 19 2, M1) = _; rw [b3], hK, ⟨w, pr, me, r, ki, wa, N, nt, tx, nc, ch, nk + 1, fun t => if t = nk then N else kp t, nh, th, ⟨?_, hN, ?_, ?_, ?_, ⟨by omega, ?_, ?_, d3, fun t ht => ?_⟩, ?_⟩⟩, q 98 (by decide) (by decide) (by decide) (by decide), q 99 (by decide) (by decide) (by decide) (by decide)⟩
    · have e3 := q 3 (by decide) (by decide) (by decide) (by decide)
      exact hp.keep (by rw [e3]) (by rw [e3]) (q _ (by decide) (by decide) (by decide) (by decide)) (q _ (by decide) (by decide) (by decide) (by decide)) (q _ (by decide) (by decide) (by decide) (by decide)) (q _ (by decide) (by decide) (by decide) (by decide)) (q _ (by decide) (by decide) (by decide) (by decide)) (q _ (by decide) (by decide) (by decide) (by decide)) (q _ (by decide) (by decide) (by decide) (by decide))
    · have e3 := q 3 (by decide) (by decide) (by decide) (by decide)
      exact hn.keep (by rw [e3]) (q _ (by decide) (by decide) (by decide) (by decide)) (q _ (by decide) (by decide) (by decide) (by decide))
    · exact ht.keep (q _ (by decide) (by decide) (by decide) (by decide)) (q _ (by decide) (by decide) (by decide) (by decide)) (q _ (by decide) (by decide) (by decide) (by decide)) (q40 1 (by decide))
    · exact hc.keep (q _ (by decide) (by decide) (by decide) (by decide)) (q _ (by decide) (by decide) (by decide) (by decide)) (q _ (by decide) (by decide) (by decide) (by decide)) (q40 7 (by decide))
    · rw [q2 19 (by decide) (by decide)]; exact b4
    · rw [q2 19 (by decide) (by decide)]; exact b3
    · show y_Nok w (if t = nk then N else kp t) ∧ y_rC (M2 20) (15 * t) w (if t = nk then N else kp t) ∧ y_rK (M2 47) (15 * t) w (if t = nk then N else kp t)
      by_cases e : t = nk
      · subst e
        rw [if_pos rfl, q2 20 (by decide) (by decide)]
        exact ⟨hN, hrow, hrow2⟩
      · rw [if_neg e]
        obtain ⟨k1, k2, k3⟩ := g5 t (by omega)
        refine ⟨k1, ?_, ?_⟩
        · rw [q2 20 (by decide) (by decide)]
          exact k2.move hw k1.1 (fun i hi => by rw [b2, if_neg (by omega), if_neg (by omega), if_neg (by omega)])
        · exact k3.move hw k1.1 (fun i hi => by rw [d2, if_neg (by omega), q3 47 (by decide) (by decide)])
    · exact hh.keep (q _ (by decide) (by decide) (by decide) (by decide)) (q _ (by decide) (by decide) (by decide) (by decide)) (q _ (by decide) (by decide) (by decide) (by decide)) (q _ (by decide) (by decide) (by decide) (by decide)) (q _ (by decide) (by decide) (by decide) (by decide)) (q40 11 (by decide))
theorem k_un22 : ∀ (n i : Nat) (M : xM) (c : Nat), i + n = 15 → c < 8 → M 40 7 = nI c → ∃ M', K_undo_22 (nI i) M = some (nI c, M') ∧ (∀ q, M' 45 q = if i ≤ q ∧ q < 15 then M 46 (15 * c + q) else M 45 q) ∧ y_but [45] M M'
  | 0, i, M, c, h, hc, h7 => by
    rw [K_undo_22_eq, if_pos (by rw [y_le (by omega) (by omega)]; omega), h7]
    exact ⟨_, rfl, fun q => by rw [if_neg (by omega)], y_but.rf⟩
  | n + 1, i, M, c, h, hc, h7 => by
    rw [K_undo_22_eq, if_neg (by rw [y_le (by omega) (by omega)]; omega), h7, y_mul, y_add, y_in (show 15 * c + i < 120 by omega) (by decide), y_in (show i < 15 by omega) (by decide), y_add, y_clamp (by omega), y_clamp (by omega)]
    obtain ⟨M', a1, a2, a3⟩ := k_un22 n (i + 1) (x_up M 45 i (M 46 (15 * c + i))) c (by omega) hc h7
    refine ⟨M', a1, fun q => ?_, (y_but.rf.up (by simp)).tr a3⟩
    rw [a2]
    simp only [y_up_at]
    simp
    by_cases e : q = i
    · rw [if_neg (by omega), if_pos e, if_pos (by omega), e]
    · by_cases e2 : i + 1 ≤ q ∧ q < 15
      · rw [if_pos e2, if_pos (by omega)]
      · rw [if_neg e2, if_neg e, if_neg (by omega)]
theorem k_bk22 : ∀ (n i : Nat) (M : xM) (c : Nat), i + n = 15 → c < 2 → M 40 9 = nI c → ∃ M', K_back_22 (nI i) M = some (nI c, M') ∧ (∀ q, M' 45 q = if i ≤ q ∧ q < 15 then M 47 (15 * c + q) else M 45 q) ∧ M' 40 7 = nI 0 ∧ (∀ j, j ≠ 7 → M' 40 j = M 40 j) ∧ y_but [40, 45] M M'
  | 0, i, M, c, h, hc, h7 => by
    rw [K_back_22_eq, if_pos (by rw [y_le (by omega) (by omega)]; omega), h7]
    refine ⟨_, rfl, fun q => by rw [if_neg (by omega)]; rfl, ?_, fun j hj => ?_, y_but.rf.up (by simp)⟩
    · simp only [y_up_at]; simp
    · simp only [y_up_at]; simp [hj]
  | n + 1, i, M, c, h, hc, h7 => by
    rw [K_back_22_eq, if_neg (by rw [y_le (by omega) (by omega)]; omega), h7, y_mul, y_add, y_in (show 15 * c + i < 30 by omega) (by decide), y_in (show i < 15 by omega) (by decide), y_add, y_clamp (by omega), y_clamp (by omega)]
    obtain ⟨M', a1, a2, a3, a4, a5⟩ := k_bk22 n (i + 1) (x_up M 45 i (M 47 (15 * c + i))) c (by omega) hc h7
    refine ⟨M', a1, fun q => ?_, a3, fun j hj => by rw [a4 j hj]; rfl, (y_but.rf.up (by simp)).tr a5⟩
    rw [a2]
    simp only [y_up_at]
    simp
    by_cases e : q = i
    · rw [if_neg (by omega), if_pos e, if_pos (by omega), e]
    · by_cases e2 : i + 1 ≤ q ∧ q < 15
      · rw [if_pos e2, if_pos (by omega)]
      · rw [if_neg e2, if_neg e, if_neg (by omega)]
/-- the state out of rows given back -/
theorem y_given {M M' : xM} {w : Nat} {pr me ta : Nat → Nat} {r : Nat} {ki wa : Nat → Nat} {N : yN} {f g : Nat → Int32} {b : Nat} (hp : y_pap M w pr me ta r ki wa) (hN : y_Nok w N) (hC : y_rC f b w N) (hK : y_rK g b w N)
    (h6 : ∀ j, j < 8 → M' 6 j = f (b + j)) (h9 : ∀ j, j < 6 → M' 9 j = f (b + 8 + j)) (h38 : M' 3 8 = f (b + 14)) (h36 : M' 3 6 = M 3 6) (h37 : M' 3 7 = M 3 7) (h4 : M' 4 = M 4) (h5 : M' 5 = M 5) (h7 : M' 7 = M 7) (h8 : M' 8 = M 8) (h42 : M' 42 = M 42) (h45 : ∀ q, q < 15 → M' 45 q = g (b + q)) : y_pap M' w pr me N.2.2 r ki wa ∧ y_now M' w N := by
  obtain ⟨hw1, hCW, hCR, hKW, hKR⟩ := hp
  have hw := hCW.1
  have hn6 := hN.1
  refine ⟨⟨hw1, ⟨hw, by rw [h36]; exact hCW.2.1, fun i hi => ?_, fun i hi => ⟨(hCW.2.2.2 i hi).1, (hCW.2.2.2 i hi).2.1, hN.2.2 i hi⟩⟩, ?_, ⟨hw, by rw [h42]; exact hKW.2.1, fun i hi => ?_, fun i hi => ⟨(hKW.2.2.2 i hi).1, (hKW.2.2.2 i hi).2.1, hN.2.2 i hi⟩⟩, ?_⟩, ⟨by rw [h38]; exact hC.2.2, fun k hk => by rw [h9 k (by omega)]; exact hC.2.1 k hk, ?_⟩⟩
  · obtain ⟨v1, v2, v3⟩ := hCW.2.2.1 i hi
    rw [h4, h5, h6 i (by omega)]
    exact ⟨v1, v2, hC.1 i hi⟩
  · unfold y_CRp at hCR ⊢; rw [h37, h7, h8]; exact hCR
  · obtain ⟨v1, v2, v3⟩ := hKW.2.2.1 i hi
    rw [h42, h45 (7 + i) (by omega), ← Nat.add_assoc]
    exact ⟨v1, v2, hK.2.2 i hi⟩
  · unfold y_KR at hKR ⊢; rw [h42]; exact hKR
  · exact hK.move hw hn6 (fun i hi => by rw [Nat.zero_add]; exact h45 i hi)
