/-! take -/
theorem c_rm13 (o : Option Int32) : ∀ (n i : Nat) (M : xM) (K : Nat), i + n = K → 1 ≤ i → K ≤ 6 → M 3 8 = nI K → ∃ M', P_removeNotice_p_13 o (nI i) M = some (nI 0, M') ∧ (∀ q, M' 9 q = if i ≤ q + 1 ∧ q + 1 < K then M 9 (q + 1) else M 9 q) ∧ M' 3 8 = nI (K - 1) ∧ (∀ j, j ≠ 8 → M' 3 j = M 3 j) ∧ y_but [3, 9] M M'
  | 0, i, M, K, h, h1, hK, h8 => by
    rw [P_removeNotice_p_13_eq, h8, if_pos (by rw [y_le (by omega) (by omega)]; omega), y_sub (by omega)]
    refine ⟨_, rfl, fun q => ?_, ?_, fun j hj => ?_, y_but.rf.up (by simp)⟩
    · rw [if_neg (by omega)]; rfl
    · simp only [y_up_at]; simp
    · simp only [y_up_at]; simp [hj]
  | n + 1, i, M, K, h, h1, hK, h8 => by
    rw [P_removeNotice_p_13_eq, h8, if_neg (by rw [y_le (by omega) (by omega)]; omega), y_in (show i < 6 by omega) (by decide), y_sub h1, y_in (show i - 1 < 6 by omega) (by decide), y_add, y_clamp (by omega), y_clamp (by omega)]
    obtain ⟨M', a1, a2, a3, a4, a5⟩ := c_rm13 o n (i + 1) (x_up M 9 (i - 1) (M 9 i)) K (by omega) (by omega) hK h8
    refine ⟨M', a1, fun q => ?_, a3, fun j hj => by rw [a4 j hj]; rfl, (y_but.rf.up (by simp)).tr a5⟩
    rw [a2]
    simp only [y_up_at]
    simp
    by_cases e : q + 1 = i
    · rw [if_neg (by omega), if_pos (by omega), if_pos (by omega), e]
    · by_cases e2 : i ≤ q ∧ q + 1 < K
      · rw [if_pos e2, if_neg (by omega), if_pos (by omega)]
      · rw [if_neg e2, if_neg (by omega), if_neg (by omega)]
theorem k_tk26 (o : Option Int32) : ∀ (n i : Nat) (M : xM) (K : Nat), i + n = K → K ≤ 5 → M 45 0 = nI K → ∃ M', K_take_26 o (nI i) M = some (nI K, M') ∧ (∀ q, M' 45 q = if 1 + i ≤ q ∧ q < 1 + K then M 45 (q + 1) else M 45 q) ∧ y_but [45] M M'
  | 0, i, M, K, h, hK, h0 => by
    rw [K_take_26_eq, h0, if_pos (by rw [y_le (by omega) (by omega)]; omega)]
    exact ⟨_, rfl, fun q => by rw [if_neg (by omega)], y_but.rf⟩
  | n + 1, i, M, K, h, hK, h0 => by
    rw [K_take_26_eq, h0, if_neg (by rw [y_le (by omega) (by omega)]; omega), y_add, y_add, y_in (show 1 + i + 1 < 15 by omega) (by decide), y_in (show 1 + i < 15 by omega) (by decide), y_add, y_clamp (by omega), y_clamp (by omega)]
    obtain ⟨M', a1, a2, a3⟩ := k_tk26 o n (i + 1) (x_up M 45 (1 + i) (M 45 (1 + i + 1))) K (by omega) hK (by simp only [y_up_at]; rw [if_neg (by omega)]; exact h0)
    refine ⟨M', a1, fun q => ?_, (y_but.rf.up (by simp)).tr a3⟩
    rw [a2]
    simp only [y_up_at]
    simp
    by_cases e : q = 1 + i
    · rw [if_neg (by omega), if_pos e, if_pos (by omega), e]
    · by_cases e2 : 1 + (i + 1) ≤ q ∧ q < 1 + K
      · rw [if_pos e2, if_neg (by omega), if_pos (by omega)]
      · rw [if_neg e2, if_neg e, if_neg (by omega)]
theorem op_take {M : xM} (h : y_Inv M) (x : Int32) : y_op (C_take x) (K_take x) M := by
  obtain ⟨w, pr, me, r, ki, wa, N, nt, tx, nc, ch, nk, kp, nh, th, hI⟩ := id h
  obtain ⟨hp, hN, hn, ht, hc, hk, hh⟩ := id hI
  obtain ⟨hw1, hCW, hCR, hKW, hKR⟩ := id hp
  obtain ⟨hn1, hn2, hn3⟩ := id hn
  have hw := hCW.1
  have hn6 := hN.1
  have hC := C_take_eq x M
  rw [c_hasN (by omega) hn1, Option.bind_some, y_b0] at hC
  by_cases hx : y_inb x N.1 = true
  · rw [if_pos hx] at hC
    obtain ⟨j, hj, rfl⟩ := y_inb_t hx
    obtain ⟨M1, b1, b2, b3, b4, b5⟩ := c_pushF (st := ch) hw hN (fun j hj => (hCW.2.2.1 j hj).2.2) hn2 hn1 hc.1 hc.2.1 hc.2.2.1 (fun t ht => ⟨(hc.2.2.2.2 t ht).1, (hc.2.2.2.2 t ht).2.1⟩)
    have e38 : M1 3 8 = nI N.1 := by rw [b5 3 (by decide)]; exact hn1
    obtain ⟨M2, f1, f2, f3, f4, f5⟩ := c_rm13 (some (nI j)) (N.1 - (j + 1)) (j + 1) M1 N.1 (by omega) (by omega) hn6 e38
    rw [b1, Option.bind_some, P_removeNotice_p_eq, c_hasN (by omega) e38, Option.bind_some, y_b0, if_pos hx, y_add, f1, Option.bind_some] at hC
    have q3 : ∀ a, a ≠ 3 → a ≠ 9 → a ≠ 17 → a ≠ 18 → M2 a = M a := by
      intro a h1 h2 h3 h4
      rw [f5 a (by simp; omega), b5 a (by simp; omega)]
    have hn3' : y_rK (M2 45) 0 w N := by rw [q3 45 (by decide) (by decide) (by decide) (by decide)]; exact hn3
    obtain ⟨M3, d1, d2, d3, d4, d5⟩ := k_keeps (M := M2) (st := ch) hw hN hn3' hc.1 (by rw [q3 40 (by decide) (by decide) (by decide) (by decide)]; exact hc.2.2.2.1) (fun t ht => ⟨(hc.2.2.2.2 t ht).1, by rw [q3 46 (by decide) (by decide) (by decide) (by decide)]; exact (hc.2.2.2.2 t ht).2.2⟩)
    have e45 : M3 45 = M 45 := by rw [d5 45 (by decide), q3 45 (by decide) (by decide) (by decide) (by decide)]
    obtain ⟨M4, g1, g2, g3⟩ := k_tk26 (some (nI j)) (N.1 - 1 - j) j (x_up M3 45 0 (nI (N.1 - 1))) (N.1 - 1) (by omega) (by omega) (by simp only [y_up_at]; simp)
    have hK := K_take_eq (nI j) M2
    rw [k_isNotice (by omega) hn3'.1, Option.bind_some, y_b0, if_pos hx, d1, Option.bind_some] at hK
    simp only [e45, hn3.1] at hK
    rw [y_sub (by omega), g1] at hK
    have q2 : ∀ a, a ≠ 40 → a ≠ 45 → a ≠ 46 → M4 a = M2 a := by
      intro a h1 h2 h3
      rw [g3 a (by simp; omega), y_up_ne (by omega), d5 a (by simp; omega)]
    have q4 : ∀ i, M4 45 i = if 1 + j ≤ i ∧ i < N.1 then M 45 (i + 1) else if i = 0 then nI (N.1 - 1) else M 45 i := by
      intro i
      rw [g2]
      simp only [y_up_at, e45]
      simp
      by_cases e : 1 + j ≤ i ∧ i < N.1
      · rw [if_pos (by omega), if_pos e]
      · rw [if_neg (by omega), if_neg e]
    refine ⟨nI (N.1 - 1), M2, M4, ?_, hK, ⟨w, pr, me, r, ki, wa, (N.1 - 1, fun i => if i < j then N.2.1 i else N.2.1 (i + 1), N.2.2), nt, tx, _, _, nk, kp, nh, th, hI.pushed ?_ ?_ ?_ ?_ ?_ ?_ ?_ ?_ ?_ ?_⟩, ?_, ?_⟩
    · rw [hC]
      show some (M2 3 8, M2) = _
      rw [f3]
    · refine hp.keep2 ?_ ?_ ?_ ?_ ?_ ?_ ?_ ?_ (fun i hi => by rw [q4 i, if_neg (by omega), if_neg (by omega)])
      · rw [q2 3 (by decide) (by decide) (by decide), f4 6 (by decide), b5 3 (by decide)]
      · rw [q2 3 (by decide) (by decide) (by decide), f4 7 (by decide), b5 3 (by decide)]
      all_goals rw [q2 _ (by decide) (by decide) (by decide), q3 _ (by decide) (by decide) (by decide) (by decide)]
    · refine ⟨by show N.1 - 1 ≤ 6; omega, fun k hk => ?_, hN.2.2⟩
      have hk : k < N.1 - 1 := hk
      show y_no w (if k < j then N.2.1 k else N.2.1 (k + 1))
      split
      · exact hN.2.1 k (by omega)
      · exact hN.2.1 (k + 1) (by omega)
    · refine ⟨by rw [q2 3 (by decide) (by decide) (by decide)]; exact f3, fun k hk => ?_, ?_, fun k hk => ?_, fun i hi => ?_⟩
      · have hk : k < N.1 - 1 := hk
        show _ = nI (y_cd (if k < j then N.2.1 k else N.2.1 (k + 1)))
        rw [q2 9 (by decide) (by decide) (by decide), f2, b5 9 (by decide)]
        by_cases e : k < j
        · rw [if_neg (by omega), if_pos e]; exact hn2 k (by omega)
        · rw [if_pos (by omega), if_neg e]; exact hn2 (k + 1) (by omega)
      · rw [q4, if_neg (by omega), if_pos rfl]
      · have hk : k < N.1 - 1 := hk
        show _ = nI (y_cd (if k < j then N.2.1 k else N.2.1 (k + 1)))
        rw [q4]
        by_cases e : k < j
        · rw [if_neg (by omega), if_neg (by omega), if_pos e]; exact hn3.2.1 k (by omega)
        · rw [if_pos (by omega), if_neg e, show 0 + 1 + k + 1 = 0 + 1 + (k + 1) by omega]; exact hn3.2.1 (k + 1) (by omega)
      · rw [q4, if_neg (by omega), if_neg (by omega)]
        exact hn3.2.2 i hi
    · rw [q2 17 (by decide) (by decide) (by decide), f5 17 (by decide)]; exact b2
    · rw [q2 17 (by decide) (by decide) (by decide), f5 17 (by decide)]; exact b3
    · rw [q2 18 (by decide) (by decide) (by decide), f5 18 (by decide)]; exact b4
    · rw [g3 40 (by decide), y_up_ne (by decide)]; exact d2
    · rw [g3 46 (by decide), y_up_ne (by decide)]; exact d4
    · intro a ha
      simp only [List.mem_cons, List.not_mem_nil, or_false, not_or] at ha
      rw [q2 a (by omega) (by omega) (by omega), q3 a (by omega) (by omega) (by omega) (by omega)]
    · intro i hi
      rw [g3 40 (by decide), y_up_ne (by decide), d3 i hi, q3 40 (by decide) (by decide) (by decide) (by decide)]
    · rw [q2 98 (by decide) (by decide) (by decide), q3 98 (by decide) (by decide) (by decide) (by decide)]
    · rw [q2 99 (by decide) (by decide) (by decide), q3 99 (by decide) (by decide) (by decide) (by decide)]
  · rw [if_neg hx] at hC
    have hK := K_take_eq x M
    rw [k_isNotice (by omega) hn3.1, Option.bind_some, y_b0, if_neg hx] at hK
    exact y_op.same h hC hK
