/-! takeFor, keep, undo, back -/
theorem op_takeFor {M : xM} (h : y_Inv M) (x y : Int32) : y_op (C_takeFor x y) (K_takeFor x y) M := by
  obtain ⟨w, pr, me, r, ki, wa, N, nt, tx, nc, ch, nk, kp, nh, th, hI⟩ := id h
  obtain ⟨hp, hN, hn, ht, hc, hk, hh⟩ := id hI
  obtain ⟨hw1, hCW, hCR, hKW, hKR⟩ := id hp
  obtain ⟨hn1, hn2, hn3⟩ := id hn
  have hw := hCW.1
  have hC := C_takeFor_eq x y M
  have hK := K_takeFor_eq x y M
  rw [c_hasW (by omega) hCW.2.1, Option.bind_some, y_b0, c_within0 (by decide), Option.bind_some, y_b0] at hC
  rw [k_isWord (by omega) hKW.2.1, Option.bind_some, y_b0, k_in0 (by decide), Option.bind_some, y_b0] at hK
  by_cases hx : y_inb x w = true
  · rw [if_pos hx] at hC hK
    by_cases hy : y_inb y (9 + 1) = true
    · rw [if_pos hy] at hC
      obtain ⟨j, hj, rfl⟩ := y_inb_t hx
      obtain ⟨b, hb, rfl⟩ := y_inb_t hy
      obtain ⟨M1, b1, b2, b3, b4, b5⟩ := c_pushF (st := ch) hw hN (fun j hj => (hCW.2.2.1 j hj).2.2) hn2 hn1 hc.1 hc.2.1 hc.2.2.1 (fun t ht => ⟨(hc.2.2.2.2 t ht).1, (hc.2.2.2.2 t ht).2.1⟩)
      rw [y_in (show j < 8 by omega) (by decide), b1, Option.bind_some, y_in (show j < 8 by omega) (by decide), y_clamp (by omega)] at hC
      generalize hM2 : x_up M1 6 j (nI b) = M2 at hC
      have q3 : ∀ a, a ≠ 6 → a ≠ 17 → a ≠ 18 → M2 a = M a := by
        intro a h1 h2 h3
        rw [← hM2, y_up_ne (by omega), b5 a (by simp; omega)]
      have hKW2 : y_KW M2 w pr me N.2.2 := by unfold y_KW at hKW ⊢; rw [q3 42 (by decide) (by decide) (by decide), q3 45 (by decide) (by decide) (by decide)]; exact hKW
      have hn3' : y_rK (M2 45) 0 w N := by rw [q3 45 (by decide) (by decide) (by decide)]; exact hn3
      obtain ⟨M3, d1, d2, d3, d4, d5⟩ := k_keeps (M := M2) (st := ch) hw hN hn3' hc.1 (by rw [q3 40 (by decide) (by decide) (by decide)]; exact hc.2.2.2.1) (fun t ht => ⟨(hc.2.2.2.2 t ht).1, by rw [q3 46 (by decide) (by decide) (by decide)]; exact (hc.2.2.2.2 t ht).2.2⟩)
      have hK := K_takeFor_eq (nI j) (nI b) M2
      rw [k_isWord (by omega) hKW2.2.1, Option.bind_some, y_b0, k_in0 (by decide), Option.bind_some, y_b0, if_pos hx, if_pos hy, d1, Option.bind_some] at hK
      have e45 : M3 45 = M2 45 := d5 45 (by decide)
      simp only [y_add, y_in2 (show 7 + j < 15 by omega) (show 15 < 2 ^ 31 by decide), y_clamp (show 7 + j < 2 ^ 31 by omega), e45, (hKW2.2.2.1 j hj).2.2] at hK
      have q2 : ∀ a, a ≠ 40 → a ≠ 45 → a ≠ 46 → (x_up M3 45 (7 + j) (nI b)) a = M2 a := by
        intro a h1 h2 h3
        rw [y_up_ne (by omega), d5 a (by simp; omega)]
      have q4 : ∀ i, (x_up M3 45 (7 + j) (nI b)) 45 i = if i = 7 + j then nI b else M 45 i := by
        intro i
        simp only [y_up_at, e45, q3 45 (by decide) (by decide) (by decide)]
        simp
      have q6 : ∀ i, (x_up M3 45 (7 + j) (nI b)) 6 i = if i = j then nI b else M 6 i := by
        intro i
        rw [q2 6 (by decide) (by decide) (by decide), ← hM2]
        simp only [y_up_at]
        rw [b5 6 (by decide)]
        simp
      have hta : ∀ i, i < w → (if i = j then b else N.2.2 i) ≤ 9 := by
        intro i hi
        split
        · omega
        · exact hN.2.2 i hi
      refine ⟨nI (N.2.2 j), M2, _, ?_, hK, ⟨w, pr, me, r, ki, wa, (N.1, N.2.1, fun i => if i = j then b else N.2.2 i), nt, tx, _, _, nk, kp, nh, th, hI.pushed ?_ ?_ ?_ ?_ ?_ ?_ ?_ ?_ ?_ ?_⟩, ?_, ?_⟩
      · rw [hC]
        show some (M 6 j, M2) = _
        rw [(hCW.2.2.1 j hj).2.2]
      · have r3 : (x_up M3 45 (7 + j) (nI b)) 3 = M 3 := by rw [q2 3 (by decide) (by decide) (by decide), q3 3 (by decide) (by decide) (by decide)]
        have r4 : (x_up M3 45 (7 + j) (nI b)) 4 = M 4 := by rw [q2 4 (by decide) (by decide) (by decide), q3 4 (by decide) (by decide) (by decide)]
        have r5 : (x_up M3 45 (7 + j) (nI b)) 5 = M 5 := by rw [q2 5 (by decide) (by decide) (by decide), q3 5 (by decide) (by decide) (by decide)]
        have r7 : (x_up M3 45 (7 + j) (nI b)) 7 = M 7 := by rw [q2 7 (by decide) (by decide) (by decide), q3 7 (by decide) (by decide) (by decide)]
        have r8 : (x_up M3 45 (7 + j) (nI b)) 8 = M 8 := by rw [q2 8 (by decide) (by decide) (by decide), q3 8 (by decide) (by decide) (by decide)]
        have r42 : (x_up M3 45 (7 + j) (nI b)) 42 = M 42 := by rw [q2 42 (by decide) (by decide) (by decide), q3 42 (by decide) (by decide) (by decide)]
        refine ⟨hw1, ⟨hw, by rw [r3]; exact hCW.2.1, fun i hi => ?_, fun i hi => ?_⟩, ?_, ⟨hw, by rw [r42]; exact hKW.2.1, fun i hi => ?_, fun i hi => ?_⟩, ?_⟩
        · obtain ⟨v1, v2, v3⟩ := hCW.2.2.1 i hi
          rw [r4, r5, q6]
          refine ⟨v1, v2, ?_⟩
          show _ = nI (if i = j then b else N.2.2 i)
          split
          · rfl
          · exact v3
        · exact ⟨(hCW.2.2.2 i hi).1, (hCW.2.2.2 i hi).2.1, hta i hi⟩
        · unfold y_CRp at hCR ⊢; rw [r3, r7, r8]; exact hCR
        · obtain ⟨v1, v2, v3⟩ := hKW.2.2.1 i hi
          rw [r42, q4]
          refine ⟨v1, v2, ?_⟩
          show _ = nI (if i = j then b else N.2.2 i)
          by_cases e : i = j
          · rw [if_pos (by omega), if_pos e]
          · rw [if_neg (by omega), if_neg e]; exact v3
        · exact ⟨(hKW.2.2.2 i hi).1, (hKW.2.2.2 i hi).2.1, hta i hi⟩
        · unfold y_KR at hKR ⊢; rw [r42]; exact hKR
      · exact ⟨hN.1, hN.2.1, hta⟩
      · have hn6 := hN.1
        refine ⟨by rw [q2 3 (by decide) (by decide) (by decide), q3 3 (by decide) (by decide) (by decide)]; exact hn1, fun k hk => ?_, ?_, fun k hk => ?_, fun i hi => ?_⟩
        · rw [q2 9 (by decide) (by decide) (by decide), q3 9 (by decide) (by decide) (by decide)]; exact hn2 k hk
        · rw [q4, if_neg (by omega)]; exact hn3.1
        · have hk : k < N.1 := hk
          rw [q4, if_neg (by omega)]; exact hn3.2.1 k hk
        · show _ = nI (if i = j then b else N.2.2 i)
          rw [q4]
          by_cases e : i = j
          · rw [if_pos (by omega), if_pos e]
          · rw [if_neg (by omega), if_neg e]; exact hn3.2.2 i hi
      · rw [q2 17 (by decide) (by decide) (by decide), ← hM2]; exact b2
      · rw [q2 17 (by decide) (by decide) (by decide), ← hM2]; exact b3
      · rw [q2 18 (by decide) (by decide) (by decide), ← hM2]; exact b4
      · exact d2
      · exact d4
      · intro a ha
        simp only [List.mem_cons, List.not_mem_nil, or_false, not_or] at ha
        rw [q2 a (by omega) (by omega) (by omega), q3 a (by omega) (by omega) (by omega)]
      · intro j hj
        show M3 40 j = M 40 j
        rw [d3 j hj, q3 40 (by decide) (by decide) (by decide)]
      · rw [q2 98 (by decide) (by decide) (by decide), q3 98 (by decide) (by decide) (by decide)]
      · rw [q2 99 (by decide) (by decide) (by decide), q3 99 (by decide) (by decide) (by decide)]
    · rw [if_neg hy] at hC hK
      exact y_op.same h hC hK
  · rw [if_neg hx] at hC hK
    exact y_op.same h hC hK
