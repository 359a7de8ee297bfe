/-! undo, back, take -/
theorem op_undo {M : xM} (h : y_Inv M) : y_op C_undo K_undo M := by
  obtain ⟨w, pr, me, r, ki, wa, N, nt, tx, nc, ch, nk, kp, nh, th, hI⟩ := id h
  obtain ⟨hp, hN, hn, ht, hc, hk, hh⟩ := id hI
  obtain ⟨g1, g2, g3, g4, g5⟩ := id hc
  have hC := C_undo_eq M
  cases nc with
  | zero =>
    have hK := K_undo_eq M
    rw [if_pos g4] at hK
    rw [S_popInto_c_p_eq, g3, if_neg (by decide), Option.bind_some, if_pos (show nI 0 = nI 0 from rfl)] at hC
    exact y_op.same h hC hK
  | succ c =>
    obtain ⟨k1, k2, k3⟩ := g5 c (by omega)
    obtain ⟨M1, b1, b2, b3, b4, b5, b6, b7, b8, b9⟩ := s_pop_c (M := M) (c := c) (by omega) g3
    rw [b1, Option.bind_some, if_neg (show ¬ nI 1 = nI 0 by decide)] at hC
    have q3 : ∀ a, a ≠ 3 → a ≠ 6 → a ≠ 9 → a ≠ 17 → M1 a = M a := fun a h1 h2 h3 h4 => b9 a (by simp; omega)
    have e40 := q3 40 (by decide) (by decide) (by decide) (by decide)
    obtain ⟨M2, d1, d2, d3⟩ := k_un22 15 0 (x_up M1 40 7 (nI c)) c (by omega) (by omega) (by simp only [y_up_at]; simp)
    have hK := K_undo_eq M1
    rw [e40, g4, if_neg (by rw [y_eq (by omega) (by omega)]; omega), y_sub (by omega), show c + 1 - 1 = c by omega, d1] at hK
    have q2 : ∀ a, a ≠ 40 → a ≠ 45 → M2 a = M1 a := fun a h1 h2 => by rw [d3 a (by simp; omega), y_up_ne h1]
    have q : ∀ a, a ≠ 40 → a ≠ 45 → a ≠ 3 → a ≠ 6 → a ≠ 9 → a ≠ 17 → M2 a = M a := fun a h1 h2 h3 h4 h5 h6 => (q2 a h1 h2).trans (q3 a h3 h4 h5 h6)
    have q40 : ∀ j, j ≠ 7 → M2 40 j = M 40 j := fun j hj => by rw [d3 40 (by decide)]; simp only [y_up_at]; simp [hj, e40]
    have e407 : M2 40 7 = nI c := by rw [d3 40 (by decide)]; simp only [y_up_at]; simp
    obtain ⟨hp', hn'⟩ := y_given (M := M) (M' := M2) hp k1 k2 k3 (fun j hj => by rw [q2 6 (by decide) (by decide)]; exact b2 j hj) (fun j hj => by rw [q2 9 (by decide) (by decide)]; exact b3 j hj) (by rw [q2 3 (by decide) (by decide)]; exact b4) (by rw [q2 3 (by decide) (by decide)]; exact b5) (by rw [q2 3 (by decide) (by decide)]; exact b6) (q _ (by decide) (by decide) (by decide) (by decide) (by decide) (by decide)) (q _ (by decide) (by decide) (by decide) (by decide) (by decide) (by decide)) (q _ (by decide) (by decide) (by decide) (by decide) (by decide) (by decide)) (q _ (by decide) (by decide) (by decide) (by decide) (by decide) (by decide)) (q _ (by decide) (by decide) (by decide) (by decide) (by decide) (by decide)) (fun i hi => by
      rw [d2, if_pos (by omega), y_up_ne (by decide), q3 46 (by decide) (by decide) (by decide) (by decide)])
    refine ⟨nI c, M1, M2, by rw [hC]; show some (M1 17 2, M1) = _; rw [b7], hK, ⟨w, pr, me, r, ki, wa, ch c, nt, tx, c, ch, nk, kp, nh, th, ⟨hp', k1, hn', ?_, ⟨by omega, ?_, ?_, e407, fun t ht => ?_⟩, ?_, ?_⟩⟩, q 98 (by decide) (by decide) (by decide) (by decide) (by decide) (by decide), q 99 (by decide) (by decide) (by decide) (by decide) (by decide) (by decide)⟩
    · exact ht.keep (q _ (by decide) (by decide) (by decide) (by decide) (by decide) (by decide)) (q _ (by decide) (by decide) (by decide) (by decide) (by decide) (by decide)) (q _ (by decide) (by decide) (by decide) (by decide) (by decide) (by decide)) (q40 1 (by decide))
    · rw [q2 17 (by decide) (by decide), b8]; exact g2
    · rw [q2 17 (by decide) (by decide)]; exact b7
    · rw [q 18 (by decide) (by decide) (by decide) (by decide) (by decide) (by decide), q 46 (by decide) (by decide) (by decide) (by decide) (by decide) (by decide)]
      exact g5 t (by omega)
    · exact hk.keep (q _ (by decide) (by decide) (by decide) (by decide) (by decide) (by decide)) (q _ (by decide) (by decide) (by decide) (by decide) (by decide) (by decide)) (q _ (by decide) (by decide) (by decide) (by decide) (by decide) (by decide)) (q40 9 (by decide))
    · exact hh.keep (q _ (by decide) (by decide) (by decide) (by decide) (by decide) (by decide)) (q _ (by decide) (by decide) (by decide) (by decide) (by decide) (by decide)) (q _ (by decide) (by decide) (by decide) (by decide) (by decide) (by decide)) (q _ (by decide) (by decide) (by decide) (by decide) (by decide) (by decide)) (q _ (by decide) (by decide) (by decide) (by decide) (by decide) (by decide)) (q40 11 (by decide))
theorem op_back {M : xM} (h : y_Inv M) : y_op C_back K_back M := by
  obtain ⟨w, pr, me, r, ki, wa, N, nt, tx, nc, ch, nk, kp, nh, th, hI⟩ := id h
  obtain ⟨hp, hN, hn, ht, hc, hk, hh⟩ := id hI
  obtain ⟨g1, g2, g3, g4, g5⟩ := id hk
  have hC := C_back_eq M
  cases nk with
  | zero =>
    have hK := K_back_eq M
    rw [if_pos g4] at hK
    rw [S_popInto_k_p_eq, g3, if_neg (by decide), Option.bind_some, if_pos (show nI 0 = nI 0 from rfl)] at hC
    exact y_op.same h hC hK
  | succ c =>
    obtain ⟨k1, k2, k3⟩ := g5 c (by omega)
    obtain ⟨M0, b1, b2, b3, b4, b5, b6, b7, b8, b9⟩ := s_pop_k (M := M) (c := c) (by omega) g3
    rw [b1, Option.bind_some, if_neg (show ¬ nI 1 = nI 0 by decide), S_clear_c_eq, Option.bind_some] at hC
    generalize hM1 : x_up M0 17 2 (nI 0) = M1 at hC
    have q0 : ∀ a, a ≠ 17 → M1 a = M0 a := fun a h1 => by rw [← hM1, y_up_ne h1]
    have q3 : ∀ a, a ≠ 3 → a ≠ 6 → a ≠ 9 → a ≠ 19 → a ≠ 17 → M1 a = M a := fun a h1 h2 h3 h4 h5 => (q0 a h5).trans (b9 a (by simp; omega))
    have e40 := q3 40 (by decide) (by decide) (by decide) (by decide) (by decide)
    obtain ⟨M2, d1, d2, d3, d4, d5⟩ := k_bk22 15 0 (x_up M1 40 9 (nI c)) c (by omega) (by omega) (by simp only [y_up_at]; simp)
    have hK := K_back_eq M1
    rw [e40, g4, if_neg (by rw [y_eq (by omega) (by omega)]; omega), y_sub (by omega), show c + 1 - 1 = c by omega, d1] at hK
    have q2 : ∀ a, a ≠ 40 → a ≠ 45 → M2 a = M1 a := fun a h1 h2 => by rw [d5 a (by simp; omega), y_up_ne h1]
    have q : ∀ a, a ≠ 40 → a ≠ 45 → a ≠ 3 → a ≠ 6 → a ≠ 9 → a ≠ 19 → a ≠ 17 → M2 a = M a := fun a h1 h2 h3 h4 h5 h6 h7 => (q2 a h1 h2).trans (q3 a h3 h4 h5 h6 h7)
    have q40 : ∀ j, j ≠ 7 → j ≠ 9 → M2 40 j = M 40 j := fun j hj hj9 => by rw [d4 j hj]; simp only [y_up_at]; simp [hj9, e40]
    have e409 : M2 40 9 = nI c := by rw [d4 9 (by decide)]; simp only [y_up_at]; simp
    have e17 : M1 17 0 = M 17 0 := by rw [← hM1]; simp only [y_up_at]; simp; rw [b9 17 (by decide)]
    obtain ⟨hp', hn'⟩ := y_given (M := M) (M' := M2) hp k1 k2 k3 (fun j hj => by rw [q2 6 (by decide) (by decide), q0 6 (by decide)]; exact b2 j hj) (fun j hj => by rw [q2 9 (by decide) (by decide), q0 9 (by decide)]; exact b3 j hj) (by rw [q2 3 (by decide) (by decide), q0 3 (by decide)]; exact b4) (by rw [q2 3 (by decide) (by decide), q0 3 (by decide)]; exact b5) (by rw [q2 3 (by decide) (by decide), q0 3 (by decide)]; exact b6) (q _ (by decide) (by decide) (by decide) (by decide) (by decide) (by decide) (by decide)) (q _ (by decide) (by decide) (by decide) (by decide) (by decide) (by decide) (by decide)) (q _ (by decide) (by decide) (by decide) (by decide) (by decide) (by decide) (by decide)) (q _ (by decide) (by decide) (by decide) (by decide) (by decide) (by decide) (by decide)) (q _ (by decide) (by decide) (by decide) (by decide) (by decide) (by decide) (by decide)) (fun i hi => by
      rw [d2, if_pos (by omega), y_up_ne (by decide), q3 47 (by decide) (by decide) (by decide) (by decide) (by decide)])
    refine ⟨nI c, M1, M2, by rw [hC]; show some (M1 19 2, M1) = _; rw [q0 19 (by decide), b7], hK, ⟨w, pr, me, r, ki, wa, kp c, nt, tx, 0, ch, c, kp, nh, th, ⟨hp', k1, hn', ?_, ⟨by omega, ?_, ?_, d3, fun t ht => absurd ht (by omega)⟩, ⟨by omega, ?_, ?_, e409, fun t ht => ?_⟩, ?_⟩⟩, q 98 (by decide) (by decide) (by decide) (by decide) (by decide) (by decide) (by decide), q 99 (by decide) (by decide) (by decide) (by decide) (by decide) (by decide) (by decide)⟩
    · exact ht.keep (q _ (by decide) (by decide) (by decide) (by decide) (by decide) (by decide) (by decide)) (q _ (by decide) (by decide) (by decide) (by decide) (by decide) (by decide) (by decide)) (q _ (by decide) (by decide) (by decide) (by decide) (by decide) (by decide) (by decide)) (q40 1 (by decide) (by decide))
    · rw [q2 17 (by decide) (by decide), e17]; exact hc.2.1
    · rw [q2 17 (by decide) (by decide), ← hM1]; simp only [y_up_at]; simp
    · rw [q2 19 (by decide) (by decide), q0 19 (by decide), b8]; exact g2
    · rw [q2 19 (by decide) (by decide), q0 19 (by decide)]; exact b7
    · rw [q 20 (by decide) (by decide) (by decide) (by decide) (by decide) (by decide) (by decide), q 47 (by decide) (by decide) (by decide) (by decide) (by decide) (by decide) (by decide)]
      exact g5 t (by omega)
    · exact hh.keep (q _ (by decide) (by decide) (by decide) (by decide) (by decide) (by decide) (by decide)) (q _ (by decide) (by decide) (by decide) (by decide) (by decide) (by decide) (by decide)) (q _ (by decide) (by decide) (by decide) (by decide) (by decide) (by decide) (by decide)) (q _ (by decide) (by decide) (by decide) (by decide) (by decide) (by decide) (by decide)) (q _ (by decide) (by decide) (by decide) (by decide) (by decide) (by decide) (by decide)) (q40 11 (by decide) (by decide))
