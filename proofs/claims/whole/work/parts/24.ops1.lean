/-! calls that only look: count, word, reader, reads, answers, price, notice, wanted, twofold -/
theorem op_count {M : xM} (h : y_Inv M) (x : Int32) : y_op (C_count x) (K_count x) M := by
  obtain ⟨w, pr, me, r, ki, wa, N, nt, tx, nc, ch, nk, kp, nh, th, ⟨⟨-, hCW, hCR, hKW, hKR⟩, hN, ⟨hn1, hn2, hn3⟩, ht, hc, hk, hh⟩⟩ := id h
  have hK := K_count_eq x M
  have hC := C_count_eq x M
  rw [hKW.2.1, hKR.2.1, hn3.1, hh.2.2.1, hc.2.2.2.1, hk.2.2.2.1, ht.2.2.1] at hK
  rw [hCW.2.1, hCR.2.1, hn1, hh.2.1, hc.2.2.1, hk.2.2.1, ht.2.1, ← hK] at hC
  have hv : ∃ v, K_count x M = some (v, M) := by
    rw [hK]
    repeat' split
    all_goals exact ⟨_, rfl⟩
  obtain ⟨v, hv⟩ := hv
  exact y_op.same h (hC.trans hv) hv
theorem op_word {M : xM} (h : y_Inv M) (x y : Int32) : y_op (C_word x y) (K_word x y) M := by
  obtain ⟨w, pr, me, r, ki, wa, N, nt, tx, nc, ch, nk, kp, nh, th, ⟨⟨-, hCW, hCR, hKW, hKR⟩, hN, ⟨hn1, hn2, hn3⟩, ht, hc, hk, hh⟩⟩ := id h
  have hw := hCW.1
  have hC := C_word_eq x y M
  have hK := K_word_eq x y M
  rw [c_hasW (by omega) hCW.2.1, Option.bind_some, y_b0] at hC
  rw [k_isWord (by omega) hKW.2.1, Option.bind_some, y_b0, k_in0 (by decide), Option.bind_some, y_b0] at hK
  by_cases hx : y_inb x w = true
  · rw [if_pos hx] at hC hK
    obtain ⟨j, hj, rfl⟩ := y_inb_t hx
    obtain ⟨a1, a2, a3⟩ := hCW.2.2.1 j hj
    obtain ⟨b1, b2, b3⟩ := hKW.2.2.1 j hj
    simp only [y_in2 (show j < 8 by omega) (show 8 < 2 ^ 31 by decide), y_clamp (show j < 2 ^ 31 by omega), a1, a2, a3] at hC
    simp only [y_add, y_in2 (show 2 + j < 30 by omega) (show 30 < 2 ^ 31 by decide), y_in2 (show 10 + j < 30 by omega) (show 30 < 2 ^ 31 by decide), y_in2 (show 7 + j < 15 by omega) (show 15 < 2 ^ 31 by decide), y_clamp (show 2 + j < 2 ^ 31 by omega), y_clamp (show 10 + j < 2 ^ 31 by omega), y_clamp (show 7 + j < 2 ^ 31 by omega), b1, b2, b3] at hK
    rcases y_cases y with hy | ⟨n, hn, rfl⟩
    · rw [if_neg (y_neg_ne hy (by omega)), if_neg (y_neg_ne hy (by omega)), if_neg (y_neg_ne hy (by omega))] at hC
      rw [y_inb_neg hy] at hK
      exact y_op.same h hC hK
    · rw [y_inb_nI hn] at hK
      simp only [y_eq hn (show 0 < 2 ^ 31 by decide), y_eq hn (show 1 < 2 ^ 31 by decide), y_eq hn (show 2 < 2 ^ 31 by decide)] at hC hK
      by_cases h0 : n = 0
      · subst h0
        exact y_op.same h hC hK
      · by_cases h1 : n = 1
        · subst h1
          exact y_op.same h hC hK
        · by_cases h2 : n = 2
          · subst h2
            exact y_op.same h hC hK
          · rw [if_neg h0, if_neg h1, if_neg h2] at hC
            rw [if_neg (by simp; omega)] at hK
            exact y_op.same h hC hK
  · rw [if_neg hx] at hC hK
    exact y_op.same h hC hK
theorem op_reader {M : xM} (h : y_Inv M) (x y : Int32) : y_op (C_reader x y) (K_reader x y) M := by
  obtain ⟨w, pr, me, r, ki, wa, N, nt, tx, nc, ch, nk, kp, nh, th, ⟨⟨-, hCW, hCR, hKW, hKR⟩, hN, ⟨hn1, hn2, hn3⟩, ht, hc, hk, hh⟩⟩ := id h
  have hr := hCR.1
  have hC := C_reader_eq x y M
  have hK := K_reader_eq x y M
  rw [c_hasR (by omega) hCR.2.1, Option.bind_some, y_b0, c_either, Option.bind_some, y_b0] at hC
  rw [k_isReader (by omega) hKR.2.1, Option.bind_some, y_b0, k_in0 (by decide), Option.bind_some, y_b0] at hK
  by_cases hx : y_inb x r = true
  · rw [if_pos hx] at hC hK
    obtain ⟨j, hj, rfl⟩ := y_inb_t hx
    obtain ⟨a1, a2⟩ := hCR.2.2.1 j hj
    obtain ⟨b1, b2⟩ := hKR.2.2.1 j hj
    simp only [y_in2 (show j < 6 by omega) (show 6 < 2 ^ 31 by decide), y_clamp (show j < 2 ^ 31 by omega), a1, a2] at hC
    simp only [y_add, y_in2 (show 18 + j < 30 by omega) (show 30 < 2 ^ 31 by decide), y_in2 (show 24 + j < 30 by omega) (show 30 < 2 ^ 31 by decide), y_clamp (show 18 + j < 2 ^ 31 by omega), y_clamp (show 24 + j < 2 ^ 31 by omega), b1, b2, ← hC] at hK
    have hv : ∃ v, C_reader (nI j) y M = some (v, M) := by
      rw [hC]
      repeat' split
      all_goals exact ⟨_, rfl⟩
    obtain ⟨v, hv⟩ := hv
    exact y_op.same h hv (hK.trans hv)
  · rw [if_neg hx] at hC hK
    exact y_op.same h hC hK
theorem y_code_len {w : Nat} (hw : w ≤ 8) (x : Int32) {α : Type} (a b : α) : (if y_cl (y_code w x) ≤ nI 0 then a else b) = if (y_code w x).isSome = true then b else a := by
  cases hc : y_code w x with
  | none => exact if_pos (by decide)
  | some ds =>
    have h5 := (y_code_some hw hc).1
    exact if_neg (by show ¬ nI ds.length ≤ nI 0; rw [y_le (by have := h5.2.1; omega) (by omega)]; have := h5.1; omega)
theorem op_reads {M : xM} (h : y_Inv M) (x y : Int32) : y_op (C_reads x y) (K_reads x y) M := by
  obtain ⟨w, pr, me, r, ki, wa, N, nt, tx, nc, ch, nk, kp, nh, th, hI⟩ := id h
  obtain ⟨⟨-, hCW, hCR, hKW, hKR⟩, hN, ⟨hn1, hn2, hn3⟩, ht, hc, hk, hh⟩ := id hI
  have hr := hCR.1
  have hC := C_reads_eq x y M
  rw [c_hasR (by omega) hCR.2.1, Option.bind_some, y_b0] at hC
  have hK : ∀ M1, y_KW M1 w pr me N.2.2 → y_KR M1 r ki wa → K_reads x y M1 = if y_inb x r = true then if (y_code w y).isSome = true then (if nI 18 + x < nI 0 ∨ 30 ≤ (nI 18 + x).toNatClampNeg then none else (K_readBy (M1 42 ((nI 18 + x).toNatClampNeg)) y M1).bind fun q => some (q.1, q.2)) else some (-1, M1) else some (-1, M1) := by
    intro M1 h1 h2
    rw [K_reads_eq, k_isReader (by omega) h2.2.1, Option.bind_some, y_b0, k_longOf h1.1 h1.2.1, Option.bind_some, y_code_len h1.1]
  by_cases hx : y_inb x r = true
  · rw [if_pos hx, c_isCode hCW, Option.bind_some, y_b0] at hC
    cases hcd : y_code w y with
    | none =>
      rw [hcd] at hC
      have hK := hK M hKW hKR
      rw [if_pos hx, hcd] at hK
      exact y_op.same h hC hK
    | some ds =>
      rw [hcd] at hC
      obtain ⟨hds, rfl⟩ := y_code_some hCW.1 hcd
      obtain ⟨j, hj, rfl⟩ := y_inb_t hx
      obtain ⟨M1, m1, m2, m3⟩ := c_measurep hCW hds
      have m4 : y_but y_scr M M1 := m3.mono (by decide)
      obtain ⟨⟨-, hCW1, hCR1, hKW1, hKR1⟩, -⟩ := hI.scr m4
      obtain ⟨a1, a2⟩ := hCR1.2.2.1 j hj
      obtain ⟨b1, b2⟩ := hKR1.2.2.1 j hj
      obtain ⟨c1, c2⟩ := hCR1.2.2.2 j hj
      have hK := hK M1 hKW1 hKR1
      rw [if_pos hx, hcd] at hK
      simp only [Option.isSome_some, if_true, m1, Option.bind_some, y_in2 (show j < 6 by omega) (show 6 < 2 ^ 31 by decide), y_clamp (show j < 2 ^ 31 by omega), a1, c_byKind_r (fun j hj => (hCW1.2.2.2 j hj).2) hds m2 c1] at hC
      simp only [Option.isSome_some, if_true, y_add, y_in2 (show 18 + j < 30 by omega) (show 30 < 2 ^ 31 by decide), y_clamp (show 18 + j < 2 ^ 31 by omega), b1, k_readBy hKW1 hds c1, Option.bind_some] at hK
      exact y_op.ro h hC hK m4 y_but.rf
  · rw [if_neg hx] at hC
    have hK := hK M hKW hKR
    rw [if_neg hx] at hK
    exact y_op.same h hC hK
theorem op_answers {M : xM} (h : y_Inv M) (y : Int32) : y_op (C_answers y) (K_answers y) M := by
  obtain ⟨w, pr, me, r, ki, wa, N, nt, tx, nc, ch, nk, kp, nh, th, hI⟩ := id h
  obtain ⟨⟨-, hCW, hCR, hKW, hKR⟩, hN, ⟨hn1, hn2, hn3⟩, ht, hc, hk, hh⟩ := id hI
  have hC := C_answers_eq y M
  rw [c_isCode hCW, Option.bind_some, y_b0] at hC
  cases hcd : y_code w y with
  | none =>
    rw [hcd] at hC
    have hK := K_answers_eq y M
    rw [k_longOf hKW.1 hKW.2.1, Option.bind_some, y_code_len hKW.1, hcd] at hK
    exact y_op.same h hC hK
  | some ds =>
    rw [hcd] at hC
    obtain ⟨hds, rfl⟩ := y_code_some hCW.1 hcd
    obtain ⟨M1, m1, m2, m3⟩ := c_measurep hCW hds
    have m4 : y_but y_scr M M1 := m3.mono (by decide)
    obtain ⟨⟨-, hCW1, hCR1, hKW1, hKR1⟩, -⟩ := hI.scr m4
    have hK := K_answers_eq (nI (y_cd ds)) M1
    rw [k_longOf hKW1.1 hKW1.2.1, Option.bind_some, y_code_len hKW1.1, hcd] at hK
    simp only [Option.isSome_some, if_true, C_answerersOf_eq, m1, Option.bind_some, c_answ_r (fun j hj => (hCW1.2.2.2 j hj).2) hCR1 hds m2] at hC
    simp only [Option.isSome_some, if_true, k_whoDoes hKW1 hKR1 hds, Option.bind_some] at hK
    exact y_op.ro h hC hK m4 y_but.rf
theorem op_price {M : xM} (h : y_Inv M) (y : Int32) : y_op (C_price y) (K_price y) M := by
  obtain ⟨w, pr, me, r, ki, wa, N, nt, tx, nc, ch, nk, kp, nh, th, hI⟩ := id h
  obtain ⟨⟨-, hCW, hCR, hKW, hKR⟩, hN, ⟨hn1, hn2, hn3⟩, ht, hc, hk, hh⟩ := id hI
  have hC := C_price_eq y M
  rw [c_isCode hCW, Option.bind_some, y_b0] at hC
  cases hcd : y_code w y with
  | none =>
    rw [hcd] at hC
    have hK := K_price_eq y M
    rw [k_longOf hKW.1 hKW.2.1, Option.bind_some, y_code_len hKW.1, hcd] at hK
    exact y_op.same h hC hK
  | some ds =>
    rw [hcd] at hC
    obtain ⟨hds, rfl⟩ := y_code_some hCW.1 hcd
    obtain ⟨M1, m1, m2, m3⟩ := c_measurep hCW hds
    have m4 : y_but y_scr M M1 := m3.mono (by decide)
    obtain ⟨⟨-, hCW1, hCR1, hKW1, hKR1⟩, -⟩ := hI.scr m4
    have hK := K_price_eq (nI (y_cd ds)) M1
    rw [k_longOf hKW1.1 hKW1.2.1, Option.bind_some, y_code_len hKW1.1, hcd] at hK
    simp only [Option.isSome_some, if_true, m1, Option.bind_some, m2.2.2.1] at hC
    simp only [Option.isSome_some, if_true, k_priceOf hKW1 hds, Option.bind_some] at hK
    exact y_op.ro h hC hK m4 y_but.rf
