/-! tell, wanted, notice, twofold -/
theorem y_cl0 {w : Nat} (hw : w ≤ 8) (x : Int32) {α : Type} (a b : α) : (if y_cl (y_code w x) = nI 0 then a else b) = if (y_code w x).isSome = true then b else a := by
  cases hc : y_code w x with
  | none => exact if_pos rfl
  | some ds =>
    have h5 := (y_code_some hw hc).1
    exact if_neg (by show ¬ nI ds.length = nI 0; rw [y_eq (by have := h5.2.1; omega) (by omega)]; have := h5.1; omega)
theorem op_tell {M : xM} (h : y_Inv M) (x y z : Int32) : y_op (C_tell x y z) (K_tell x y z) M := by
  obtain ⟨w, pr, me, r, ki, wa, N, nt, tx, nc, ch, nk, kp, nh, th, ⟨hp, hN, hn, ht, hc, hk, hh⟩⟩ := id h
  obtain ⟨-, hCW, hCR, hKW, hKR⟩ := id hp
  obtain ⟨hh1, hh2, hh3, hh4⟩ := hh
  have hr := hCR.1
  have hC := C_tell_eq x y z M
  have hK := K_tell_eq x y z M
  rw [c_hasR (by omega) hCR.2.1, Option.bind_some, y_b0, c_isCode hCW, Option.bind_some, y_b0, c_either, Option.bind_some, y_b0] at hC
  rw [k_isReader (by omega) hKR.2.1, Option.bind_some, y_b0, k_longOf hKW.1 hKW.2.1, Option.bind_some, y_cl0 hKW.1, k_in0 (by decide), Option.bind_some, y_b0] at hK
  by_cases hx : y_inb x r = true
  · rw [if_pos hx] at hC hK
    cases hcd : y_code w y with
    | none =>
      rw [hcd] at hC hK
      exact y_op.same h hC hK
    | some ds =>
      rw [hcd] at hC hK
      simp only [Option.isSome_some, if_true] at hC hK
      by_cases hz : y_inb z 2 = true
      · simp only [show y_inb z (1 + 1) = true from hz, if_true] at hK
        simp only [hz, if_true] at hC
        obtain ⟨i, hi, rfl⟩ := y_inb_t hx
        obtain ⟨a, ha, rfl⟩ := y_inb_t hz
        obtain ⟨hds, rfl⟩ := y_code_some hCW.1 hcd
        rw [H_add_h_eq] at hC
        simp only [hh2] at hC
        by_cases h8 : nh = 8
        · subst h8
          rw [if_neg (show ¬ nI 8 < nI 8 by decide), Option.bind_some, if_pos (show nI 0 = nI 0 from rfl)] at hC
          rw [if_pos hh3] at hK
          exact y_op.same h hC hK
        · simp only [y_lt (show nh < 2 ^ 31 by omega) (show 8 < 2 ^ 31 by decide)] at hC
          rw [if_pos (show nh < 8 by omega), y_in (show nh < 8 by omega) (by decide), y_in (show nh < 8 by omega) (by decide), y_in (show nh < 8 by omega) (by decide), Option.bind_some, if_neg (show ¬ nI 1 = nI 0 by decide), y_add, y_clamp (by omega)] at hC
          generalize hM1 : x_up (x_up (x_up (x_up M 22 nh (nI i)) 23 nh (nI (y_cd ds))) 24 nh (nI a)) 21 3 (nI (nh + 1)) = M1 at hC
          have q42 : M1 42 = M 42 := by rw [← hM1]; rfl
          have q45 : M1 45 = M 45 := by rw [← hM1]; rfl
          have q40 : M1 40 = M 40 := by rw [← hM1]; rfl
          have hKW1 : y_KW M1 w pr me N.2.2 := by unfold y_KW at hKW ⊢; rw [q42, q45]; exact hKW
          have hKR1 : y_KR M1 r ki wa := by unfold y_KR at hKR ⊢; rw [q42]; exact hKR
          have hK := K_tell_eq (nI i) (nI (y_cd ds)) (nI a) M1
          rw [k_isReader (by omega) hKR1.2.1, Option.bind_some, y_b0, k_longOf hKW1.1 hKW1.2.1, Option.bind_some, y_cl0 hKW1.1, k_in0 (by decide), Option.bind_some, y_b0, if_pos hx, hcd] at hK
          simp only [Option.isSome_some, if_true, show y_inb (nI a) (1 + 1) = true from hz, q40, hh3, y_mul, y_add, y_in2 (show 2 * nh < 16 by omega) (show 16 < 2 ^ 31 by decide), y_in2 (show 2 * nh + 1 < 16 by omega) (show 16 < 2 ^ 31 by decide), y_clamp (show 2 * nh < 2 ^ 31 by omega), y_clamp (show 2 * nh + 1 < 2 ^ 31 by omega)] at hK
          rw [if_neg (by rw [y_eq (by omega) (by omega)]; exact h8)] at hK
          refine ⟨nI (nh + 1), M1, _, ?_, hK, ⟨w, pr, me, r, ki, wa, N, nt, tx, nc, ch, nk, kp, nh + 1, fun t => if t = nh then (i, ds, a) else th t, ⟨?_, hN, ?_, ?_, ?_, ?_, ?_⟩⟩, ?_, ?_⟩
          · rw [hC, ← hM1]
            simp only [y_up_at]
            rfl
          · rw [← hM1]; exact hp.keep rfl rfl rfl rfl rfl rfl rfl rfl rfl
          · rw [← hM1]; exact hn.keep rfl rfl rfl
          · rw [← hM1]; exact ht.keep rfl rfl rfl (by simp only [y_up_at]; rfl)
          · rw [← hM1]; exact hc.keep rfl rfl rfl (by simp only [y_up_at]; rfl)
          · rw [← hM1]; exact hk.keep rfl rfl rfl (by simp only [y_up_at]; rfl)
          · refine ⟨by omega, by rw [← hM1]; simp only [y_up_at]; rfl, by simp only [y_up_at]; rfl, fun t htt => ?_⟩
            rw [← hM1]
            simp only [y_up_at]
            by_cases hjn : t = nh
            · subst hjn
              simp
              exact ⟨hi, hds, by omega⟩
            · have := hh4 t (by omega)
              have e1 : ¬ 2 * t = 2 * nh := by omega
              have e2 : ¬ 2 * t = 2 * nh + 1 := by omega
              have e3 : ¬ 2 * t + 1 = 2 * nh := by omega
              simp [hjn, e1, e2, e3]
              exact this
          · rw [← hM1]; rfl
          · rw [← hM1]; rfl
      · simp only [show ¬ y_inb z (1 + 1) = true from hz, if_false] at hK
        simp only [hz, if_false] at hC
        exact y_op.same h hC hK
  · rw [if_neg hx] at hC hK
    exact y_op.same h hC hK
theorem w_both {M : xM} {r : Nat} {ki wa : Nat → Nat} (hC : y_CRp M r ki wa) (hK : y_KR M r ki wa) : ∀ (n i : Nat) (x : Int32), i + n = r → ∃ v, C_wanted_6 x (nI i) M = some (v, M) ∧ K_wanted_6 x (nI i) M = some (v, M)
  | 0, i, x, h => by
    have hr := hC.1
    refine ⟨x, ?_, ?_⟩
    · rw [C_wanted_6_eq, hC.2.1, if_pos (by rw [y_le (by omega) (by omega)]; omega)]
    · rw [K_wanted_6_eq, hK.2.1, if_pos (by rw [y_le (by omega) (by omega)]; omega)]
  | n + 1, i, x, h => by
    have hr := hC.1
    obtain ⟨v, h1, h2⟩ := w_both hC hK n (i + 1) (x &&& (((nI 1) <<< ((nI (wa i)) &&& nI 31)) ^^^ (-1 : Int32))) (by omega)
    refine ⟨v, ?_, ?_⟩
    · rw [C_wanted_6_eq, hC.2.1, if_neg (by rw [y_le (by omega) (by omega)]; omega), y_in (show i < 6 by omega) (by decide), y_clamp (by omega), (hC.2.2.1 i (by omega)).2, y_add]
      exact h1
    · rw [K_wanted_6_eq, hK.2.1, if_neg (by rw [y_le (by omega) (by omega)]; omega), y_add, y_in (show 24 + i < 30 by omega) (by decide), y_clamp (by omega), (hK.2.2.1 i (by omega)).2, y_add]
      exact h2
theorem op_wanted {M : xM} (h : y_Inv M) : y_op C_wanted K_wanted M := by
  obtain ⟨w, pr, me, r, ki, wa, N, nt, tx, nc, ch, nk, kp, nh, th, ⟨⟨-, hCW, hCR, hKW, hKR⟩, -⟩⟩ := id h
  obtain ⟨v, h1, h2⟩ := w_both hCR hKR r 0 (nI 1023) (by omega)
  exact y_op.same h (by rw [C_wanted_eq]; exact h1) (by rw [K_wanted_eq]; exact h2)
theorem op_notice {M : xM} (h : y_Inv M) (x y : Int32) : y_op (C_notice x y) (K_notice x y) M := by
  obtain ⟨w, pr, me, r, ki, wa, N, nt, tx, nc, ch, nk, kp, nh, th, hI⟩ := id h
  obtain ⟨⟨-, hCW, hCR, hKW, hKR⟩, hN, ⟨hn1, hn2, hn3⟩, ht, hc, hk, hh⟩ := id hI
  have hn6 := hN.1
  have hC := C_notice_eq x y M
  rw [c_hasN (by omega) hn1, Option.bind_some, y_b0] at hC
  by_cases hx : y_inb x N.1 = true
  · rw [if_pos hx] at hC
    obtain ⟨j, hj, rfl⟩ := y_inb_t hx
    have hds := hN.2.1 j hj
    obtain ⟨M1, m1, m2, m3⟩ := c_measurep hCW hds
    have m4 : y_but y_scr M M1 := m3.mono (by decide)
    obtain ⟨⟨-, hCW1, hCR1, hKW1, hKR1⟩, -, ⟨hm1, hm2, hm3⟩, -⟩ := hI.scr m4
    rw [y_in (show j < 6 by omega) (by decide)] at hC
    simp only [y_clamp (show j < 2 ^ 31 by omega), hn2 j hj, m1, Option.bind_some, c_answ_r (fun j hj => (hCW1.2.2.2 j hj).2) hCR1 hds m2, m2.1, m2.2.1, m2.2.2.1] at hC
    have hK := K_notice_eq (nI j) y M1
    have hcode : M1 45 (1 + j) = nI (y_cd (N.2.1 j)) := by
      have := hm3.2.1 j hj
      rwa [Nat.zero_add] at this
    rw [k_isNotice (by omega) hm3.1, Option.bind_some, y_b0, if_pos hx, k_in0 (by decide), Option.bind_some, y_b0] at hK
    simp only [y_add, y_in2 (show 1 + j < 15 by omega) (show 15 < 2 ^ 31 by decide), y_clamp (show 1 + j < 2 ^ 31 by omega), hcode, k_priceOf hKW1 hds, k_long_ds hKW1.1 hKW1.2.1 hds, k_whoDoes hKW1 hKR1 hds, Option.bind_some] at hK
    rcases y_cases y with hy | ⟨n, hn, rfl⟩
    · rw [if_neg (y_neg_ne hy (by omega)), if_neg (y_neg_ne hy (by omega)), if_neg (y_neg_ne hy (by omega)), if_neg (y_neg_ne hy (by omega))] at hC
      rw [y_inb_neg hy] at hK
      exact y_op.ro h hC hK m4 y_but.rf
    · rw [y_inb_nI hn] at hK
      simp only [y_eq hn (show 0 < 2 ^ 31 by decide), y_eq hn (show 1 < 2 ^ 31 by decide), y_eq hn (show 2 < 2 ^ 31 by decide), y_eq hn (show 3 < 2 ^ 31 by decide)] at hC hK
      by_cases h0 : n = 0
      · subst h0
        exact y_op.ro h hC hK m4 y_but.rf
      · by_cases h1 : n = 1
        · subst h1
          exact y_op.ro h hC hK m4 y_but.rf
        · by_cases h2 : n = 2
          · subst h2
            exact y_op.ro h hC hK m4 y_but.rf
          · by_cases h3 : n = 3
            · subst h3
              exact y_op.ro h hC hK m4 y_but.rf
            · rw [if_neg h0, if_neg h1, if_neg h2, if_neg h3] at hC
              rw [if_neg (by simp; omega)] at hK
              exact y_op.ro h hC hK m4 y_but.rf
  · rw [if_neg hx] at hC
    have hK := K_notice_eq x y M
    rw [k_isNotice (by omega) hn3.1, Option.bind_some, y_b0, if_neg hx] at hK
    exact y_op.same h hC hK
