/-! put, take, takeFor -/
theorem y_pap.keep2 {M M' : xM} {w : Nat} {pr me ta : Nat → Nat} {r : Nat} {ki wa : Nat → Nat} (h : y_pap M w pr me ta r ki wa) (h1 : M' 3 6 = M 3 6) (h2 : M' 3 7 = M 3 7) (h3 : M' 4 = M 4) (h4 : M' 5 = M 5) (h5 : M' 6 = M 6) (h6 : M' 7 = M 7) (h7 : M' 8 = M 8) (h8 : M' 42 = M 42) (h9 : ∀ j, 7 ≤ j → M' 45 j = M 45 j) : y_pap M' w pr me ta r ki wa := by
  unfold y_pap y_CWp y_CRp y_KW y_KR at h ⊢
  rw [h1, h2, h3, h4, h5, h6, h7, h8]
  obtain ⟨a, b, c, ⟨d1, d2, d3, d4⟩, e⟩ := h
  exact ⟨a, b, c, ⟨d1, d2, fun j hj => by rw [h9 (7 + j) (by omega)]; exact d3 j hj, d4⟩, e⟩
/-- the state behind a change -/
theorem y_I.pushed {M M' : xM} {w : Nat} {pr me : Nat → Nat} {r : Nat} {ki wa : Nat → Nat} {N N' : yN} {nt : Nat} {tx : Nat → Nat} {nc : Nat} {ch : Nat → yN} {nk : Nat} {kp : Nat → yN} {nh : Nat} {th : Nat → Nat × List Nat × Nat}
    (h : y_I M w pr me r ki wa N nt tx nc ch nk kp nh th) (hp : y_pap M' w pr me N'.2.2 r ki wa) (hN : y_Nok w N') (hn : y_now M' w N')
    (a1 : M' 17 0 = nI 8) (a2 : M' 17 2 = nI (y_psh nc ch N).1) (a3 : ∀ t, t < (y_psh nc ch N).1 → y_rC (M' 18) (15 * t) w ((y_psh nc ch N).2 t)) (a4 : M' 40 7 = nI (y_psh nc ch N).1) (a5 : ∀ t, t < (y_psh nc ch N).1 → y_rK (M' 46) (15 * t) w ((y_psh nc ch N).2 t))
    (hb : y_but [3, 6, 9, 17, 18, 40, 45, 46] M M') (h40 : ∀ j, j ≠ 7 → M' 40 j = M 40 j) : y_I M' w pr me r ki wa N' nt tx (y_psh nc ch N).1 (y_psh nc ch N).2 nk kp nh th := by
  obtain ⟨-, hN0, -, ht, hc, hk, hh⟩ := h
  obtain ⟨p1, p2⟩ := y_psh_ok hN0 hc.1 (fun t ht => (hc.2.2.2.2 t ht).1)
  exact ⟨hp, hN, hn, ht.keep (hb _ (by decide)) (hb _ (by decide)) (hb _ (by decide)) (h40 1 (by decide)), ⟨p1, a1, a2, a4, fun t ht => ⟨p2 t ht, a3 t ht, a5 t ht⟩⟩, hk.keep (hb _ (by decide)) (hb _ (by decide)) (hb _ (by decide)) (h40 9 (by decide)), hh.keep (hb _ (by decide)) (hb _ (by decide)) (hb _ (by decide)) (hb _ (by decide)) (hb _ (by decide)) (h40 11 (by decide))⟩
theorem op_put {M : xM} (h : y_Inv M) (x : Int32) : y_op (C_put x) (K_put x) M := by
  obtain ⟨w, pr, me, r, ki, wa, N, nt, tx, nc, ch, nk, kp, nh, th, hI⟩ := id h
  obtain ⟨hp, hN, hn, ht, hc, hk, hh⟩ := id hI
  obtain ⟨-, hCW, hCR, hKW, hKR⟩ := id hp
  obtain ⟨hn1, hn2, hn3⟩ := id hn
  have hw := hCW.1
  have hn6 := hN.1
  have hC := C_put_eq x M
  rw [c_isCode hCW, Option.bind_some, y_b0] at hC
  cases hcd : y_code w x with
  | none =>
    have hK := K_put_eq x M
    rw [k_longOf hKW.1 hKW.2.1, Option.bind_some, y_cl0 hKW.1, hcd] at hK
    rw [hcd] at hC
    exact y_op.same h hC hK
  | some ds =>
    rw [hcd] at hC
    obtain ⟨hds, rfl⟩ := y_code_some hw hcd
    simp only [Option.isSome_some, if_true, hn1, y_lt (show N.1 < 2 ^ 31 by omega) (show 6 < 2 ^ 31 by decide)] at hC
    by_cases h6 : N.1 = 6
    · have hK := K_put_eq (nI (y_cd ds)) M
      rw [k_longOf hKW.1 hKW.2.1, Option.bind_some, y_cl0 hKW.1, hcd] at hK
      simp only [Option.isSome_some, if_true, hn3.1, h6] at hK
      rw [if_neg (by omega)] at hC
      exact y_op.same h hC hK
    · obtain ⟨M1, b1, b2, b3, b4, b5⟩ := c_pushF (st := ch) hw hN (fun j hj => (hCW.2.2.1 j hj).2.2) hn2 hn1 hc.1 hc.2.1 hc.2.2.1 (fun t ht => ⟨(hc.2.2.2.2 t ht).1, (hc.2.2.2.2 t ht).2.1⟩)
      have e38 : M1 3 8 = nI N.1 := by rw [b5 3 (by decide)]; exact hn1
      rw [if_pos (by omega), b1, Option.bind_some, P_addNotice_p_eq] at hC
      simp only [e38, y_lt (show N.1 < 2 ^ 31 by omega) (show 6 < 2 ^ 31 by decide)] at hC
      rw [if_pos (show N.1 < 6 by omega), y_in (show N.1 < 6 by omega) (by decide), y_clamp (by omega), y_add, Option.bind_some] at hC
      generalize hM2 : x_up (x_up M1 9 N.1 (nI (y_cd ds))) 3 8 (nI (N.1 + 1)) = M2 at hC
      have q : ∀ a, 10 ≤ a → a ≠ 17 → a ≠ 18 → M2 a = M a := by
        intro a h1 h2 h3
        rw [← hM2, y_up_ne (by omega), y_up_ne (by omega), b5 a (by simp; omega)]
      have hKW2 : y_KW M2 w pr me N.2.2 := by unfold y_KW at hKW ⊢; rw [q 42 (by decide) (by decide) (by decide), q 45 (by decide) (by decide) (by decide)]; exact hKW
      have hn3' : y_rK (M2 45) 0 w N := by rw [q 45 (by decide) (by decide) (by decide)]; exact hn3
      obtain ⟨M3, d1, d2, d3, d4, d5⟩ := k_keeps (M := M2) (st := ch) hw hN hn3' hc.1 (by rw [q 40 (by decide) (by decide) (by decide)]; exact hc.2.2.2.1) (fun t ht => ⟨(hc.2.2.2.2 t ht).1, by rw [q 46 (by decide) (by decide) (by decide)]; exact (hc.2.2.2.2 t ht).2.2⟩)
      have hK := K_put_eq (nI (y_cd ds)) M2
      rw [k_longOf hKW2.1 hKW2.2.1, Option.bind_some, y_cl0 hKW2.1, hcd] at hK
      have e45 : M3 45 = M2 45 := d5 45 (by decide)
      simp only [Option.isSome_some, if_true, hn3'.1, d1, Option.bind_some, e45, y_add, y_in2 (show 1 + N.1 < 15 by omega) (show 15 < 2 ^ 31 by decide), y_clamp (show 1 + N.1 < 2 ^ 31 by omega)] at hK
      rw [if_neg (by rw [y_eq (by omega) (by omega)]; exact h6)] at hK
      have e0 : (x_up M3 45 (1 + N.1) (nI (y_cd ds))) 45 0 = nI N.1 := by
        simp only [y_up_at]
        rw [if_neg (by omega), e45]
        exact hn3'.1
      rw [e0, y_add] at hK
      have q2 : ∀ a, a ≠ 40 → a ≠ 45 → a ≠ 46 → (x_up (x_up M3 45 (1 + N.1) (nI (y_cd ds))) 45 0 (nI (N.1 + 1))) a = M2 a := by
        intro a h1 h2 h3
        rw [y_up_ne (by omega), y_up_ne (by omega), d5 a (by simp; omega)]
      have q3 : ∀ a, a ≠ 3 → a ≠ 9 → a ≠ 17 → a ≠ 18 → M2 a = M a := by
        intro a h1 h2 h3 h4
        rw [← hM2, y_up_ne (by omega), y_up_ne (by omega), b5 a (by simp; omega)]
      have q4 : ∀ j, (x_up (x_up M3 45 (1 + N.1) (nI (y_cd ds))) 45 0 (nI (N.1 + 1))) 45 j = if j = 0 then nI (N.1 + 1) else if j = 1 + N.1 then nI (y_cd ds) else M 45 j := by
        intro j
        simp only [y_up_at, e45, q 45 (by decide) (by decide) (by decide)]
        simp
      have q5 : M2 3 8 = nI (N.1 + 1) := by rw [← hM2]; simp only [y_up_at]; simp
      refine ⟨nI (N.1 + 1), M2, _, ?_, hK, ⟨w, pr, me, r, ki, wa, (N.1 + 1, fun k => if k = N.1 then ds else N.2.1 k, N.2.2), nt, tx, _, _, nk, kp, nh, th, hI.pushed ?_ ?_ ?_ ?_ ?_ ?_ ?_ ?_ ?_ ?_⟩, ?_, ?_⟩
      · rw [hC]
        show some (M2 3 8, M2) = _
        rw [q5]
      · refine hp.keep2 ?_ ?_ ?_ ?_ ?_ ?_ ?_ ?_ (fun j hj => by rw [q4 j, if_neg (by omega), if_neg (by omega)])
        · rw [q2 3 (by decide) (by decide) (by decide), ← hM2]; simp only [y_up_at]; simp; rw [b5 3 (by decide)]
        · rw [q2 3 (by decide) (by decide) (by decide), ← hM2]; simp only [y_up_at]; simp; rw [b5 3 (by decide)]
        all_goals rw [q2 _ (by decide) (by decide) (by decide), q3 _ (by decide) (by decide) (by decide) (by decide)]
      · refine ⟨by show N.1 + 1 ≤ 6; omega, fun k hk => ?_, hN.2.2⟩
        show y_no w (if k = N.1 then ds else N.2.1 k)
        split
        · exact hds
        · exact hN.2.1 k (by have hk : k < N.1 + 1 := hk; omega)
      · refine ⟨by rw [q2 3 (by decide) (by decide) (by decide)]; exact q5, fun k hk => ?_, ?_, fun k hk => ?_, fun j hj => ?_⟩
        · have hk : k < N.1 + 1 := hk
          rw [q2 9 (by decide) (by decide) (by decide), ← hM2]
          simp only [y_up_at]
          simp
          by_cases e : k = N.1
          · simp [e]
          · simp [e]
            rw [b5 9 (by decide)]
            exact hn2 k (by omega)
        · rw [q4]; rfl
        · have hk : k < N.1 + 1 := hk
          rw [q4, if_neg (by omega)]
          show _ = nI (y_cd (if k = N.1 then ds else N.2.1 k))
          by_cases e : k = N.1
          · rw [if_pos (by omega), if_pos e]
          · rw [if_neg (by omega), if_neg e]
            exact hn3.2.1 k (by omega)
        · rw [q4, if_neg (by omega), if_neg (by omega)]
          exact hn3.2.2 j hj
      · rw [q2 17 (by decide) (by decide) (by decide), ← hM2]; exact b2
      · rw [q2 17 (by decide) (by decide) (by decide), ← hM2]; exact b3
      · rw [q2 18 (by decide) (by decide) (by decide), ← hM2]; exact b4
      · exact d2
      · exact d4
      · intro a ha
        simp only [List.mem_cons, List.not_mem_nil, or_false, not_or] at ha
        rw [q2 a (by omega) (by omega) (by omega), q3 a (by omega) (by omega) (by omega) (by omega)]
      · intro j hj
        show M3 40 j = M 40 j
        rw [d3 j hj, q 40 (by decide) (by decide) (by decide)]
      · rw [q2 98 (by decide) (by decide) (by decide), q3 98 (by decide) (by decide) (by decide) (by decide)]
      · rw [q2 99 (by decide) (by decide) (by decide), q3 99 (by decide) (by decide) (by decide) (by decide)]
