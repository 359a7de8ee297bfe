/-! taken -/
def y_tb (ta : Nat → Nat) (x b : Nat) (j : Nat) : Nat := if j = x then b else ta j
theorem y_bit_or10 : ∀ s, s < 1024 → ∀ d, d < 10 → (nI s ||| ((nI 1) <<< (nI d &&& nI 31))) = nI (s ||| 2 ^ d) := by decide +kernel
theorem y_bs_1024 {p : Nat → Nat} {n : Nat} (h : n ≤ 10) : y_bs p n < 1024 := by
  have h1 := y_bs_lt p n
  have h2 : 2 ^ n ≤ 2 ^ 10 := Nat.pow_le_pow_right (by decide) h
  omega
section
variable {w r h x : Nat} {pr me ta ki wa : Nat → Nat} {th : Nat → Nat × List Nat × Nat}
theorem y_CWd.tb {M : xM} {ta0 : Nat → Nat} {b : Nat} (H : y_CWd M w pr me ta0) (hb : b ≤ 9) (he : ∀ j, j < w → j ≠ x → ta0 j = ta j) : y_CWd (x_up M 13 x (nI b)) w pr me (y_tb ta x b) := by
  obtain ⟨h1, h2, h3, h4⟩ := H
  refine ⟨h1, by simp only [y_up_at]; simpa using h2, fun j hj => ?_, fun j hj => ?_⟩
  · obtain ⟨a1, a2, a3⟩ := h3 j hj
    simp only [y_up_at, y_tb]
    by_cases e : j = x
    · simp [e]
      rw [← e]
      exact ⟨a1, a2⟩
    · simp [e, a1, a2, a3, he j hj e]
  · obtain ⟨a1, a2, a3⟩ := h4 j hj
    refine ⟨a1, a2, ?_⟩
    unfold y_tb
    by_cases e : j = x
    · rw [if_pos e]; exact hb
    · rw [if_neg e, ← he j hj e]; exact a3
theorem y_KW.tb {M : xM} {ta0 : Nat → Nat} {b : Nat} (H : y_KW M w pr me ta0) (hb : b ≤ 9) (he : ∀ j, j < w → j ≠ x → ta0 j = ta j) : y_KW (x_up M 45 (7 + x) (nI b)) w pr me (y_tb ta x b) := by
  obtain ⟨h1, h2, h3, h4⟩ := H
  refine ⟨h1, by simp only [y_up_at]; simpa using h2, fun j hj => ?_, fun j hj => ?_⟩
  · obtain ⟨a1, a2, a3⟩ := h3 j hj
    simp only [y_up_at, y_tb]
    by_cases e : j = x
    · simp [e]
      rw [← e]
      exact ⟨a1, a2⟩
    · simp [e, a1, a2, a3, he j hj e]
  · obtain ⟨a1, a2, a3⟩ := h4 j hj
    refine ⟨a1, a2, ?_⟩
    unfold y_tb
    by_cases e : j = x
    · rw [if_pos e]; exact hb
    · rw [if_neg e, ← he j hj e]; exact a3
def y_tq (me ta ki wa : Nat → Nat) (th : Nat → Nat × List Nat × Nat) (h x b : Nat) : Nat := if y_ls me (y_tb ta x b) ki wa th h = 0 then 1 else 0
theorem c_tk28 (hT : y_thk w r h th) (hx : x < w) : ∀ (n b : Nat) (M : xM) (ta0 : Nat → Nat), b + n = 10 → (∀ j, j < w → j ≠ x → ta0 j = ta j) → y_CWd M w pr me ta0 → y_CRd M r ki wa → y_CH M h th → ∃ M', C_taken_28 (nI x) (nI (y_bs (y_tq me ta ki wa th h x) b)) (nI b) M = some (nI (y_bs (y_tq me ta ki wa th h x) 10), M') ∧ y_but [13, 25] M M'
  | 0, b, M, ta0, e, he, hC, hR, hH => by
    refine ⟨M, ?_, y_but.rf⟩
    rw [C_taken_28_eq, if_pos (by rw [y_le (by omega) (by omega)]; omega), show b = 10 by omega]
  | n + 1, b, M, ta0, e, he, hC, hR, hH => by
    have hw := hC.1
    have b0 : y_but [13, 25] M (x_up M 13 x (nI b)) := y_but.rf.up (by simp)
    have hC0 := hC.tb (x := x) (b := b) (by omega) he
    have hR0 : y_CRd (x_up M 13 x (nI b)) r ki wa := hR.keep (b0 _ (by decide)) (b0 _ (by decide)) (b0 _ (by decide))
    have hH0 : y_CH (x_up M 13 x (nI b)) h th := hH.keep (b0 _ (by decide)) (b0 _ (by decide)) (b0 _ (by decide)) (b0 _ (by decide))
    obtain ⟨M1, m1, m3⟩ := c_liarsd hT hC0 hR0 hH0
    have hC1 : y_CWd M1 w pr me (y_tb ta x b) := hC0.keep (m3 _ (by decide)) (m3 _ (by decide)) (m3 _ (by decide)) (m3 _ (by decide))
    have hR1 : y_CRd M1 r ki wa := hR0.keep (m3 _ (by decide)) (m3 _ (by decide)) (m3 _ (by decide))
    have hH1 : y_CH M1 h th := hH0.keep (m3 _ (by decide)) (m3 _ (by decide)) (m3 _ (by decide)) (m3 _ (by decide))
    obtain ⟨M', a1, a2⟩ := c_tk28 hT hx n (b + 1) M1 (y_tb ta x b) (by omega) (fun j _ hj => if_neg hj) hC1 hR1 hH1
    refine ⟨M', ?_, (b0.tr (m3.mono (by decide))).tr a2⟩
    have hs := y_bs_1024 (p := y_tq me ta ki wa th h x) (n := b) (by omega)
    have hl := y_ls_lt (me := me) (ta := y_tb ta x b) (ki := ki) (wa := wa) hR.1 hT (Nat.le_refl h)
    rw [y_bs_s] at a1
    rw [C_taken_28_eq, if_neg (by rw [y_le (by omega) (by omega)]; omega), y_in (show x < 8 by omega) (by decide), y_clamp (by omega), m1, Option.bind_some, y_bit_or10 _ hs _ (by omega), y_add]
    simp only [y_eq (show y_ls me (y_tb ta x b) ki wa th h < 2 ^ 31 by omega) (show 0 < 2 ^ 31 by decide)]
    unfold y_tq at a1 ⊢
    by_cases q : y_ls me (y_tb ta x b) ki wa th h = 0
    · rw [if_pos q, if_neg (show ¬ 1 = 0 by decide)] at a1
      rw [if_pos q]
      exact a1
    · rw [if_neg q, if_pos rfl, Nat.or_zero] at a1
      rw [if_neg q]
      exact a1
/-- a memory but for one place -/
theorem y_back {M M' : xM} {a p : Nat} (h : ∀ b j, ¬ (b = a ∧ j = p) → M' b j = M b j) : x_up M' a p (M a p) = M := by
  funext b j
  rw [y_up_at]
  by_cases e : b = a ∧ j = p
  · rw [if_pos e, e.1, e.2]
  · rw [if_neg e, h b j e]
theorem k_tk25 {M : xM} (hT : y_thk w r h th) (hx : x < w) (hK : y_KW M w pr me ta) (hR : y_KR M r ki wa) (hH : y_KH M h th) : ∀ (n b : Nat) (M' : xM), b + n = 10 → (∀ a j, ¬ (a = 45 ∧ j = 7 + x) → M' a j = M a j) → K_taken_25 (nI x) (M 45 (7 + x)) (nI (y_bs (y_tq me ta ki wa th h x) b)) (nI b) M' = some (nI (y_bs (y_tq me ta ki wa th h x) 10), M)
  | 0, b, M', e, he => by
    have hw := hK.1
    rw [K_taken_25_eq, if_pos (by rw [y_le (by omega) (by omega)]; omega), y_add, y_in (show 7 + x < 15 by omega) (by decide), y_clamp (by omega), y_back he, show b = 10 by omega]
  | n + 1, b, M', e, he => by
    have hw := hK.1
    have e1 : x_up M' 45 (7 + x) (nI b) = x_up M 45 (7 + x) (nI b) := by
      funext a j
      rw [y_up_at, y_up_at]
      by_cases q : a = 45 ∧ j = 7 + x
      · rw [if_pos q, if_pos q]
      · rw [if_neg q, if_neg q, he a j q]
    have he1 : ∀ a j, ¬ (a = 45 ∧ j = 7 + x) → x_up M 45 (7 + x) (nI b) a j = M a j := fun a j q => by rw [y_up_at, if_neg q]
    have b0 : y_but [45] M (x_up M 45 (7 + x) (nI b)) := y_but.rf.up (by simp)
    have hK0 := hK.tb (x := x) (b := b) (ta := ta) (by omega) (fun _ _ _ => rfl)
    have hR0 : y_KR (x_up M 45 (7 + x) (nI b)) r ki wa := by unfold y_KR at hR ⊢; rw [b0 42 (by decide)]; exact hR
    have hH0 : y_KH (x_up M 45 (7 + x) (nI b)) h th := by unfold y_KH at hH ⊢; rw [b0 40 (by decide), b0 48 (by decide)]; exact hH
    have ih := k_tk25 hT hx hK hR hH n (b + 1) (x_up M 45 (7 + x) (nI b)) (by omega) he1
    have hs := y_bs_1024 (p := y_tq me ta ki wa th h x) (n := b) (by omega)
    have hso : y_sos me (y_tb ta x b) ki wa th 63 h = y_tq me ta ki wa th h x b := y_so_all h (fun t ht => by have := (hT.2 t ht).1; have := hR.1; omega)
    rw [y_bs_s] at ih
    rw [K_taken_25_eq, if_neg (by rw [y_le (by omega) (by omega)]; omega), y_add, y_in (show 7 + x < 15 by omega) (by decide), y_clamp (by omega), e1, k_isSo hT hK0 hR0 hH0 (by decide), Option.bind_some, hso, y_or0, y_bit_or10 _ hs _ (by omega), y_add]
    unfold y_tq at ih ⊢
    by_cases q : y_ls me (y_tb ta x b) ki wa th h = 0
    · rw [if_pos q, if_neg (show ¬ 1 = 0 by decide)] at ih
      rw [if_pos q, if_neg (show ¬ nI 1 = nI 0 by decide)]
      exact ih
    · rw [if_neg q, if_pos rfl, Nat.or_zero] at ih
      rw [if_neg q, if_pos rfl]
      exact ih
end
theorem op_taken {M : xM} (h : y_Inv M) (x : Int32) : y_op (C_taken x) (K_taken x) M := by
  obtain ⟨w, pr, me, r, ki, wa, N, nt, tx, nc, ch, nk, kp, nh, th, hI⟩ := id h
  obtain ⟨⟨-, hCW, hCR, hKW, hKR⟩, hN, hn, ht, hc, hk, hh⟩ := id hI
  obtain ⟨hT, hCH, hKH⟩ := hh.sp
  have hr := hCR.1
  have hw := hCW.1
  have hC := C_taken_eq x M
  have hK := K_taken_eq x M
  rw [c_hasW (by omega) hCW.2.1, Option.bind_some, y_b0] at hC
  rw [k_isWord (by omega) hKW.2.1, Option.bind_some, y_b0] at hK
  by_cases hx : y_inb x w = true
  · rw [if_pos hx, P_copyFrom_d_p_eq, Option.bind_some] at hC
    obtain ⟨j, hj, rfl⟩ := y_inb_t hx
    generalize hM0 : (x_up (x_up (x_up (x_set (x_set (x_set (x_set (x_set (x_set M 11 (va_cpy (M 4) (M 11) 0 0 8)) 12 (va_cpy (M 5) (M 12) 0 0 8)) 13 (va_cpy (M 6) (M 13) 0 0 8)) 14 (va_cpy (M 7) (M 14) 0 0 6)) 15 (va_cpy (M 8) (M 15) 0 0 6)) 16 (va_cpy (M 9) (M 16) 0 0 6)) 10 6 (M 3 6)) 10 7 (M 3 7)) 10 8 (M 3 8)) = M0 at hC
    have b0 : y_but [10, 11, 12, 13, 14, 15, 16] M M0 := by
      rw [← hM0]
      exact ((((((((y_but.rf.set (by simp)).set (by simp)).set (by simp)).set (by simp)).set (by simp)).set (by simp)).up (by simp)).up (by simp)).up (by simp)
    have hCd : y_CWd M0 w pr me N.2.2 := by
      refine ⟨hw, ?_, fun i hi => ?_, hCW.2.2.2⟩
      · rw [← hM0]; simp only [y_up_at]; simpa using hCW.2.1
      · rw [← hM0, ← (hCW.2.2.1 i hi).1, ← (hCW.2.2.1 i hi).2.1, ← (hCW.2.2.1 i hi).2.2]
        simp only [y_up_at, y_set_at, va_cpy]
        refine ⟨?_, ?_, ?_⟩ <;> simp <;> omega
    have hRd : y_CRd M0 r ki wa := by
      refine ⟨hr, ?_, fun i hi => ?_, hCR.2.2.2⟩
      · rw [← hM0]; simp only [y_up_at]; simpa using hCR.2.1
      · rw [← hM0, ← (hCR.2.2.1 i hi).1, ← (hCR.2.2.1 i hi).2]
        simp only [y_up_at, y_set_at, va_cpy]
        refine ⟨?_, ?_⟩ <;> simp <;> omega
    have hHd : y_CH M0 nh th := hCH.keep (b0 _ (by decide)) (b0 _ (by decide)) (b0 _ (by decide)) (b0 _ (by decide))
    obtain ⟨M1, a1, a2⟩ := c_tk28 (ta := N.2.2) hT hj 10 0 M0 N.2.2 (by omega) (fun _ _ _ => rfl) hCd hRd hHd
    have a3 : y_but y_scr M M1 := (b0.mono (by decide)).tr (a2.mono (by decide))
    obtain ⟨⟨-, -, -, hKW1, hKR1⟩, -, -, -, -, -, hh1⟩ := hI.scr a3
    have hK := K_taken_eq (nI j) M1
    rw [k_isWord (by omega) hKW1.2.1, Option.bind_some, y_b0, if_pos hx, y_add, y_in (show 7 + j < 15 by omega) (by decide), y_clamp (by omega)] at hK
    have e := k_tk25 hT hj hKW1 hKR1 hh1.sp.2.2 10 0 M1 (by omega) (fun _ _ _ => rfl)
    exact y_op.ro h (hC.trans a1) (hK.trans e) a3 y_but.rf
  · rw [if_neg hx] at hC hK
    exact y_op.same h hC hK
