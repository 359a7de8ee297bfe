/-! the state that both hold; what is kept; which numbers are told -/
/-- notices (how many, their words), what words are taken for -/
abbrev yN : Type := Nat × (Nat → List Nat) × (Nat → Nat)
def y_Nok (w : Nat) (N : yN) : Prop := N.1 ≤ 6 ∧ (∀ k, k < N.1 → y_no w (N.2.1 k)) ∧ ∀ j, j < w → N.2.2 j ≤ 9
/-- a row of the class's shelves, of the reference's -/
def y_rC (f : Nat → Int32) (b w : Nat) (N : yN) : Prop := (∀ j, j < w → f (b + j) = nI (N.2.2 j)) ∧ (∀ k, k < N.1 → f (b + 8 + k) = nI (y_cd (N.2.1 k))) ∧ f (b + 14) = nI N.1
def y_rK (f : Nat → Int32) (b w : Nat) (N : yN) : Prop := f b = nI N.1 ∧ (∀ k, k < N.1 → f (b + 1 + k) = nI (y_cd (N.2.1 k))) ∧ ∀ j, j < w → f (b + 7 + j) = nI (N.2.2 j)
def y_txt (M : xM) (n : Nat) (tx : Nat → Nat) : Prop := n ≤ 200 ∧ M 1 1 = nI n ∧ M 40 1 = nI n ∧ ∀ j, j < n → M 2 j = nI (tx j) ∧ M 41 j = nI (tx j) ∧ 32 ≤ tx j ∧ tx j ≤ 126
def y_now (M : xM) (w : Nat) (N : yN) : Prop := M 3 8 = nI N.1 ∧ (∀ k, k < N.1 → M 9 k = nI (y_cd (N.2.1 k))) ∧ y_rK (M 45) 0 w N
def y_chg (M : xM) (w c : Nat) (st : Nat → yN) : Prop := c ≤ 8 ∧ M 17 0 = nI 8 ∧ M 17 2 = nI c ∧ M 40 7 = nI c ∧ ∀ t, t < c → y_Nok w (st t) ∧ y_rC (M 18) (15 * t) w (st t) ∧ y_rK (M 46) (15 * t) w (st t)
def y_kep (M : xM) (w c : Nat) (st : Nat → yN) : Prop := c ≤ 2 ∧ M 19 0 = nI 2 ∧ M 19 2 = nI c ∧ M 40 9 = nI c ∧ ∀ t, t < c → y_Nok w (st t) ∧ y_rC (M 20) (15 * t) w (st t) ∧ y_rK (M 47) (15 * t) w (st t)
def y_tol (M : xM) (w r h : Nat) (th : Nat → Nat × List Nat × Nat) : Prop := h ≤ 8 ∧ M 21 3 = nI h ∧ M 40 11 = nI h ∧ ∀ t, t < h → ((th t).1 < r ∧ y_no w (th t).2.1 ∧ (th t).2.2 ≤ 1) ∧ (M 22 t = nI (th t).1 ∧ M 23 t = nI (y_cd (th t).2.1) ∧ M 24 t = nI (th t).2.2) ∧ M 48 (2 * t) = nI (2 * (th t).1 + (th t).2.2) ∧ M 48 (2 * t + 1) = nI (y_cd (th t).2.1)
/-- the words, readers, as both hold them -/
def y_pap (M : xM) (w : Nat) (pr me ta : Nat → Nat) (r : Nat) (ki wa : Nat → Nat) : Prop := (1 ≤ w ∧ ∀ j, j < w → 1 ≤ pr j) ∧ y_CWp M w pr me ta ∧ y_CRp M r ki wa ∧ y_KW M w pr me ta ∧ y_KR M r ki wa
def y_I (M : xM) (w : Nat) (pr me : Nat → Nat) (r : Nat) (ki wa : Nat → Nat) (N : yN) (nt : Nat) (tx : Nat → Nat) (nc : Nat) (ch : Nat → yN) (nk : Nat) (kp : Nat → yN) (nh : Nat) (th : Nat → Nat × List Nat × Nat) : Prop :=
  y_pap M w pr me N.2.2 r ki wa ∧ y_Nok w N ∧ y_now M w N ∧ y_txt M nt tx ∧ y_chg M w nc ch ∧ y_kep M w nk kp ∧ y_tol M w r nh th
def y_Inv (M : xM) : Prop := ∃ w pr me r ki wa N nt tx nc ch nk kp nh th, y_I M w pr me r ki wa N nt tx nc ch nk kp nh th
/-- the cells that hold the state -/
def y_pl : List Nat := [1, 2, 3, 4, 5, 6, 7, 8, 9, 17, 18, 19, 20, 21, 22, 23, 24, 41, 42, 45, 46, 47, 48]
theorem y_I.keep {M M' : xM} {w : Nat} {pr me : Nat → Nat} {r : Nat} {ki wa : Nat → Nat} {N : yN} {nt : Nat} {tx : Nat → Nat} {nc : Nat} {ch : Nat → yN} {nk : Nat} {kp : Nat → yN} {nh : Nat} {th : Nat → Nat × List Nat × Nat}
    (h : y_I M w pr me r ki wa N nt tx nc ch nk kp nh th) (hk : ∀ a ∈ y_pl, M' a = M a) (h40 : ∀ j, j < 12 → M' 40 j = M 40 j) : y_I M' w pr me r ki wa N nt tx nc ch nk kp nh th := by
  unfold y_I y_pap y_now y_txt y_chg y_kep y_tol y_CWp y_CRp y_KW y_KR at h ⊢
  rw [hk 1 (by decide), hk 2 (by decide), hk 3 (by decide), hk 4 (by decide), hk 5 (by decide), hk 6 (by decide), hk 7 (by decide), hk 8 (by decide), hk 9 (by decide), hk 17 (by decide), hk 18 (by decide), hk 19 (by decide), hk 20 (by decide), hk 21 (by decide), hk 22 (by decide), hk 23 (by decide), hk 24 (by decide), hk 41 (by decide), hk 42 (by decide), hk 45 (by decide), hk 46 (by decide), hk 47 (by decide), hk 48 (by decide), h40 1 (by decide), h40 7 (by decide), h40 9 (by decide), h40 11 (by decide)]
  exact h
/-- scratch cells -/
def y_scr : List Nat := [10, 11, 12, 13, 14, 15, 16, 25, 26, 28, 29, 30, 31, 32, 34, 35, 36, 37, 38, 39, 43, 44]
theorem y_I.scr {M M' : xM} {w : Nat} {pr me : Nat → Nat} {r : Nat} {ki wa : Nat → Nat} {N : yN} {nt : Nat} {tx : Nat → Nat} {nc : Nat} {ch : Nat → yN} {nk : Nat} {kp : Nat → yN} {nh : Nat} {th : Nat → Nat × List Nat × Nat}
    (h : y_I M w pr me r ki wa N nt tx nc ch nk kp nh th) (hb : y_but y_scr M M') : y_I M' w pr me r ki wa N nt tx nc ch nk kp nh th :=
  h.keep (fun a ha => hb a (by revert a; decide)) (fun j _ => by rw [hb 40 (by decide)])
/-- one call of both: the same answer, the state as it should be, the script as it was -/
def y_op (C K : xM → xR) (M : xM) : Prop := ∃ v M1 M2, C M = some (v, M1) ∧ K M1 = some (v, M2) ∧ y_Inv M2 ∧ M2 98 = M 98 ∧ M2 99 = M 99
theorem y_op.ro {C K : xM → xR} {M M1 M2 : xM} {v : Int32} (h : y_Inv M) (h1 : C M = some (v, M1)) (h2 : K M1 = some (v, M2)) (hb1 : y_but y_scr M M1) (hb2 : y_but y_scr M1 M2) : y_op C K M := by
  obtain ⟨w, pr, me, r, ki, wa, N, nt, tx, nc, ch, nk, kp, nh, th, hI⟩ := h
  have hb := hb1.tr hb2
  exact ⟨v, M1, M2, h1, h2, ⟨w, pr, me, r, ki, wa, N, nt, tx, nc, ch, nk, kp, nh, th, hI.scr hb⟩, hb 98 (by decide), hb 99 (by decide)⟩
theorem y_op.same {C K : xM → xR} {M : xM} {v : Int32} (h : y_Inv M) (h1 : C M = some (v, M)) (h2 : K M = some (v, M)) : y_op C K M := y_op.ro h h1 h2 y_but.rf y_but.rf
/-- a number that is told -/
def y_inb (x : Int32) (n : Nat) : Bool := decide (¬ x < nI 0 ∧ x.toNatClampNeg < n)
theorem y_inb_t {x : Int32} {n : Nat} (h : y_inb x n = true) : ∃ j, j < n ∧ x = nI j := by
  have h := of_decide_eq_true h
  rcases y_cases x with hx | ⟨j, hj, rfl⟩
  · exact absurd hx h.1
  · rw [y_clamp hj] at h
    exact ⟨j, h.2, rfl⟩
theorem y_inb_nI {j n : Nat} (hj : j < 2 ^ 31) : y_inb (nI j) n = decide (j < n) := by
  unfold y_inb
  rw [y_clamp hj]
  simp [y_nn hj]
theorem y_inb_neg {x : Int32} {n : Nat} (h : x < nI 0) : y_inb x n = false := by
  unfold y_inb
  simp [h]
theorem y_cnt {α : Type} {x : Int32} {n : Nat} (hn : n < 2 ^ 30) (a b : α) : (if x < nI 0 then a else if nI n ≤ x then a else b) = if y_inb x n = true then b else a := by
  rcases y_cases x with hx | ⟨j, hj, rfl⟩
  · rw [if_pos hx, y_inb_neg hx]; rfl
  · rw [if_neg (y_nn hj), y_inb_nI hj]
    by_cases h : n ≤ j
    · rw [if_pos (by rw [y_le (by omega) hj]; exact h), if_neg (by simp; omega)]
    · rw [if_neg (by rw [y_le (by omega) hj]; exact h), if_pos (by simp; omega)]
theorem k_cnt {M : xM} {x : Int32} {n : Nat} (hn : n < 2 ^ 30) : K_in x (nI 0) (nI n - nI 1) M = some (if y_inb x n = true then nI 1 else nI 0, M) := by
  rw [K_in_eq]
  rcases y_cases x with hx | ⟨j, hj, rfl⟩
  · rw [if_pos hx, y_inb_neg hx]; rfl
  · rw [if_neg (y_nn hj), y_inb_nI hj]
    cases n with
    | zero =>
      rw [y_m1, if_pos (show (-1 : Int32) < nI j by
        rw [Int32.lt_iff_toInt_lt, nI_toInt hj]; show (-1 : Int) < _; omega)]
      rfl
    | succ n =>
      rw [y_sub (by omega), show n + 1 - 1 = n by omega]
      by_cases h : n < j
      · rw [if_pos (by rw [y_lt (by omega) hj]; exact h), if_neg (by simp; omega)]
      · rw [if_neg (by rw [y_lt (by omega) hj]; exact h), if_pos (by simp; omega)]
/-- in(x, 0, n) of the reference, and the class's isEither, isWithin -/
theorem k_in0 {M : xM} {x : Int32} {n : Nat} (hn : n < 2 ^ 29) : K_in x (nI 0) (nI n) M = some (if y_inb x (n + 1) = true then nI 1 else nI 0, M) := by
  have h := k_cnt (M := M) (x := x) (n := n + 1) (by omega)
  rwa [y_sub (by omega), show n + 1 - 1 = n by omega] at h
theorem c_within0 {M : xM} {x : Int32} {n : Nat} (hn : n < 2 ^ 29) : C_isWithin x (nI 0) (nI n) M = some (if y_inb x (n + 1) = true then nI 1 else nI 0, M) := by
  have h := k_in0 (M := M) (x := x) hn
  rw [K_in_eq] at h
  rw [C_isWithin_eq]
  exact h
theorem c_either {M : xM} {x : Int32} : C_isEither x M = some (if y_inb x 2 = true then nI 1 else nI 0, M) := by
  rw [C_isEither_eq]
  rcases y_cases x with hx | ⟨j, hj, rfl⟩
  · rw [if_neg (y_neg_ne hx (by omega)), if_neg (y_neg_ne hx (by omega)), y_inb_neg hx]; rfl
  · rw [y_inb_nI hj]
    by_cases h0 : j = 0
    · subst h0; rfl
    · by_cases h1 : j = 1
      · subst h1; rfl
      · rw [if_neg (by rw [y_eq hj (by omega)]; exact h0), if_neg (by rw [y_eq hj (by omega)]; exact h1), if_neg (by simp; omega)]
theorem k_b01 {α : Type} {b : Bool} (x y : α) : (if (if b = true then nI 1 else nI 0) = nI 0 ∨ (if b = true then nI 1 else nI 0) = nI 1 then x else y) = x := by
  cases b
  · exact if_pos (Or.inl rfl)
  · exact if_pos (Or.inr rfl)
theorem y_b0 {α : Type} {b : Bool} (x y : α) : (if (if b = true then nI 1 else nI 0) = nI 0 then x else y) = if b = true then y else x := by
  cases b
  · rfl
  · exact if_neg (by decide)
theorem k_isWord {M : xM} {w : Nat} (hw : w < 2 ^ 30) (h : M 42 0 = nI w) (x : Int32) : K_isWord x M = some (if y_inb x w = true then nI 1 else nI 0, M) := by
  rw [K_isWord_eq, h, k_cnt hw, Option.bind_some, k_b01]
theorem k_isReader {M : xM} {w : Nat} (hw : w < 2 ^ 30) (h : M 42 1 = nI w) (x : Int32) : K_isReader x M = some (if y_inb x w = true then nI 1 else nI 0, M) := by
  rw [K_isReader_eq, h, k_cnt hw, Option.bind_some, k_b01]
theorem k_isNotice {M : xM} {w : Nat} (hw : w < 2 ^ 30) (h : M 45 0 = nI w) (x : Int32) : K_isNotice x M = some (if y_inb x w = true then nI 1 else nI 0, M) := by
  rw [K_isNotice_eq, h, k_cnt hw, Option.bind_some, k_b01]
theorem c_hasW {M : xM} {w : Nat} (hw : w < 2 ^ 30) (h : M 3 6 = nI w) (x : Int32) : P_hasWord_p x M = some (if y_inb x w = true then nI 1 else nI 0, M) := by
  rw [P_hasWord_p_eq, h, y_cnt hw]; split <;> rfl
theorem c_hasR {M : xM} {w : Nat} (hw : w < 2 ^ 30) (h : M 3 7 = nI w) (x : Int32) : P_hasReader_p x M = some (if y_inb x w = true then nI 1 else nI 0, M) := by
  rw [P_hasReader_p_eq, h, y_cnt hw]; split <;> rfl
theorem c_hasN {M : xM} {w : Nat} (hw : w < 2 ^ 30) (h : M 3 8 = nI w) (x : Int32) : P_hasNotice_p x M = some (if y_inb x w = true then nI 1 else nI 0, M) := by
  rw [P_hasNotice_p_eq, h, y_cnt hw]; split <;> rfl
