/-! moods -/
/-- in how many of the first n notices word k stands -/
def y_nw (no : Nat → List Nat) (k : Nat) : Nat → Nat
  | 0 => 0
  | n + 1 => y_nw no k n + y_sb 0 (no n) / 2 ^ k % 2
theorem y_nw_le (no : Nat → List Nat) (k : Nat) : ∀ n, y_nw no k n ≤ n
  | 0 => Nat.le_refl _
  | n + 1 => by
    have h := y_nw_le no k n
    show y_nw no k n + y_sb 0 (no n) / 2 ^ k % 2 ≤ n + 1
    omega
def y_bst (c : Nat → Nat) : Nat → Nat
  | 0 => 0
  | n + 1 => if c (n + 1) ≤ c (y_bst c n) then y_bst c n else n + 1
theorem y_bst_le (c : Nat → Nat) : ∀ n, y_bst c n ≤ n
  | 0 => Nat.le_refl _
  | n + 1 => by
    have h := y_bst_le c n
    show (if c (n + 1) ≤ c (y_bst c n) then y_bst c n else n + 1) ≤ n + 1
    split <;> omega
theorem y_sb_8 {w : Nat} (hw : w ≤ 8) {ds : List Nat} (hds : y_no w ds) : y_sb 0 ds < 256 := y_sb_lt ds 0 (by omega) (fun d hd => by have := hds.2.2 d hd; omega)
theorem c_nw4 {w : Nat} {pr me ta : Nat → Nat} {K : Nat} {no : Nat → List Nat} {k : Nat} (hk8 : k < 8) : ∀ (n i : Nat) (M : xM), i + n = K → y_CQ M w pr me ta K no → ∃ M', C_noticesWith_4 (nI k) (nI (y_nw no k i)) (nI i) M = some (nI (y_nw no k K), M') ∧ y_but [25] M M'
  | 0, i, M, h, hQ => by
    have hK := hQ.2.1
    refine ⟨M, ?_, y_but.rf⟩
    rw [C_noticesWith_4_eq, hQ.2.2.1, if_pos (by rw [y_le (by omega) (by omega)]; omega), show i = K by omega]
  | n + 1, i, M, h, hQ => by
    obtain ⟨hCW, hK, h3, hk⟩ := id hQ
    obtain ⟨hds, hcd⟩ := hk i (by omega)
    obtain ⟨M1, m1, m2, m3⟩ := c_measurep hCW hds
    obtain ⟨M', a1, a2⟩ := c_nw4 hk8 n (i + 1) M1 (by omega) (hQ.keep m3)
    refine ⟨M', ?_, m3.tr a2⟩
    rw [C_noticesWith_4_eq, h3, if_neg (by rw [y_le (by omega) (by omega)]; omega), y_in (show i < 6 by omega) (by decide), y_clamp (by omega), hcd, m1, Option.bind_some]
    simp only [m2.2.2.2.1, y_bit8 _ (y_sb_8 hCW.1 hds) _ hk8, y_add]
    exact a1
theorem c_nw {w : Nat} {pr me ta : Nat → Nat} {K : Nat} {no : Nat → List Nat} {k : Nat} (hk8 : k < 8) {M : xM} (hQ : y_CQ M w pr me ta K no) : ∃ M', C_noticesWith (nI k) M = some (nI (y_nw no k K), M') ∧ y_but [25] M M' := by
  rw [C_noticesWith_eq]
  exact c_nw4 hk8 K 0 M (by omega) hQ
theorem c_mo13 {w : Nat} {pr me ta : Nat → Nat} {K : Nat} {no : Nat → List Nat} {x : Nat} (hx : x < 2) : ∀ (n i : Nat) (M : xM), i + 1 + n = w → y_CQ M w pr me ta K no → ∃ M', C_moods_13 (nI x) (nI (y_bst (fun k => y_nw no k K) i)) (nI (i + 1)) M = some (nI (if x = 0 then y_bst (fun k => y_nw no k K) (w - 1) else y_nw no (y_bst (fun k => y_nw no k K) (w - 1)) K), M') ∧ y_but [25] M M'
  | 0, i, M, h, hQ => by
    obtain ⟨hCW, hK, h3, hk⟩ := id hQ
    have hw := hCW.1
    have hbl := y_bst_le (fun k => y_nw no k K) i
    have hi : w - 1 = i := by omega
    rw [C_moods_13_eq, hCW.2.1, if_pos (show nI w ≤ nI (i + 1) by rw [y_le (by omega) (by omega)]; omega), hi]
    by_cases h0 : x = 0
    · rw [if_pos h0, h0]
      exact ⟨M, rfl, y_but.rf⟩
    · rw [if_neg h0, if_neg (show ¬ nI x = nI 0 by rw [y_eq (by omega) (by omega)]; exact h0)]
      obtain ⟨M', a1, a2⟩ := c_nw (show y_bst (fun k => y_nw no k K) i < 8 by omega) hQ
      exact ⟨M', by rw [a1, Option.bind_some], a2⟩
  | n + 1, i, M, h, hQ => by
    obtain ⟨hCW, hK, h3, hk⟩ := id hQ
    have hw := hCW.1
    have hbl := y_bst_le (fun k => y_nw no k K) i
    obtain ⟨M1, a1, a2⟩ := c_nw (show i + 1 < 8 by omega) hQ
    obtain ⟨M2, b1, b2⟩ := c_nw (show y_bst (fun k => y_nw no k K) i < 8 by omega) (hQ.keep a2)
    obtain ⟨M', d1, d2⟩ := c_mo13 hx n (i + 1) M2 (by omega) ((hQ.keep a2).keep b2)
    refine ⟨M', ?_, (a2.tr b2).tr d2⟩
    have l1 := y_nw_le no (i + 1) K
    have l2 := y_nw_le no (y_bst (fun k => y_nw no k K) i) K
    rw [C_moods_13_eq, hCW.2.1, if_neg (show ¬ nI w ≤ nI (i + 1) by rw [y_le (by omega) (by omega)]; omega), a1, Option.bind_some, b1, Option.bind_some]
    rw [show y_bst (fun k => y_nw no k K) (i + 1) = if y_nw no (i + 1) K ≤ y_nw no (y_bst (fun k => y_nw no k K) i) K then y_bst (fun k => y_nw no k K) i else i + 1 from rfl] at d1
    simp only [y_le (show y_nw no (i + 1) K < 2 ^ 31 by omega) (show y_nw no (y_bst (fun k => y_nw no k K) i) K < 2 ^ 31 by omega), y_add]
    by_cases e : y_nw no (i + 1) K ≤ y_nw no (y_bst (fun k => y_nw no k K) i) K
    · rw [if_pos e] at d1
      rw [if_pos e]
      exact d1
    · rw [if_neg e] at d1
      rw [if_neg e]
      exact d1
theorem k_mo35 {M : xM} {w : Nat} {pr me ta : Nat → Nat} {K : Nat} {no : Nat → List Nat} (hQ : y_KQ M w pr me ta K no) {k : Nat} (hk8 : k < 8) (x b m : Int32) : ∀ (n i : Nat), i + n = K → K_moods_35 x b m (nI k) (nI (y_nw no k i)) (nI i) M = K_moods_35 x b m (nI k) (nI (y_nw no k K)) (nI K) M
  | 0, i, h => by rw [show i = K by omega]
  | n + 1, i, h => by
    obtain ⟨hKW, hK, h0, hk⟩ := id hQ
    obtain ⟨hds, hcd⟩ := hk i (by omega)
    rw [← k_mo35 hQ hk8 x b m n (i + 1) (by omega)]
    rw [K_moods_35_eq, h0, if_neg (show ¬ nI K ≤ nI i by rw [y_le (by omega) (by omega)]; omega)]
    simp only [y_add, y_in2 (show 1 + i < 15 by omega) (show 15 < 2 ^ 31 by decide), y_clamp (show 1 + i < 2 ^ 31 by omega), hcd, k_wordsOf hKW.1 hKW.2.1 hds, Option.bind_some, y_bit8 _ (y_sb_8 hKW.1 hds) _ hk8]
    rfl
theorem k_mo18 {M : xM} {w : Nat} {pr me ta : Nat → Nat} {K : Nat} {no : Nat → List Nat} (hQ : y_KQ M w pr me ta K no) {x : Nat} (hx : x < 2) : ∀ (n i : Nat) (o5 o6 : Option Int32), i + 1 + n = w → K_moods_18 (nI x) (nI (y_bst (fun k => y_nw no k K) i)) (nI (y_nw no (y_bst (fun k => y_nw no k K) i) K)) (nI (i + 1)) o5 o6 M = some (nI (if x = 0 then y_bst (fun k => y_nw no k K) (w - 1) else y_nw no (y_bst (fun k => y_nw no k K) (w - 1)) K), M)
  | 0, i, o5, o6, h => by
    obtain ⟨hKW, hK, h0, hk⟩ := id hQ
    have hw := hKW.1
    have hi : w - 1 = i := by omega
    rw [K_moods_18_eq, hKW.2.1, if_pos (show nI w ≤ nI (i + 1) by rw [y_le (by omega) (by omega)]; omega), hi]
    by_cases h0 : x = 0
    · rw [if_pos h0, h0]
      rfl
    · rw [if_neg h0, if_neg (show ¬ nI x = nI 0 by rw [y_eq (by omega) (by omega)]; exact h0)]
  | n + 1, i, o5, o6, h => by
    obtain ⟨hKW, hK, h0, hk⟩ := id hQ
    have hw := hKW.1
    have hbl := y_bst_le (fun k => y_nw no k K) i
    have l1 := y_nw_le no (i + 1) K
    have l2 := y_nw_le no (y_bst (fun k => y_nw no k K) i) K
    have d1 := k_mo18 hQ hx n (i + 1) (some (nI (y_nw no (i + 1) K))) (some (nI K)) (by omega)
    rw [K_moods_18_eq, hKW.2.1, if_neg (show ¬ nI w ≤ nI (i + 1) by rw [y_le (by omega) (by omega)]; omega)]
    rw [show K_moods_35 (nI x) (nI (y_bst (fun k => y_nw no k K) i)) (nI (y_nw no (y_bst (fun k => y_nw no k K) i) K)) (nI (i + 1)) (nI 0) (nI 0) M = _ from k_mo35 hQ (show i + 1 < 8 by omega) _ _ _ K 0 (by omega)]
    rw [K_moods_35_eq, h0, if_pos (show nI K ≤ nI K by rw [y_le (by omega) (by omega)]; omega)]
    rw [show y_bst (fun k => y_nw no k K) (i + 1) = if y_nw no (i + 1) K ≤ y_nw no (y_bst (fun k => y_nw no k K) i) K then y_bst (fun k => y_nw no k K) i else i + 1 from rfl] at d1
    simp only [y_le (show y_nw no (i + 1) K < 2 ^ 31 by omega) (show y_nw no (y_bst (fun k => y_nw no k K) i) K < 2 ^ 31 by omega), y_add]
    by_cases e : y_nw no (i + 1) K ≤ y_nw no (y_bst (fun k => y_nw no k K) i) K
    · rw [if_pos e] at d1
      rw [if_pos e, if_pos e]
      exact d1
    · rw [if_neg e] at d1
      rw [if_neg e, if_neg e]
      exact d1
theorem op_moods {M : xM} (h : y_Inv M) (x : Int32) : y_op (C_moods x) (K_moods x) M := by
  obtain ⟨w, pr, me, r, ki, wa, N, nt, tx, nc, ch, nk, kp, nh, th, hI⟩ := id h
  have hw1 := hI.1.1.1
  have hC := C_moods_eq x M
  rw [c_either, Option.bind_some, y_b0] at hC
  by_cases hx : y_inb x 2 = true
  · rw [if_pos hx] at hC
    obtain ⟨j, hj, rfl⟩ := y_inb_t hx
    obtain ⟨M1, a1, a2⟩ := c_mo13 hj (w - 1) 0 M (by omega) hI.CQ.1
    have a3 : y_but y_scr M M1 := a2.mono (by decide)
    have hQ := (hI.scr a3).CQ.2
    obtain ⟨hKW, hK6, h0, hk⟩ := id hQ
    have hw := hKW.1
    have l1 := y_nw_le N.2.1 0 N.1
    have hK := K_moods_eq (nI j) M1
    rw [k_in0 (by decide), Option.bind_some, y_b0, if_pos hx, K_moods_18_eq] at hK
    simp only [hKW.2.1] at hK
    rw [if_neg (show ¬ nI w ≤ nI 0 by rw [y_le (by omega) (by omega)]; omega)] at hK
    rw [show K_moods_35 (nI j) (nI 0) (-1 : Int32) (nI 0) (nI 0) (nI 0) M1 = _ from k_mo35 hQ (show 0 < 8 by decide) _ _ _ N.1 0 (by omega)] at hK
    rw [K_moods_35_eq, h0, if_pos (show nI N.1 ≤ nI N.1 by rw [y_le (by omega) (by omega)]; omega)] at hK
    have hneg : ¬ nI (y_nw N.2.1 0 N.1) ≤ (-1 : Int32) := by
      have : ∀ q, q < 7 → ¬ nI q ≤ (-1 : Int32) := by decide
      exact this _ (by omega)
    rw [if_neg hneg, if_neg hneg] at hK
    have d1 := k_mo18 hQ hj (w - 1) 0 (some (nI (y_nw N.2.1 0 N.1))) (some (nI N.1)) (by omega)
    exact y_op.ro h (hC.trans a1) (hK.trans d1) a3 y_but.rf
  · rw [if_neg hx] at hC
    have hK := K_moods_eq x M
    rw [k_in0 (by decide), Option.bind_some, y_b0, if_neg hx] at hK
    exact y_op.same h hC hK
