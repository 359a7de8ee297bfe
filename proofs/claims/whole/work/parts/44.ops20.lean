/-! cheapest: both searches -/
/-- one notice looked at: the best so far -/
def y_stp (pr me ta ki wa : Nat → Nat) (r i : Nat) (b : Nat × Nat) (ds : List Nat) : Nat × Nat := if y_who me ta ki wa ds r = 2 ^ i ∧ y_price pr ds < b.2 then (y_cd ds, y_price pr ds) else b
def y_QS (M : xM) (w : Nat) (pr me ta : Nat → Nat) (r : Nat) (ki wa : Nat → Nat) (i : Nat) (b : Nat × Nat) : Prop := y_CWp M w pr me ta ∧ y_CRp M r ki wa ∧ M 26 1 = nI i ∧ M 26 2 = nI b.1 ∧ M 26 3 = nI b.2 ∧ b.2 < 2 ^ 31
theorem y_QS.keep {M M' : xM} {w : Nat} {pr me ta : Nat → Nat} {r : Nat} {ki wa : Nat → Nat} {i : Nat} {b : Nat × Nat} (h : y_QS M w pr me ta r ki wa i b) (hb : y_but [29, 30, 31, 32] M M') : y_QS M' w pr me ta r ki wa i b := by
  obtain ⟨h1, h2, h3, h4, h5, h6⟩ := h
  refine ⟨h1.keep (hb _ (by decide)) (hb _ (by decide)) (hb _ (by decide)) (hb _ (by decide)), h2.keep (hb _ (by decide)) (hb _ (by decide)) (hb _ (by decide)), ?_, ?_, ?_, h6⟩ <;> rw [hb 26 (by decide)] <;> assumption
theorem y_Rd.keep {M M' : xM} {c : Nat} {pr me ta : Nat → Nat} {e : List Nat} (h : y_Rd c M pr me ta e) (hk : M' c = M c) : y_Rd c M' pr me ta e := by
  unfold y_Rd at h ⊢; rw [hk]; exact h
theorem y_who_bit (me ta ki wa : Nat → Nat) (ds : List Nat) (i : Nat) : ∀ n, (y_who me ta ki wa ds n).testBit i = decide (i < n ∧ y_read me ta (ki i) ds = wa i)
  | 0 => by
    show Nat.testBit 0 i = _
    simp
  | n + 1 => by
    show (y_who me ta ki wa ds n ||| (if y_read me ta (ki n) ds = wa n then 2 ^ n else 0)).testBit i = _
    rw [Nat.testBit_or, y_who_bit me ta ki wa ds i n]
    by_cases e : n = i
    · subst e
      by_cases q : y_read me ta (ki n) ds = wa n
      · simp [q, Nat.testBit_two_pow]
      · simp [q]
    · by_cases q : y_read me ta (ki n) ds = wa n
      · rw [if_pos q, Nat.testBit_two_pow]
        simp only [e, decide_false, Bool.or_false]
        congr 1
        apply propext
        constructor
        · rintro ⟨a, c⟩; exact ⟨by omega, c⟩
        · rintro ⟨a, c⟩; exact ⟨by omega, c⟩
      · rw [if_neg q, Nat.zero_testBit, Bool.or_false]
        congr 1
        apply propext
        constructor
        · rintro ⟨a, c⟩; exact ⟨by omega, c⟩
        · rintro ⟨a, c⟩; exact ⟨by omega, c⟩
theorem y_who_one {me ta ki wa : Nat → Nat} {ds : List Nat} {r i : Nat} (h : y_who me ta ki wa ds r = 2 ^ i) : y_read me ta (ki i) ds = wa i := by
  have h1 := y_who_bit me ta ki wa ds i r
  rw [h, Nat.testBit_two_pow] at h1
  simp at h1
  exact h1.2
section
variable {w : Nat} {pr me ta : Nat → Nat} {r : Nat} {ki wa : Nat → Nat} {i : Nat}
theorem y_stp_le {b : Nat × Nat} {ds : List Nat} : (y_stp pr me ta ki wa r i b ds).2 ≤ b.2 := by
  unfold y_stp
  split
  · next h => exact Nat.le_of_lt h.2
  · exact Nat.le_refl _
theorem y_stp_yes {b : Nat × Nat} {ds : List Nat} (h1 : y_who me ta ki wa ds r = 2 ^ i) (h2 : y_price pr ds < b.2) : y_stp pr me ta ki wa r i b ds = (y_cd ds, y_price pr ds) := if_pos ⟨h1, h2⟩
theorem y_stp_no {b : Nat × Nat} {ds : List Nat} (h1 : ¬ y_who me ta ki wa ds r = 2 ^ i) : y_stp pr me ta ki wa r i b ds = b := if_neg (fun q => h1 q.1)
/-- what is too dear needs no look -/
theorem y_cut (hw : w ≤ 8) (hp1 : ∀ j, j < w → 1 ≤ pr j) : ∀ (n : Nat) (e : List Nat) (b : Nat × Nat), (∀ q ∈ e, q < w) → b.2 ≤ y_price pr e + n → y_H (y_stp pr me ta ki wa r i) w n e b = b
  | 0, e, b, he, h => by
    rw [y_H_0]
    unfold y_stp
    rw [if_neg (by omega)]
  | n + 1, e, b, he, h => by
    rw [y_H_s]
    refine y_fo_skip b w (fun d hd => ?_)
    have h1 := y_price_snoc hw pr e d he hd
    have h2 := hp1 d hd
    exact y_cut hw hp1 n (e ++ [d]) b (fun q hq => by
      rcases List.mem_append.mp hq with h | h
      · exact he q h
      · simp at h; omega) (by omega)
theorem y_snoc_lt {e : List Nat} {d : Nat} (he : ∀ q ∈ e, q < w) (hd : d < w) : ∀ q ∈ e ++ [d], q < w := fun q hq => by
  rcases List.mem_append.mp hq with h | h
  · exact he q h
  · simp at h; omega
theorem y_snoc_no {e : List Nat} {d : Nat} (he : ∀ q ∈ e, q < w) (hd : d < w) (hl : e.length ≤ 3) : y_no w (e ++ [d]) := ⟨by simp, by simp; omega, y_snoc_lt he hd⟩
theorem c_ext3 {M : xM} (hC : y_CWp M w pr me ta) {e : List Nat} {d : Nat} (hR : y_Rd 31 M pr me ta e) (he : ∀ q ∈ e, q < w) (hd : d < w) : ∃ M', R_extend_r4_r3_p (nI d) M = some (nI 0, M') ∧ y_Rd 32 M' pr me ta (e ++ [d]) ∧ y_but [32] M M' := by
  have hw := hC.1
  obtain ⟨v1, v2, v3⟩ := hC.2.2.1 d hd
  obtain ⟨h0, h1, h2, h3, h4, h5, h6⟩ := hR
  have hs := y_sb_lt e 0 (by omega) (fun q hq => by have := he q hq; omega)
  rw [R_extend_r4_r3_p_eq, c_hasWordp hC (by omega), if_pos hd, Option.bind_some, if_neg (show ¬ nI 1 = nI 0 by decide)]
  simp only [y_in (show d < 8 by omega) (show 8 < 2 ^ 31 by decide), Option.bind_some]
  refine ⟨_, rfl, ?_, ?_⟩
  · simp only [y_clamp (show d < 2 ^ 31 by omega), v1, v2, v3, h0, h1, h2, h3, h4, h5, h6, y_add, y_mul, y_bit8 _ hs d (by omega), y_bit_or _ hs d (by omega)]
    unfold y_Rd
    rw [y_cd_snoc, y_price_snoc hw pr e d he hd, y_sb_snoc, y_sum_snoc, y_sum_snoc, y_fd_snoc, List.length_append]
    refine ⟨?_, ?_, ?_, ?_, ?_, ?_, ?_⟩
    · simp only [y_up_at]; simp; congr 1; omega
    · simp only [y_up_at]; simp
    · simp only [y_up_at]; simp
    · simp only [y_up_at]; simp
    · simp only [y_up_at]; simp
    · simp only [y_up_at]; simp
    · simp only [y_up_at]; simp
  · exact ((((((y_but.rf.up (by simp)).up (by simp)).up (by simp)).up (by simp)).up (by simp)).up (by simp)).up (by simp)
theorem c_fnd3 {M : xM} {b : Nat × Nat} (hQ : y_QS M w pr me ta r ki wa i b) (hi : i < r) {ds : List Nat} (hds : y_no w ds) (hR : y_Rd 32 M pr me ta ds) : Q_isFound_s_p_r4 M = some (if y_who me ta ki wa ds r = 2 ^ i then nI 1 else nI 0, M) := by
  obtain ⟨hC, hRR, h1, h2, h3, h4⟩ := hQ
  have hr := hRR.1
  have hb := fun j hj => (hC.2.2.2 j hj).2
  have hl := y_who_lt me ta ki wa ds r
  have hp : 2 ^ r ≤ 2 ^ 6 := Nat.pow_le_pow_right (by decide) hr
  have hp2 : 2 ^ i ≤ 2 ^ 6 := Nat.pow_le_pow_right (by decide) (by omega)
  rw [Q_isFound_s_p_r4_eq, h1, c_isAns_p_r4 hb hRR hds hR hi, Option.bind_some]
  by_cases q : y_read me ta (ki i) ds = wa i
  · rw [if_pos q, if_neg (show ¬ nI 1 = nI 0 by decide), c_answ_r4 hb hRR hds hR, Option.bind_some]
    simp only [h1, y_sh6 i (by omega), y_eq (show y_who me ta ki wa ds r < 2 ^ 31 by omega) (show 2 ^ i < 2 ^ 31 by omega)]
    split <;> rfl
  · rw [if_neg q, if_pos rfl, if_neg (fun h => q (y_who_one h))]
theorem q_len3_31 (hp1 : ∀ j, j < w → 1 ≤ pr j) (hi : i < r) {L : Nat} (hL : 3 < L) (hL4 : L ≤ 4) {e : List Nat} (hel : e.length = 3) (he : ∀ q ∈ e, q < w) : ∀ (n d : Nat) (M : xM) (b0 : Nat × Nat), d + n = w → y_QS M w pr me ta r ki wa i (y_fo (fun d b => y_H (y_stp pr me ta ki wa r i) w (L - 3 - 1) (e ++ [d]) b) d b0) → y_Rd 31 M pr me ta e → ∃ M', Q_lengthen3_s_p_31 (nI L) (nI (L - 3 - 1)) (nI d) M = some (nI 0, M') ∧ y_QS M' w pr me ta r ki wa i (y_fo (fun d b => y_H (y_stp pr me ta ki wa r i) w (L - 3 - 1) (e ++ [d]) b) w b0) ∧ y_but [26, 32] M M'
  | 0, d, M, b0, h, hQ, hR => by
    have hw := hQ.1.1
    refine ⟨M, ?_, ?_, y_but.rf⟩
    · rw [Q_lengthen3_s_p_31_eq, hQ.1.2.1, if_pos (by rw [y_le (by omega) (by omega)]; omega)]
    · rw [show w = d by omega] at hQ ⊢
      exact hQ
  | n + 1, d, M, b0, h, hQ, hR => by
    have hw := hQ.1.1
    obtain ⟨M1, m1, m2, m3⟩ := c_ext3 hQ.1 hR he (show d < w by omega)
    have hQ1 := hQ.keep (m3.mono (by decide))
    have hno := y_snoc_no he (show d < w by omega) (by omega)
    have h50 := y_price_50 (fun j hj => (hQ.1.2.2.2 j hj).1) hno
    have hb2 := hQ1.2.2.2.2.2
    rw [Q_lengthen3_s_p_31_eq, hQ.1.2.1, if_neg (by rw [y_le (by omega) (by omega)]; omega), m1, Option.bind_some]
    simp only [m2.2.2.1, hQ1.2.2.2.2.1, y_add, y_lt (show y_price pr (e ++ [d]) + (L - 3 - 1) < 2 ^ 31 by omega) hb2]
    by_cases e1 : y_price pr (e ++ [d]) + (L - 3 - 1) < (y_fo (fun d b => y_H (y_stp pr me ta ki wa r i) w (L - 3 - 1) (e ++ [d]) b) d b0).2
    · rw [if_pos e1]
      by_cases e0 : L - 3 - 1 = 0
      · rw [if_pos (show nI (L - 3 - 1) ≤ nI 0 by rw [e0]; decide), c_fnd3 hQ1 hi hno m2, Option.bind_some]
        have hst : y_fo (fun d b => y_H (y_stp pr me ta ki wa r i) w (L - 3 - 1) (e ++ [d]) b) (d + 1) b0 = y_stp pr me ta ki wa r i (y_fo (fun d b => y_H (y_stp pr me ta ki wa r i) w (L - 3 - 1) (e ++ [d]) b) d b0) (e ++ [d]) := by
          rw [y_fo_s]
          simp only [e0, y_H_0]
        by_cases e2 : y_who me ta ki wa (e ++ [d]) r = 2 ^ i
        · rw [if_pos e2, if_neg (show ¬ nI 1 = nI 0 by decide)]
          have hQ2 : y_QS (x_up (x_up M1 26 2 (nI (y_cd (e ++ [d])))) 26 3 (nI (y_price pr (e ++ [d])))) w pr me ta r ki wa i (y_fo (fun d b => y_H (y_stp pr me ta ki wa r i) w (L - 3 - 1) (e ++ [d]) b) (d + 1) b0) := by
            rw [hst, y_stp_yes e2 (by omega)]
            obtain ⟨g1, g2, g3, g4, g5, g6⟩ := hQ1
            refine ⟨g1.keep rfl rfl rfl rfl, g2.keep rfl rfl rfl, ?_, ?_, ?_, ?_⟩
            · simp only [y_up_at]; simpa using g3
            · simp only [y_up_at]; simp
            · simp only [y_up_at]; simp
            · show y_price pr (e ++ [d]) < 2 ^ 31; omega
          obtain ⟨M', a1, a2, a3⟩ := q_len3_31 hp1 hi hL hL4 hel he n (d + 1) _ b0 (by omega) hQ2 ((hR.keep (m3 _ (by decide))).keep rfl)
          refine ⟨M', ?_, a2, (((m3.mono (by decide)).up (by simp)).up (by simp)).tr a3⟩
          simp only [m2.1, m2.2.2.1]
          exact a1
        · rw [if_neg e2, if_pos rfl]
          obtain ⟨M', a1, a2, a3⟩ := q_len3_31 hp1 hi hL hL4 hel he n (d + 1) M1 b0 (by omega) (by
            rw [hst, y_stp_no e2]
            exact hQ1) (hR.keep (m3 _ (by decide)))
          exact ⟨M', a1, a2, (m3.mono (by decide)).tr a3⟩
      · exact absurd (show L - 3 - 1 = 0 by omega) e0
    · rw [if_neg e1]
      obtain ⟨M', a1, a2, a3⟩ := q_len3_31 hp1 hi hL hL4 hel he n (d + 1) M1 b0 (by omega) (by
        rw [y_fo_s]
        rw [y_cut hw hp1 _ _ _ (y_snoc_lt he (by omega)) (by omega)]
        exact hQ1) (hR.keep (m3 _ (by decide)))
      exact ⟨M', a1, a2, (m3.mono (by decide)).tr a3⟩
theorem q_len3 (hp1 : ∀ j, j < w → 1 ≤ pr j) (hi : i < r) {L : Nat} (hL : 3 < L) (hL4 : L ≤ 4) {e : List Nat} (hel : e.length = 3) (he : ∀ q ∈ e, q < w) (M : xM) (b0 : Nat × Nat) (hQ : y_QS M w pr me ta r ki wa i b0) (hR : y_Rd 31 M pr me ta e) : ∃ M', Q_lengthen3_s_p (nI L) M = some (nI 0, M') ∧ y_QS M' w pr me ta r ki wa i (y_H (y_stp pr me ta ki wa r i) w (L - 3) e b0) ∧ y_but [26, 32] M M' := by
  obtain ⟨M', a1, a2, a3⟩ := q_len3_31 hp1 hi hL hL4 hel he w 0 M b0 (by omega) hQ hR
  refine ⟨M', ?_, ?_, a3⟩
  · rw [Q_lengthen3_s_p_eq, if_neg (by rw [y_le (by omega) (by omega)]; omega), y_sub (by omega), y_sub (by omega)]
    exact a1
  · rw [show L - 3 = (L - 3 - 1) + 1 by omega, y_H_s]
    exact a2
theorem c_ext2 {M : xM} (hC : y_CWp M w pr me ta) {e : List Nat} {d : Nat} (hR : y_Rd 30 M pr me ta e) (he : ∀ q ∈ e, q < w) (hd : d < w) : ∃ M', R_extend_r3_r2_p (nI d) M = some (nI 0, M') ∧ y_Rd 31 M' pr me ta (e ++ [d]) ∧ y_but [31] M M' := by
  have hw := hC.1
  obtain ⟨v1, v2, v3⟩ := hC.2.2.1 d hd
  obtain ⟨h0, h1, h2, h3, h4, h5, h6⟩ := hR
  have hs := y_sb_lt e 0 (by omega) (fun q hq => by have := he q hq; omega)
  rw [R_extend_r3_r2_p_eq, c_hasWordp hC (by omega), if_pos hd, Option.bind_some, if_neg (show ¬ nI 1 = nI 0 by decide)]
  simp only [y_in (show d < 8 by omega) (show 8 < 2 ^ 31 by decide), Option.bind_some]
  refine ⟨_, rfl, ?_, ?_⟩
  · simp only [y_clamp (show d < 2 ^ 31 by omega), v1, v2, v3, h0, h1, h2, h3, h4, h5, h6, y_add, y_mul, y_bit8 _ hs d (by omega), y_bit_or _ hs d (by omega)]
    unfold y_Rd
    rw [y_cd_snoc, y_price_snoc hw pr e d he hd, y_sb_snoc, y_sum_snoc, y_sum_snoc, y_fd_snoc, List.length_append]
    refine ⟨?_, ?_, ?_, ?_, ?_, ?_, ?_⟩
    · simp only [y_up_at]; simp; congr 1; omega
    · simp only [y_up_at]; simp
    · simp only [y_up_at]; simp
    · simp only [y_up_at]; simp
    · simp only [y_up_at]; simp
    · simp only [y_up_at]; simp
    · simp only [y_up_at]; simp
  · exact ((((((y_but.rf.up (by simp)).up (by simp)).up (by simp)).up (by simp)).up (by simp)).up (by simp)).up (by simp)
theorem c_fnd2 {M : xM} {b : Nat × Nat} (hQ : y_QS M w pr me ta r ki wa i b) (hi : i < r) {ds : List Nat} (hds : y_no w ds) (hR : y_Rd 31 M pr me ta ds) : Q_isFound_s_p_r3 M = some (if y_who me ta ki wa ds r = 2 ^ i then nI 1 else nI 0, M) := by
  obtain ⟨hC, hRR, h1, h2, h3, h4⟩ := hQ
  have hr := hRR.1
  have hb := fun j hj => (hC.2.2.2 j hj).2
  have hl := y_who_lt me ta ki wa ds r
  have hp : 2 ^ r ≤ 2 ^ 6 := Nat.pow_le_pow_right (by decide) hr
  have hp2 : 2 ^ i ≤ 2 ^ 6 := Nat.pow_le_pow_right (by decide) (by omega)
  rw [Q_isFound_s_p_r3_eq, h1, c_isAns_p_r3 hb hRR hds hR hi, Option.bind_some]
  by_cases q : y_read me ta (ki i) ds = wa i
  · rw [if_pos q, if_neg (show ¬ nI 1 = nI 0 by decide), c_answ_r3 hb hRR hds hR, Option.bind_some]
    simp only [h1, y_sh6 i (by omega), y_eq (show y_who me ta ki wa ds r < 2 ^ 31 by omega) (show 2 ^ i < 2 ^ 31 by omega)]
    split <;> rfl
  · rw [if_neg q, if_pos rfl, if_neg (fun h => q (y_who_one h))]
theorem q_len2_31 (hp1 : ∀ j, j < w → 1 ≤ pr j) (hi : i < r) {L : Nat} (hL : 2 < L) (hL4 : L ≤ 4) {e : List Nat} (hel : e.length = 2) (he : ∀ q ∈ e, q < w) : ∀ (n d : Nat) (M : xM) (b0 : Nat × Nat), d + n = w → y_QS M w pr me ta r ki wa i (y_fo (fun d b => y_H (y_stp pr me ta ki wa r i) w (L - 2 - 1) (e ++ [d]) b) d b0) → y_Rd 30 M pr me ta e → ∃ M', Q_lengthen2_s_p_31 (nI L) (nI (L - 2 - 1)) (nI d) M = some (nI 0, M') ∧ y_QS M' w pr me ta r ki wa i (y_fo (fun d b => y_H (y_stp pr me ta ki wa r i) w (L - 2 - 1) (e ++ [d]) b) w b0) ∧ y_but [26, 31, 32] M M'
  | 0, d, M, b0, h, hQ, hR => by
    have hw := hQ.1.1
    refine ⟨M, ?_, ?_, y_but.rf⟩
    · rw [Q_lengthen2_s_p_31_eq, hQ.1.2.1, if_pos (by rw [y_le (by omega) (by omega)]; omega)]
    · rw [show w = d by omega] at hQ ⊢
      exact hQ
  | n + 1, d, M, b0, h, hQ, hR => by
    have hw := hQ.1.1
    obtain ⟨M1, m1, m2, m3⟩ := c_ext2 hQ.1 hR he (show d < w by omega)
    have hQ1 := hQ.keep (m3.mono (by decide))
    have hno := y_snoc_no he (show d < w by omega) (by omega)
    have h50 := y_price_50 (fun j hj => (hQ.1.2.2.2 j hj).1) hno
    have hb2 := hQ1.2.2.2.2.2
    rw [Q_lengthen2_s_p_31_eq, hQ.1.2.1, if_neg (by rw [y_le (by omega) (by omega)]; omega), m1, Option.bind_some]
    simp only [m2.2.2.1, hQ1.2.2.2.2.1, y_add, y_lt (show y_price pr (e ++ [d]) + (L - 2 - 1) < 2 ^ 31 by omega) hb2]
    by_cases e1 : y_price pr (e ++ [d]) + (L - 2 - 1) < (y_fo (fun d b => y_H (y_stp pr me ta ki wa r i) w (L - 2 - 1) (e ++ [d]) b) d b0).2
    · rw [if_pos e1]
      by_cases e0 : L - 2 - 1 = 0
      · rw [if_pos (show nI (L - 2 - 1) ≤ nI 0 by rw [e0]; decide), c_fnd2 hQ1 hi hno m2, Option.bind_some]
        have hst : y_fo (fun d b => y_H (y_stp pr me ta ki wa r i) w (L - 2 - 1) (e ++ [d]) b) (d + 1) b0 = y_stp pr me ta ki wa r i (y_fo (fun d b => y_H (y_stp pr me ta ki wa r i) w (L - 2 - 1) (e ++ [d]) b) d b0) (e ++ [d]) := by
          rw [y_fo_s]
          simp only [e0, y_H_0]
        by_cases e2 : y_who me ta ki wa (e ++ [d]) r = 2 ^ i
        · rw [if_pos e2, if_neg (show ¬ nI 1 = nI 0 by decide)]
          have hQ2 : y_QS (x_up (x_up M1 26 2 (nI (y_cd (e ++ [d])))) 26 3 (nI (y_price pr (e ++ [d])))) w pr me ta r ki wa i (y_fo (fun d b => y_H (y_stp pr me ta ki wa r i) w (L - 2 - 1) (e ++ [d]) b) (d + 1) b0) := by
            rw [hst, y_stp_yes e2 (by omega)]
            obtain ⟨g1, g2, g3, g4, g5, g6⟩ := hQ1
            refine ⟨g1.keep rfl rfl rfl rfl, g2.keep rfl rfl rfl, ?_, ?_, ?_, ?_⟩
            · simp only [y_up_at]; simpa using g3
            · simp only [y_up_at]; simp
            · simp only [y_up_at]; simp
            · show y_price pr (e ++ [d]) < 2 ^ 31; omega
          obtain ⟨M', a1, a2, a3⟩ := q_len2_31 hp1 hi hL hL4 hel he n (d + 1) _ b0 (by omega) hQ2 ((hR.keep (m3 _ (by decide))).keep rfl)
          refine ⟨M', ?_, a2, (((m3.mono (by decide)).up (by simp)).up (by simp)).tr a3⟩
          simp only [m2.1, m2.2.2.1]
          exact a1
        · rw [if_neg e2, if_pos rfl]
          obtain ⟨M', a1, a2, a3⟩ := q_len2_31 hp1 hi hL hL4 hel he n (d + 1) M1 b0 (by omega) (by
            rw [hst, y_stp_no e2]
            exact hQ1) (hR.keep (m3 _ (by decide)))
          exact ⟨M', a1, a2, (m3.mono (by decide)).tr a3⟩
      · rw [if_neg (show ¬ nI (L - 2 - 1) ≤ nI 0 by rw [y_le (by omega) (by omega)]; omega)]
        obtain ⟨M2, c1, c2, c3⟩ := q_len3 hp1 hi (show 3 < L by omega) hL4 (show (e ++ [d]).length = 3 by simp [hel]) (y_snoc_lt he (show d < w by omega)) M1 _ hQ1 m2
        rw [show L - 3 = L - 2 - 1 by omega] at c2
        obtain ⟨M', a1, a2, a3⟩ := q_len2_31 hp1 hi hL hL4 hel he n (d + 1) M2 b0 (by omega) (by rw [y_fo_s]; exact c2) ((hR.keep (m3 _ (by decide))).keep (c3 _ (by decide)))
        refine ⟨M', ?_, a2, ((m3.mono (by decide)).tr (c3.mono (by decide))).tr a3⟩
        rw [c1, Option.bind_some]
        exact a1
    · rw [if_neg e1]
      obtain ⟨M', a1, a2, a3⟩ := q_len2_31 hp1 hi hL hL4 hel he n (d + 1) M1 b0 (by omega) (by
        rw [y_fo_s]
        rw [y_cut hw hp1 _ _ _ (y_snoc_lt he (by omega)) (by omega)]
        exact hQ1) (hR.keep (m3 _ (by decide)))
      exact ⟨M', a1, a2, (m3.mono (by decide)).tr a3⟩
theorem q_len2 (hp1 : ∀ j, j < w → 1 ≤ pr j) (hi : i < r) {L : Nat} (hL : 2 < L) (hL4 : L ≤ 4) {e : List Nat} (hel : e.length = 2) (he : ∀ q ∈ e, q < w) (M : xM) (b0 : Nat × Nat) (hQ : y_QS M w pr me ta r ki wa i b0) (hR : y_Rd 30 M pr me ta e) : ∃ M', Q_lengthen2_s_p (nI L) M = some (nI 0, M') ∧ y_QS M' w pr me ta r ki wa i (y_H (y_stp pr me ta ki wa r i) w (L - 2) e b0) ∧ y_but [26, 31, 32] M M' := by
  obtain ⟨M', a1, a2, a3⟩ := q_len2_31 hp1 hi hL hL4 hel he w 0 M b0 (by omega) hQ hR
  refine ⟨M', ?_, ?_, a3⟩
  · rw [Q_lengthen2_s_p_eq, if_neg (by rw [y_le (by omega) (by omega)]; omega), y_sub (by omega), y_sub (by omega)]
    exact a1
  · rw [show L - 2 = (L - 2 - 1) + 1 by omega, y_H_s]
    exact a2
theorem c_ext1 {M : xM} (hC : y_CWp M w pr me ta) {e : List Nat} {d : Nat} (hR : y_Rd 29 M pr me ta e) (he : ∀ q ∈ e, q < w) (hd : d < w) : ∃ M', R_extend_r2_r1_p (nI d) M = some (nI 0, M') ∧ y_Rd 30 M' pr me ta (e ++ [d]) ∧ y_but [30] M M' := by
  have hw := hC.1
  obtain ⟨v1, v2, v3⟩ := hC.2.2.1 d hd
  obtain ⟨h0, h1, h2, h3, h4, h5, h6⟩ := hR
  have hs := y_sb_lt e 0 (by omega) (fun q hq => by have := he q hq; omega)
  rw [R_extend_r2_r1_p_eq, c_hasWordp hC (by omega), if_pos hd, Option.bind_some, if_neg (show ¬ nI 1 = nI 0 by decide)]
  simp only [y_in (show d < 8 by omega) (show 8 < 2 ^ 31 by decide), Option.bind_some]
  refine ⟨_, rfl, ?_, ?_⟩
  · simp only [y_clamp (show d < 2 ^ 31 by omega), v1, v2, v3, h0, h1, h2, h3, h4, h5, h6, y_add, y_mul, y_bit8 _ hs d (by omega), y_bit_or _ hs d (by omega)]
    unfold y_Rd
    rw [y_cd_snoc, y_price_snoc hw pr e d he hd, y_sb_snoc, y_sum_snoc, y_sum_snoc, y_fd_snoc, List.length_append]
    refine ⟨?_, ?_, ?_, ?_, ?_, ?_, ?_⟩
    · simp only [y_up_at]; simp; congr 1; omega
    · simp only [y_up_at]; simp
    · simp only [y_up_at]; simp
    · simp only [y_up_at]; simp
    · simp only [y_up_at]; simp
    · simp only [y_up_at]; simp
    · simp only [y_up_at]; simp
  · exact ((((((y_but.rf.up (by simp)).up (by simp)).up (by simp)).up (by simp)).up (by simp)).up (by simp)).up (by simp)
theorem c_fnd1 {M : xM} {b : Nat × Nat} (hQ : y_QS M w pr me ta r ki wa i b) (hi : i < r) {ds : List Nat} (hds : y_no w ds) (hR : y_Rd 30 M pr me ta ds) : Q_isFound_s_p_r2 M = some (if y_who me ta ki wa ds r = 2 ^ i then nI 1 else nI 0, M) := by
  obtain ⟨hC, hRR, h1, h2, h3, h4⟩ := hQ
  have hr := hRR.1
  have hb := fun j hj => (hC.2.2.2 j hj).2
  have hl := y_who_lt me ta ki wa ds r
  have hp : 2 ^ r ≤ 2 ^ 6 := Nat.pow_le_pow_right (by decide) hr
  have hp2 : 2 ^ i ≤ 2 ^ 6 := Nat.pow_le_pow_right (by decide) (by omega)
  rw [Q_isFound_s_p_r2_eq, h1, c_isAns_p_r2 hb hRR hds hR hi, Option.bind_some]
  by_cases q : y_read me ta (ki i) ds = wa i
  · rw [if_pos q, if_neg (show ¬ nI 1 = nI 0 by decide), c_answ_r2 hb hRR hds hR, Option.bind_some]
    simp only [h1, y_sh6 i (by omega), y_eq (show y_who me ta ki wa ds r < 2 ^ 31 by omega) (show 2 ^ i < 2 ^ 31 by omega)]
    split <;> rfl
  · rw [if_neg q, if_pos rfl, if_neg (fun h => q (y_who_one h))]
theorem q_len1_31 (hp1 : ∀ j, j < w → 1 ≤ pr j) (hi : i < r) {L : Nat} (hL : 1 < L) (hL4 : L ≤ 4) {e : List Nat} (hel : e.length = 1) (he : ∀ q ∈ e, q < w) : ∀ (n d : Nat) (M : xM) (b0 : Nat × Nat), d + n = w → y_QS M w pr me ta r ki wa i (y_fo (fun d b => y_H (y_stp pr me ta ki wa r i) w (L - 1 - 1) (e ++ [d]) b) d b0) → y_Rd 29 M pr me ta e → ∃ M', Q_lengthen1_s_p_31 (nI L) (nI (L - 1 - 1)) (nI d) M = some (nI 0, M') ∧ y_QS M' w pr me ta r ki wa i (y_fo (fun d b => y_H (y_stp pr me ta ki wa r i) w (L - 1 - 1) (e ++ [d]) b) w b0) ∧ y_but [26, 30, 31, 32] M M'
  | 0, d, M, b0, h, hQ, hR => by
    have hw := hQ.1.1
    refine ⟨M, ?_, ?_, y_but.rf⟩
    · rw [Q_lengthen1_s_p_31_eq, hQ.1.2.1, if_pos (by rw [y_le (by omega) (by omega)]; omega)]
    · rw [show w = d by omega] at hQ ⊢
      exact hQ
  | n + 1, d, M, b0, h, hQ, hR => by
    have hw := hQ.1.1
    obtain ⟨M1, m1, m2, m3⟩ := c_ext1 hQ.1 hR he (show d < w by omega)
    have hQ1 := hQ.keep (m3.mono (by decide))
    have hno := y_snoc_no he (show d < w by omega) (by omega)
    have h50 := y_price_50 (fun j hj => (hQ.1.2.2.2 j hj).1) hno
    have hb2 := hQ1.2.2.2.2.2
    rw [Q_lengthen1_s_p_31_eq, hQ.1.2.1, if_neg (by rw [y_le (by omega) (by omega)]; omega), m1, Option.bind_some]
    simp only [m2.2.2.1, hQ1.2.2.2.2.1, y_add, y_lt (show y_price pr (e ++ [d]) + (L - 1 - 1) < 2 ^ 31 by omega) hb2]
    by_cases e1 : y_price pr (e ++ [d]) + (L - 1 - 1) < (y_fo (fun d b => y_H (y_stp pr me ta ki wa r i) w (L - 1 - 1) (e ++ [d]) b) d b0).2
    · rw [if_pos e1]
      by_cases e0 : L - 1 - 1 = 0
      · rw [if_pos (show nI (L - 1 - 1) ≤ nI 0 by rw [e0]; decide), c_fnd1 hQ1 hi hno m2, Option.bind_some]
        have hst : y_fo (fun d b => y_H (y_stp pr me ta ki wa r i) w (L - 1 - 1) (e ++ [d]) b) (d + 1) b0 = y_stp pr me ta ki wa r i (y_fo (fun d b => y_H (y_stp pr me ta ki wa r i) w (L - 1 - 1) (e ++ [d]) b) d b0) (e ++ [d]) := by
          rw [y_fo_s]
          simp only [e0, y_H_0]
        by_cases e2 : y_who me ta ki wa (e ++ [d]) r = 2 ^ i
        · rw [if_pos e2, if_neg (show ¬ nI 1 = nI 0 by decide)]
          have hQ2 : y_QS (x_up (x_up M1 26 2 (nI (y_cd (e ++ [d])))) 26 3 (nI (y_price pr (e ++ [d])))) w pr me ta r ki wa i (y_fo (fun d b => y_H (y_stp pr me ta ki wa r i) w (L - 1 - 1) (e ++ [d]) b) (d + 1) b0) := by
            rw [hst, y_stp_yes e2 (by omega)]
            obtain ⟨g1, g2, g3, g4, g5, g6⟩ := hQ1
            refine ⟨g1.keep rfl rfl rfl rfl, g2.keep rfl rfl rfl, ?_, ?_, ?_, ?_⟩
            · simp only [y_up_at]; simpa using g3
            · simp only [y_up_at]; simp
            · simp only [y_up_at]; simp
            · show y_price pr (e ++ [d]) < 2 ^ 31; omega
          obtain ⟨M', a1, a2, a3⟩ := q_len1_31 hp1 hi hL hL4 hel he n (d + 1) _ b0 (by omega) hQ2 ((hR.keep (m3 _ (by decide))).keep rfl)
          refine ⟨M', ?_, a2, (((m3.mono (by decide)).up (by simp)).up (by simp)).tr a3⟩
          simp only [m2.1, m2.2.2.1]
          exact a1
        · rw [if_neg e2, if_pos rfl]
          obtain ⟨M', a1, a2, a3⟩ := q_len1_31 hp1 hi hL hL4 hel he n (d + 1) M1 b0 (by omega) (by
            rw [hst, y_stp_no e2]
            exact hQ1) (hR.keep (m3 _ (by decide)))
          exact ⟨M', a1, a2, (m3.mono (by decide)).tr a3⟩
      · rw [if_neg (show ¬ nI (L - 1 - 1) ≤ nI 0 by rw [y_le (by omega) (by omega)]; omega)]
        obtain ⟨M2, c1, c2, c3⟩ := q_len2 hp1 hi (show 2 < L by omega) hL4 (show (e ++ [d]).length = 2 by simp [hel]) (y_snoc_lt he (show d < w by omega)) M1 _ hQ1 m2
        rw [show L - 2 = L - 1 - 1 by omega] at c2
        obtain ⟨M', a1, a2, a3⟩ := q_len1_31 hp1 hi hL hL4 hel he n (d + 1) M2 b0 (by omega) (by rw [y_fo_s]; exact c2) ((hR.keep (m3 _ (by decide))).keep (c3 _ (by decide)))
        refine ⟨M', ?_, a2, ((m3.mono (by decide)).tr (c3.mono (by decide))).tr a3⟩
        rw [c1, Option.bind_some]
        exact a1
    · rw [if_neg e1]
      obtain ⟨M', a1, a2, a3⟩ := q_len1_31 hp1 hi hL hL4 hel he n (d + 1) M1 b0 (by omega) (by
        rw [y_fo_s]
        rw [y_cut hw hp1 _ _ _ (y_snoc_lt he (by omega)) (by omega)]
        exact hQ1) (hR.keep (m3 _ (by decide)))
      exact ⟨M', a1, a2, (m3.mono (by decide)).tr a3⟩
theorem q_len1 (hp1 : ∀ j, j < w → 1 ≤ pr j) (hi : i < r) {L : Nat} (hL : 1 < L) (hL4 : L ≤ 4) {e : List Nat} (hel : e.length = 1) (he : ∀ q ∈ e, q < w) (M : xM) (b0 : Nat × Nat) (hQ : y_QS M w pr me ta r ki wa i b0) (hR : y_Rd 29 M pr me ta e) : ∃ M', Q_lengthen1_s_p (nI L) M = some (nI 0, M') ∧ y_QS M' w pr me ta r ki wa i (y_H (y_stp pr me ta ki wa r i) w (L - 1) e b0) ∧ y_but [26, 30, 31, 32] M M' := by
  obtain ⟨M', a1, a2, a3⟩ := q_len1_31 hp1 hi hL hL4 hel he w 0 M b0 (by omega) hQ hR
  refine ⟨M', ?_, ?_, a3⟩
  · rw [Q_lengthen1_s_p_eq, if_neg (by rw [y_le (by omega) (by omega)]; omega), y_sub (by omega), y_sub (by omega)]
    exact a1
  · rw [show L - 1 = (L - 1 - 1) + 1 by omega, y_H_s]
    exact a2
theorem c_ext0 {M : xM} (hC : y_CWp M w pr me ta) {e : List Nat} {d : Nat} (hR : y_Rd 28 M pr me ta e) (he : ∀ q ∈ e, q < w) (hd : d < w) : ∃ M', R_extend_r1_r0_p (nI d) M = some (nI 0, M') ∧ y_Rd 29 M' pr me ta (e ++ [d]) ∧ y_but [29] M M' := by
  have hw := hC.1
  obtain ⟨v1, v2, v3⟩ := hC.2.2.1 d hd
  obtain ⟨h0, h1, h2, h3, h4, h5, h6⟩ := hR
  have hs := y_sb_lt e 0 (by omega) (fun q hq => by have := he q hq; omega)
  rw [R_extend_r1_r0_p_eq, c_hasWordp hC (by omega), if_pos hd, Option.bind_some, if_neg (show ¬ nI 1 = nI 0 by decide)]
  simp only [y_in (show d < 8 by omega) (show 8 < 2 ^ 31 by decide), Option.bind_some]
  refine ⟨_, rfl, ?_, ?_⟩
  · simp only [y_clamp (show d < 2 ^ 31 by omega), v1, v2, v3, h0, h1, h2, h3, h4, h5, h6, y_add, y_mul, y_bit8 _ hs d (by omega), y_bit_or _ hs d (by omega)]
    unfold y_Rd
    rw [y_cd_snoc, y_price_snoc hw pr e d he hd, y_sb_snoc, y_sum_snoc, y_sum_snoc, y_fd_snoc, List.length_append]
    refine ⟨?_, ?_, ?_, ?_, ?_, ?_, ?_⟩
    · simp only [y_up_at]; simp; congr 1; omega
    · simp only [y_up_at]; simp
    · simp only [y_up_at]; simp
    · simp only [y_up_at]; simp
    · simp only [y_up_at]; simp
    · simp only [y_up_at]; simp
    · simp only [y_up_at]; simp
  · exact ((((((y_but.rf.up (by simp)).up (by simp)).up (by simp)).up (by simp)).up (by simp)).up (by simp)).up (by simp)
theorem c_fnd0 {M : xM} {b : Nat × Nat} (hQ : y_QS M w pr me ta r ki wa i b) (hi : i < r) {ds : List Nat} (hds : y_no w ds) (hR : y_Rd 29 M pr me ta ds) : Q_isFound_s_p_r1 M = some (if y_who me ta ki wa ds r = 2 ^ i then nI 1 else nI 0, M) := by
  obtain ⟨hC, hRR, h1, h2, h3, h4⟩ := hQ
  have hr := hRR.1
  have hb := fun j hj => (hC.2.2.2 j hj).2
  have hl := y_who_lt me ta ki wa ds r
  have hp : 2 ^ r ≤ 2 ^ 6 := Nat.pow_le_pow_right (by decide) hr
  have hp2 : 2 ^ i ≤ 2 ^ 6 := Nat.pow_le_pow_right (by decide) (by omega)
  rw [Q_isFound_s_p_r1_eq, h1, c_isAns_p_r1 hb hRR hds hR hi, Option.bind_some]
  by_cases q : y_read me ta (ki i) ds = wa i
  · rw [if_pos q, if_neg (show ¬ nI 1 = nI 0 by decide), c_answ_r1 hb hRR hds hR, Option.bind_some]
    simp only [h1, y_sh6 i (by omega), y_eq (show y_who me ta ki wa ds r < 2 ^ 31 by omega) (show 2 ^ i < 2 ^ 31 by omega)]
    split <;> rfl
  · rw [if_neg q, if_pos rfl, if_neg (fun h => q (y_who_one h))]
theorem q_len0_31 (hp1 : ∀ j, j < w → 1 ≤ pr j) (hi : i < r) {L : Nat} (hL : 0 < L) (hL4 : L ≤ 4) {e : List Nat} (hel : e.length = 0) (he : ∀ q ∈ e, q < w) : ∀ (n d : Nat) (M : xM) (b0 : Nat × Nat), d + n = w → y_QS M w pr me ta r ki wa i (y_fo (fun d b => y_H (y_stp pr me ta ki wa r i) w (L - 0 - 1) (e ++ [d]) b) d b0) → y_Rd 28 M pr me ta e → ∃ M', Q_lengthen0_s_p_31 (nI L) (nI (L - 0 - 1)) (nI d) M = some (nI 0, M') ∧ y_QS M' w pr me ta r ki wa i (y_fo (fun d b => y_H (y_stp pr me ta ki wa r i) w (L - 0 - 1) (e ++ [d]) b) w b0) ∧ y_but [26, 29, 30, 31, 32] M M'
  | 0, d, M, b0, h, hQ, hR => by
    have hw := hQ.1.1
    refine ⟨M, ?_, ?_, y_but.rf⟩
    · rw [Q_lengthen0_s_p_31_eq, hQ.1.2.1, if_pos (by rw [y_le (by omega) (by omega)]; omega)]
    · rw [show w = d by omega] at hQ ⊢
      exact hQ
  | n + 1, d, M, b0, h, hQ, hR => by
    have hw := hQ.1.1
    obtain ⟨M1, m1, m2, m3⟩ := c_ext0 hQ.1 hR he (show d < w by omega)
    have hQ1 := hQ.keep (m3.mono (by decide))
    have hno := y_snoc_no he (show d < w by omega) (by omega)
    have h50 := y_price_50 (fun j hj => (hQ.1.2.2.2 j hj).1) hno
    have hb2 := hQ1.2.2.2.2.2
    rw [Q_lengthen0_s_p_31_eq, hQ.1.2.1, if_neg (by rw [y_le (by omega) (by omega)]; omega), m1, Option.bind_some]
    simp only [m2.2.2.1, hQ1.2.2.2.2.1, y_add, y_lt (show y_price pr (e ++ [d]) + (L - 0 - 1) < 2 ^ 31 by omega) hb2]
    by_cases e1 : y_price pr (e ++ [d]) + (L - 0 - 1) < (y_fo (fun d b => y_H (y_stp pr me ta ki wa r i) w (L - 0 - 1) (e ++ [d]) b) d b0).2
    · rw [if_pos e1]
      by_cases e0 : L - 0 - 1 = 0
      · rw [if_pos (show nI (L - 0 - 1) ≤ nI 0 by rw [e0]; decide), c_fnd0 hQ1 hi hno m2, Option.bind_some]
        have hst : y_fo (fun d b => y_H (y_stp pr me ta ki wa r i) w (L - 0 - 1) (e ++ [d]) b) (d + 1) b0 = y_stp pr me ta ki wa r i (y_fo (fun d b => y_H (y_stp pr me ta ki wa r i) w (L - 0 - 1) (e ++ [d]) b) d b0) (e ++ [d]) := by
          rw [y_fo_s]
          simp only [e0, y_H_0]
        by_cases e2 : y_who me ta ki wa (e ++ [d]) r = 2 ^ i
        · rw [if_pos e2, if_neg (show ¬ nI 1 = nI 0 by decide)]
          have hQ2 : y_QS (x_up (x_up M1 26 2 (nI (y_cd (e ++ [d])))) 26 3 (nI (y_price pr (e ++ [d])))) w pr me ta r ki wa i (y_fo (fun d b => y_H (y_stp pr me ta ki wa r i) w (L - 0 - 1) (e ++ [d]) b) (d + 1) b0) := by
            rw [hst, y_stp_yes e2 (by omega)]
            obtain ⟨g1, g2, g3, g4, g5, g6⟩ := hQ1
            refine ⟨g1.keep rfl rfl rfl rfl, g2.keep rfl rfl rfl, ?_, ?_, ?_, ?_⟩
            · simp only [y_up_at]; simpa using g3
            · simp only [y_up_at]; simp
            · simp only [y_up_at]; simp
            · show y_price pr (e ++ [d]) < 2 ^ 31; omega
          obtain ⟨M', a1, a2, a3⟩ := q_len0_31 hp1 hi hL hL4 hel he n (d + 1) _ b0 (by omega) hQ2 ((hR.keep (m3 _ (by decide))).keep rfl)
          refine ⟨M', ?_, a2, (((m3.mono (by decide)).up (by simp)).up (by simp)).tr a3⟩
          simp only [m2.1, m2.2.2.1]
          exact a1
        · rw [if_neg e2, if_pos rfl]
          obtain ⟨M', a1, a2, a3⟩ := q_len0_31 hp1 hi hL hL4 hel he n (d + 1) M1 b0 (by omega) (by
            rw [hst, y_stp_no e2]
            exact hQ1) (hR.keep (m3 _ (by decide)))
          exact ⟨M', a1, a2, (m3.mono (by decide)).tr a3⟩
      · rw [if_neg (show ¬ nI (L - 0 - 1) ≤ nI 0 by rw [y_le (by omega) (by omega)]; omega)]
        obtain ⟨M2, c1, c2, c3⟩ := q_len1 hp1 hi (show 1 < L by omega) hL4 (show (e ++ [d]).length = 1 by simp [hel]) (y_snoc_lt he (show d < w by omega)) M1 _ hQ1 m2
        rw [show L - 1 = L - 0 - 1 by omega] at c2
        obtain ⟨M', a1, a2, a3⟩ := q_len0_31 hp1 hi hL hL4 hel he n (d + 1) M2 b0 (by omega) (by rw [y_fo_s]; exact c2) ((hR.keep (m3 _ (by decide))).keep (c3 _ (by decide)))
        refine ⟨M', ?_, a2, ((m3.mono (by decide)).tr (c3.mono (by decide))).tr a3⟩
        rw [c1, Option.bind_some]
        exact a1
    · rw [if_neg e1]
      obtain ⟨M', a1, a2, a3⟩ := q_len0_31 hp1 hi hL hL4 hel he n (d + 1) M1 b0 (by omega) (by
        rw [y_fo_s]
        rw [y_cut hw hp1 _ _ _ (y_snoc_lt he (by omega)) (by omega)]
        exact hQ1) (hR.keep (m3 _ (by decide)))
      exact ⟨M', a1, a2, (m3.mono (by decide)).tr a3⟩
theorem q_len0 (hp1 : ∀ j, j < w → 1 ≤ pr j) (hi : i < r) {L : Nat} (hL : 0 < L) (hL4 : L ≤ 4) {e : List Nat} (hel : e.length = 0) (he : ∀ q ∈ e, q < w) (M : xM) (b0 : Nat × Nat) (hQ : y_QS M w pr me ta r ki wa i b0) (hR : y_Rd 28 M pr me ta e) : ∃ M', Q_lengthen0_s_p (nI L) M = some (nI 0, M') ∧ y_QS M' w pr me ta r ki wa i (y_H (y_stp pr me ta ki wa r i) w (L - 0) e b0) ∧ y_but [26, 29, 30, 31, 32] M M' := by
  obtain ⟨M', a1, a2, a3⟩ := q_len0_31 hp1 hi hL hL4 hel he w 0 M b0 (by omega) hQ hR
  refine ⟨M', ?_, ?_, a3⟩
  · rw [Q_lengthen0_s_p_eq, if_neg (by rw [y_le (by omega) (by omega)]; omega), y_sub (by omega), y_sub (by omega)]
    exact a1
  · rw [show L - 0 = (L - 0 - 1) + 1 by omega, y_H_s]
    exact a2
theorem q_sk28 (hp1 : ∀ j, j < w → 1 ≤ pr j) (hi : i < r) (o : Option Int32) {M : xM} {b0 : Nat × Nat} (hQ : y_QS M w pr me ta r ki wa i b0) (hR : y_Rd 28 M pr me ta []) : ∃ M', Q_seek_s_p_28 o (nI 1) M = some (nI 0, M') ∧ y_QS M' w pr me ta r ki wa i (y_G (y_F (y_stp pr me ta ki wa r i) w) 1 8888 b0) ∧ y_but [26, 29, 30, 31, 32] M M' := by
  obtain ⟨M1, a1, a2, a3⟩ := q_len0 hp1 hi (show 0 < 1 by omega) (by omega) (e := []) rfl (fun q hq => by cases hq) M b0 hQ hR
  obtain ⟨M2, b1, b2, b3⟩ := q_len0 hp1 hi (show 0 < 2 by omega) (by omega) (e := []) rfl (fun q hq => by cases hq) M1 _ a2 (hR.keep (a3 _ (by decide)))
  obtain ⟨M3, c1, c2, c3⟩ := q_len0 hp1 hi (show 0 < 3 by omega) (by omega) (e := []) rfl (fun q hq => by cases hq) M2 _ b2 ((hR.keep (a3 _ (by decide))).keep (b3 _ (by decide)))
  obtain ⟨M4, d1, d2, d3⟩ := q_len0 hp1 hi (show 0 < 4 by omega) (by omega) (e := []) rfl (fun q hq => by cases hq) M3 _ c2 (((hR.keep (a3 _ (by decide))).keep (b3 _ (by decide))).keep (c3 _ (by decide)))
  refine ⟨M4, ?_, ?_, ((a3.tr b3).tr c3).tr d3⟩
  · rw [Q_seek_s_p_28_eq, if_neg (by decide), a1, Option.bind_some, y_add, Q_seek_s_p_28_eq, if_neg (by decide), b1, Option.bind_some, y_add, Q_seek_s_p_28_eq, if_neg (by decide), c1, Option.bind_some, y_add, Q_seek_s_p_28_eq, if_neg (by decide), d1, Option.bind_some, y_add, Q_seek_s_p_28_eq, if_pos (by decide)]
  · rw [y_G_all hQ.1.1]
    exact d2
theorem q_seek {M : xM} (hp1 : ∀ j, j < w → 1 ≤ pr j) (hi : i < r) (hC : y_CWp M w pr me ta) (hRR : y_CRp M r ki wa) : ∃ M', Q_seek_s_p (nI i) M = some (nI 0, M') ∧ y_QS M' w pr me ta r ki wa i (y_G (y_F (y_stp pr me ta ki wa r i) w) 1 8888 (0, 1000)) ∧ y_but [26, 28, 29, 30, 31, 32] M M' := by
  rw [Q_seek_s_p_eq, R_clear_r0_eq, Option.bind_some]
  generalize hM1 : x_up (x_up (x_up (x_up (x_up (x_up (x_up (x_up (x_up (x_up M 26 1 (nI i)) 26 2 (nI 0)) 26 3 (nI 1000)) 28 0 (nI 0)) 28 1 (nI 0)) 28 2 (nI 0)) 28 3 (nI 0)) 28 4 (nI 0)) 28 5 (nI 0)) 28 6 (nI 0) = M1
  have b1 : y_but [26, 28] M M1 := by
    rw [← hM1]
    exact (((((((((y_but.rf.up (by simp)).up (by simp)).up (by simp)).up (by simp)).up (by simp)).up (by simp)).up (by simp)).up (by simp)).up (by simp)).up (by simp)
  have hQ : y_QS M1 w pr me ta r ki wa i (0, 1000) := by
    refine ⟨hC.keep (b1 _ (by decide)) (b1 _ (by decide)) (b1 _ (by decide)) (b1 _ (by decide)), hRR.keep (b1 _ (by decide)) (b1 _ (by decide)) (b1 _ (by decide)), ?_, ?_, ?_, by decide⟩ <;> rw [← hM1] <;> simp only [y_up_at] <;> simp
  have hR : y_Rd 28 M1 pr me ta [] := by
    unfold y_Rd
    refine ⟨?_, ?_, ?_, ?_, ?_, ?_, ?_⟩ <;> rw [← hM1] <;> simp only [y_up_at] <;> simp
    all_goals rfl
  obtain ⟨M', a1, a2, a3⟩ := q_sk28 hp1 hi (some (nI i)) hQ hR
  exact ⟨M', a1, a2, (b1.mono (by decide)).tr (a3.mono (by decide))⟩
/-- the best so far, as the reference holds it -/
def y_kb (b : Nat × Nat) : Prop := (b.1 = 0 → b.2 = 1000) ∧ b.1 < 2 ^ 31 ∧ b.2 < 2 ^ 31
def y_kx (b : Nat × Nat) : Int32 := if b.1 = 0 then -4 else nI b.1
def y_ky (b : Nat × Nat) : Int32 := if b.1 = 0 then -4 else nI b.2
theorem y_ne4 {n : Nat} (hn : n < 2 ^ 31) : ¬ nI n = -4 := by
  intro e
  have h : (-4 : Int32) < nI 0 := by decide
  rw [← e] at h
  exact absurd h (nI_pos hn)
theorem y_stp_ok (hw : w ≤ 8) {b : Nat × Nat} (hb : y_kb b) {ds : List Nat} (hds : y_no w ds) (hf : ∀ j, j < w → pr j ≤ 9) : y_kb (y_stp pr me ta ki wa r i b ds) := by
  unfold y_stp
  split
  · have h1 := y_cd_lt hw hds
    have h2 := y_price_50 hf hds
    exact ⟨fun h => absurd h (by show ¬ y_cd ds = 0; omega), by show y_cd ds < _; omega, by show y_price pr ds < _; omega⟩
  · exact hb
theorem k_ch29 {M : xM} (hK : y_KW M w pr me ta) (hR : y_KR M r ki wa) (hi : i < r) (x2 : Int32) : ∀ (n c : Nat) (b : Nat × Nat), c + n = 8889 → y_kb b → K_cheapest_29 (nI i) x2 (y_kx b) (y_ky b) (nI c) M = some (if x2 = nI 0 then y_kx (y_G (y_F (y_stp pr me ta ki wa r i) w) c n b) else y_ky (y_G (y_F (y_stp pr me ta ki wa r i) w) c n b), M)
  | 0, c, b, h, hb => by
    rw [K_cheapest_29_eq, if_pos (by rw [y_le (by omega) (by omega)]; omega)]
    show _ = some (if x2 = nI 0 then y_kx b else y_ky b, M)
    split <;> rfl
  | n + 1, c, b, h, hb => by
    have hw := hK.1
    have hr := hR.1
    have ih := fun b hb => k_ch29 hK hR hi x2 n (c + 1) b (by omega) hb
    rw [y_G_s, K_cheapest_29_eq, if_neg (by rw [y_le (by omega) (by omega)]; omega), k_longOf hw hK.2.1, Option.bind_some, y_code_len hw, y_add]
    unfold y_F
    cases hcd : y_code w (nI c) with
    | none => exact ih b hb
    | some ds =>
      obtain ⟨hds, he⟩ := y_code_some hw hcd
      have hcl := y_cd_lt hw hds
      have hce : c = y_cd ds := by rwa [y_eq (by omega) (by omega)] at he
      have hf := fun j hj => (hK.2.2.2 j hj).1
      have h50 := y_price_50 hf hds
      have hok := y_stp_ok (me := me) (ta := ta) (ki := ki) (wa := wa) (r := r) (i := i) hw hb hds hf
      have hl := y_who_lt me ta ki wa ds r
      have hp : 2 ^ r ≤ 2 ^ 6 := Nat.pow_le_pow_right (by decide) hr
      have hp2 : 2 ^ i ≤ 2 ^ 6 := Nat.pow_le_pow_right (by decide) (by omega)
      have ih := ih _ hok
      simp only [Option.isSome_some, if_true]
      rw [he, k_whoDoes hK hR hds, k_priceOf hK hds]
      simp only [Option.bind_some, k_whoDoes hK hR hds, k_priceOf hK hds, y_sh6 i (show i < 6 by omega), y_eq (show y_who me ta ki wa ds r < 2 ^ 31 by omega) (show 2 ^ i < 2 ^ 31 by omega)]
      have e1 : ∀ M : xM, y_stp pr me ta ki wa r i b ds = (y_cd ds, y_price pr ds) → K_cheapest_29 (nI i) x2 (nI (y_cd ds)) (nI (y_price pr ds)) (nI (c + 1)) M = K_cheapest_29 (nI i) x2 (y_kx (y_stp pr me ta ki wa r i b ds)) (y_ky (y_stp pr me ta ki wa r i b ds)) (nI (c + 1)) M := by
        intro M q
        rw [q]
        unfold y_kx y_ky
        rw [if_neg (by show ¬ y_cd ds = 0; omega), if_neg (by show ¬ y_cd ds = 0; omega)]
      by_cases q0 : b.1 = 0
      · rw [if_pos (show y_kx b = -4 by unfold y_kx; rw [if_pos q0])]
        have hb2 := hb.1 q0
        by_cases q1 : y_who me ta ki wa ds r = 2 ^ i
        · rw [if_pos q1, e1 M (by unfold y_stp; rw [if_pos ⟨q1, by omega⟩])]
          exact ih
        · rw [if_neg q1]
          rw [show y_stp pr me ta ki wa r i b ds = b by unfold y_stp; rw [if_neg (fun q => q1 q.1)]] at ih ⊢
          exact ih
      · rw [if_neg (show ¬ y_kx b = -4 by unfold y_kx; rw [if_neg q0]; exact y_ne4 hb.2.1)]
        have e2 : (y_ky b ≤ nI (y_price pr ds)) = (b.2 ≤ y_price pr ds) := by
          unfold y_ky
          rw [if_neg q0, y_le hb.2.2 (by omega)]
        simp only [e2]
        by_cases q2 : b.2 ≤ y_price pr ds
        · rw [if_pos q2]
          rw [show y_stp pr me ta ki wa r i b ds = b by unfold y_stp; rw [if_neg (fun q => by omega)]] at ih ⊢
          exact ih
        · rw [if_neg q2]
          by_cases q1 : y_who me ta ki wa ds r = 2 ^ i
          · rw [if_pos q1, e1 M (by unfold y_stp; rw [if_pos ⟨q1, by omega⟩])]
            exact ih
          · rw [if_neg q1]
            rw [show y_stp pr me ta ki wa r i b ds = b by unfold y_stp; rw [if_neg (fun q => q1 q.1)]] at ih ⊢
            exact ih
theorem y_G_kb (hw : w ≤ 8) (hf : ∀ j, j < w → pr j ≤ 9) : ∀ (n c : Nat) (b : Nat × Nat), y_kb b → y_kb (y_G (y_F (y_stp pr me ta ki wa r i) w) c n b)
  | 0, c, b, hb => hb
  | n + 1, c, b, hb => by
    rw [y_G_s]
    refine y_G_kb hw hf n (c + 1) _ ?_
    unfold y_F
    cases hcd : y_code w (nI c) with
    | none => exact hb
    | some ds => exact y_stp_ok hw hb (y_code_some hw hcd).1 hf
end
theorem op_cheapest {M : xM} (h : y_Inv M) (x y : Int32) : y_op (C_cheapest x y) (K_cheapest x y) M := by
  obtain ⟨w, pr, me, r, ki, wa, N, nt, tx, nc, ch, nk, kp, nh, th, hI⟩ := id h
  obtain ⟨⟨hp1, hCW, hCR, hKW, hKR⟩, -⟩ := id hI
  have hr := hCR.1
  have hC := C_cheapest_eq x y M
  simp only [c_hasR (show r < 2 ^ 30 by omega) hCR.2.1, Option.bind_some, y_b0, c_either] at hC
  have hK : ∀ M, y_KR M r ki wa → K_cheapest x y M = if y_inb x r = true then if y_inb y (1 + 1) = true then K_cheapest_29 x y (-4 : Int32) (-4 : Int32) (nI 1) M else some (-1, M) else some (-1, M) := by
    intro M hKR
    rw [K_cheapest_eq]
    simp only [k_isReader (show r < 2 ^ 30 by omega) hKR.2.1, Option.bind_some, y_b0, k_in0 (show 1 < 2 ^ 29 by decide)]
  by_cases hx : y_inb x r = true
  · rw [if_pos hx] at hC
    simp only [if_pos hx] at hK
    by_cases hy : y_inb y 2 = true
    · rw [if_pos hy] at hC
      simp only [show y_inb y (1 + 1) = true from hy, if_true] at hK
      obtain ⟨i, hi, rfl⟩ := y_inb_t hx
      obtain ⟨M1, a1, a2, a3⟩ := q_seek hp1.2 hi hCW hCR
      have a4 : y_but y_scr M M1 := a3.mono (by decide)
      obtain ⟨⟨-, -, -, hKW1, hKR1⟩, -⟩ := hI.scr a4
      have e := k_ch29 hKW1 hKR1 hi y 8888 1 (0, 1000) (by omega) ⟨fun _ => rfl, by decide, by decide⟩
      have hkb := y_G_kb (pr := pr) (me := me) (ta := N.2.2) (ki := ki) (wa := wa) (r := r) (i := i) hCW.1 (fun j hj => (hCW.2.2.2 j hj).1) 8888 1 (0, 1000) ⟨fun _ => rfl, by decide, by decide⟩
      rw [a1, Option.bind_some] at hC
      simp only [a2.2.2.2.1, a2.2.2.2.2.1] at hC
      generalize y_G (y_F (y_stp pr me N.2.2 ki wa r i) w) 1 8888 (0, 1000) = b at hC e hkb
      refine y_op.ro h ?_ ((hK M1 hKR1).trans e) a4 y_but.rf
      rw [hC]
      unfold y_kx y_ky
      by_cases q : b.1 = 0
      · rw [if_pos (show nI b.1 = nI 0 by rw [q]), if_pos q, if_pos q]
        split <;> rfl
      · rw [if_neg (show ¬ nI b.1 = nI 0 by rw [y_eq hkb.2.1 (by omega)]; exact q), if_neg q, if_neg q]
        split <;> rfl
    · rw [if_neg hy] at hC
      have hK := hK M hKR
      rw [if_neg (show ¬ y_inb y (1 + 1) = true from hy)] at hK
      exact y_op.same h hC hK
  · rw [if_neg hx] at hC
    have hK := hK M hKR
    rw [if_neg hx] at hK
    exact y_op.same h hC hK
