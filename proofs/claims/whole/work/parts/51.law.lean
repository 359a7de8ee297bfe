/-! the law's loop: printed by wip/whole/gen/law51.py -/
theorem z_keep {mi pc : Nat} {ls : xS} {st : List Value} {M : xM} {r : Int32 × xM} (h : x_den x_sh mi pc ls st M = some r) : r.2 98 = M 98 ∧ r.2 99 = M 99 := by
  obtain ⟨n, hn⟩ := x_den_iff.mp h
  have hk := x_ev_keep n hn
  exact ⟨hk 98 ⟨9, 0, [], rfl, by omega⟩, hk 99 ⟨3, 0, [], rfl, by omega⟩⟩
theorem z_br {C K : xM → xR} {M : xM} {i : Nat} (h : y_op C K M) (hk : ∀ r, C M = some r → r.2 98 = M 98 ∧ r.2 99 = M 99) {F : Int32 × xM → xR} (hF : ∀ v M1, M1 98 = M 98 → M1 99 = M 99 → F (v, M1) = (K M1).bind fun q => if v = q.1 then Law (nI (i + 4)) q.2 else some (nI 0, q.2)) (IH : ∀ M2, y_Inv M2 → M2 98 = M 98 → ∃ M', Law (nI (i + 4)) M2 = some (nI 1, M')) : ∃ M', (C M).bind F = some (nI 1, M') := by
  obtain ⟨v, M1, M2, h1, h2, h3, h4, -⟩ := h
  obtain ⟨M', h5⟩ := IH M2 h3 h4
  obtain ⟨k1, k2⟩ := hk _ h1
  refine ⟨M', ?_⟩
  rw [h1, Option.bind_some, hF v M1 k1 k2, h2, Option.bind_some, if_pos rfl]
  exact h5
theorem z_end {L i : Nat} (hL : L ≤ 256) (hi : i ≤ L + 4) : (nI L - nI 4 < nI i) = (L < i + 4) := by
  by_cases h : 4 ≤ L
  · rw [y_sub h, y_lt (by omega) (by omega)]
    apply propext
    omega
  · apply propext
    refine ⟨fun _ => by omega, fun _ => y_neg_lt ?_ (by omega)⟩
    have key : ∀ L, L < 4 → nI L - nI 4 < nI 0 := by decide
    exact key L (by omega)
set_option maxRecDepth 20000 in
theorem z_law {L : Nat} (hL : L ≤ 256) : ∀ (n i : Nat) (M : xM), L ≤ i + n → i ≤ L + 4 → y_Inv M → M 98 0 = nI L → ∃ M', Law (nI i) M = some (nI 1, M')
  | 0, i, M, h, hi, hI, hM => by
    refine ⟨M, ?_⟩
    rw [Law_eq, hM]
    simp only [z_end hL hi]
    rw [if_pos (by omega)]
  | n + 1, i, M, h, hi, hI, hM => by
    rw [Law_eq, hM]
    simp only [z_end hL hi]
    by_cases he : L < i + 4
    · rw [if_pos he]
      exact ⟨M, rfl⟩
    · have IH : ∀ M2, y_Inv M2 → M2 98 = M 98 → ∃ M', Law (nI (i + 4)) M2 = some (nI 1, M') := fun M2 h2 h3 => z_law hL n (i + 4) M2 (by omega) (by omega) h2 (by rw [h3]; exact hM)
      rw [if_neg he]
      simp only [y_add, y_clamp (show L < 2 ^ 31 by omega), y_clamp (show i < 2 ^ 31 by omega), y_clamp (show i + 1 < 2 ^ 31 by omega), y_clamp (show i + 2 < 2 ^ 31 by omega), y_clamp (show i + 3 < 2 ^ 31 by omega), y_in2 (show i < L by omega) (show L < 2 ^ 31 by omega), y_in2 (show i + 1 < L by omega) (show L < 2 ^ 31 by omega), y_in2 (show i + 2 < L by omega) (show L < 2 ^ 31 by omega), y_in2 (show i + 3 < L by omega) (show L < 2 ^ 31 by omega)]
      by_cases c0 : (M 99 i &&& nI 31) = nI 0
      · rw [if_pos c0]
        refine z_br (i := i) (op_write hI _) (fun r hr => z_keep hr) (fun v M1 e1 e2 => ?_) IH
        simp only [e1, e2, hM, y_clamp (show L < 2 ^ 31 by omega), y_in2 (show i + 1 < L by omega) (show L < 2 ^ 31 by omega)]
      rw [if_neg c0]
      by_cases c1 : (M 99 i &&& nI 31) = nI 1
      · rw [if_pos c1]
        refine z_br (i := i) (op_wipe hI) (fun r hr => z_keep hr) (fun v M1 e1 e2 => ?_) IH
        rfl
      rw [if_neg c1]
      by_cases c2 : (M 99 i &&& nI 31) = nI 2
      · rw [if_pos c2]
        refine z_br (i := i) (op_fault hI) (fun r hr => z_keep hr) (fun v M1 e1 e2 => ?_) IH
        rfl
      rw [if_neg c2]
      by_cases c3 : (M 99 i &&& nI 31) = nI 3
      · rw [if_pos c3]
        refine z_br (i := i) (op_lay hI) (fun r hr => z_keep hr) (fun v M1 e1 e2 => ?_) IH
        rfl
      rw [if_neg c3]
      by_cases c4 : (M 99 i &&& nI 31) = nI 4
      · rw [if_pos c4]
        refine z_br (i := i) (op_word hI _ _) (fun r hr => z_keep hr) (fun v M1 e1 e2 => ?_) IH
        simp only [e1, e2, hM, y_clamp (show L < 2 ^ 31 by omega), y_in2 (show i + 1 < L by omega) (show L < 2 ^ 31 by omega), y_in2 (show i + 2 < L by omega) (show L < 2 ^ 31 by omega)]
      rw [if_neg c4]
      by_cases c5 : (M 99 i &&& nI 31) = nI 5
      · rw [if_pos c5]
        refine z_br (i := i) (op_reader hI _ _) (fun r hr => z_keep hr) (fun v M1 e1 e2 => ?_) IH
        simp only [e1, e2, hM, y_clamp (show L < 2 ^ 31 by omega), y_in2 (show i + 1 < L by omega) (show L < 2 ^ 31 by omega), y_in2 (show i + 2 < L by omega) (show L < 2 ^ 31 by omega)]
      rw [if_neg c5]
      by_cases c6 : (M 99 i &&& nI 31) = nI 6
      · rw [if_pos c6]
        refine z_br (i := i) (op_notice hI _ _) (fun r hr => z_keep hr) (fun v M1 e1 e2 => ?_) IH
        simp only [e1, e2, hM, y_clamp (show L < 2 ^ 31 by omega), y_in2 (show i + 1 < L by omega) (show L < 2 ^ 31 by omega), y_in2 (show i + 2 < L by omega) (show L < 2 ^ 31 by omega)]
      rw [if_neg c6]
      by_cases c7 : (M 99 i &&& nI 31) = nI 7
      · rw [if_pos c7]
        refine z_br (i := i) (op_put hI _) (fun r hr => z_keep hr) (fun v M1 e1 e2 => ?_) IH
        simp only [e1, e2, hM, y_clamp (show L < 2 ^ 31 by omega), y_in2 (show i + 1 < L by omega) (show L < 2 ^ 31 by omega)]
      rw [if_neg c7]
      by_cases c8 : (M 99 i &&& nI 31) = nI 8
      · rw [if_pos c8]
        refine z_br (i := i) (op_take hI _) (fun r hr => z_keep hr) (fun v M1 e1 e2 => ?_) IH
        simp only [e1, e2, hM, y_clamp (show L < 2 ^ 31 by omega), y_in2 (show i + 1 < L by omega) (show L < 2 ^ 31 by omega)]
      rw [if_neg c8]
      by_cases c9 : (M 99 i &&& nI 31) = nI 9
      · rw [if_pos c9]
        refine z_br (i := i) (op_takeFor hI _ _) (fun r hr => z_keep hr) (fun v M1 e1 e2 => ?_) IH
        simp only [e1, e2, hM, y_clamp (show L < 2 ^ 31 by omega), y_in2 (show i + 1 < L by omega) (show L < 2 ^ 31 by omega), y_in2 (show i + 2 < L by omega) (show L < 2 ^ 31 by omega)]
      rw [if_neg c9]
      by_cases c10 : (M 99 i &&& nI 31) = nI 10
      · rw [if_pos c10]
        refine z_br (i := i) (op_undo hI) (fun r hr => z_keep hr) (fun v M1 e1 e2 => ?_) IH
        rfl
      rw [if_neg c10]
      by_cases c11 : (M 99 i &&& nI 31) = nI 11
      · rw [if_pos c11]
        refine z_br (i := i) (op_reads hI _ _) (fun r hr => z_keep hr) (fun v M1 e1 e2 => ?_) IH
        simp only [e1, e2, hM, y_clamp (show L < 2 ^ 31 by omega), y_in2 (show i + 1 < L by omega) (show L < 2 ^ 31 by omega), y_in2 (show i + 2 < L by omega) (show L < 2 ^ 31 by omega)]
      rw [if_neg c11]
      by_cases c12 : (M 99 i &&& nI 31) = nI 12
      · rw [if_pos c12]
        refine z_br (i := i) (op_answers hI _) (fun r hr => z_keep hr) (fun v M1 e1 e2 => ?_) IH
        simp only [e1, e2, hM, y_clamp (show L < 2 ^ 31 by omega), y_in2 (show i + 1 < L by omega) (show L < 2 ^ 31 by omega)]
      rw [if_neg c12]
      by_cases c13 : (M 99 i &&& nI 31) = nI 13
      · rw [if_pos c13]
        refine z_br (i := i) (op_price hI _) (fun r hr => z_keep hr) (fun v M1 e1 e2 => ?_) IH
        simp only [e1, e2, hM, y_clamp (show L < 2 ^ 31 by omega), y_in2 (show i + 1 < L by omega) (show L < 2 ^ 31 by omega)]
      rw [if_neg c13]
      by_cases c14 : (M 99 i &&& nI 31) = nI 14
      · rw [if_pos c14]
        refine z_br (i := i) (op_cheapest hI _ _) (fun r hr => z_keep hr) (fun v M1 e1 e2 => ?_) IH
        simp only [e1, e2, hM, y_clamp (show L < 2 ^ 31 by omega), y_in2 (show i + 1 < L by omega) (show L < 2 ^ 31 by omega), y_in2 (show i + 2 < L by omega) (show L < 2 ^ 31 by omega)]
      rw [if_neg c14]
      by_cases c15 : (M 99 i &&& nI 31) = nI 15
      · rw [if_pos c15]
        refine z_br (i := i) (op_twofold hI) (fun r hr => z_keep hr) (fun v M1 e1 e2 => ?_) IH
        rfl
      rw [if_neg c15]
      by_cases c16 : (M 99 i &&& nI 31) = nI 16
      · rw [if_pos c16]
        refine z_br (i := i) (op_matched hI _) (fun r hr => z_keep hr) (fun v M1 e1 e2 => ?_) IH
        simp only [e1, e2, hM, y_clamp (show L < 2 ^ 31 by omega), y_in2 (show i + 1 < L by omega) (show L < 2 ^ 31 by omega)]
      rw [if_neg c16]
      by_cases c17 : (M 99 i &&& nI 31) = nI 17
      · rw [if_pos c17]
        refine z_br (i := i) (op_near hI _) (fun r hr => z_keep hr) (fun v M1 e1 e2 => ?_) IH
        simp only [e1, e2, hM, y_clamp (show L < 2 ^ 31 by omega), y_in2 (show i + 1 < L by omega) (show L < 2 ^ 31 by omega)]
      rw [if_neg c17]
      by_cases c18 : (M 99 i &&& nI 31) = nI 18
      · rw [if_pos c18]
        refine z_br (i := i) (op_column hI _ _) (fun r hr => z_keep hr) (fun v M1 e1 e2 => ?_) IH
        simp only [e1, e2, hM, y_clamp (show L < 2 ^ 31 by omega), y_in2 (show i + 1 < L by omega) (show L < 2 ^ 31 by omega), y_in2 (show i + 2 < L by omega) (show L < 2 ^ 31 by omega)]
      rw [if_neg c18]
      by_cases c19 : (M 99 i &&& nI 31) = nI 19
      · rw [if_pos c19]
        refine z_br (i := i) (op_tell hI _ _ _) (fun r hr => z_keep hr) (fun v M1 e1 e2 => ?_) IH
        simp only [e1, e2, hM, y_clamp (show L < 2 ^ 31 by omega), y_in2 (show i + 1 < L by omega) (show L < 2 ^ 31 by omega), y_in2 (show i + 2 < L by omega) (show L < 2 ^ 31 by omega), y_in2 (show i + 3 < L by omega) (show L < 2 ^ 31 by omega)]
      rw [if_neg c19]
      by_cases c20 : (M 99 i &&& nI 31) = nI 20
      · rw [if_pos c20]
        refine z_br (i := i) (op_forget hI) (fun r hr => z_keep hr) (fun v M1 e1 e2 => ?_) IH
        rfl
      rw [if_neg c20]
      by_cases c21 : (M 99 i &&& nI 31) = nI 21
      · rw [if_pos c21]
        refine z_br (i := i) (op_taken hI _) (fun r hr => z_keep hr) (fun v M1 e1 e2 => ?_) IH
        simp only [e1, e2, hM, y_clamp (show L < 2 ^ 31 by omega), y_in2 (show i + 1 < L by omega) (show L < 2 ^ 31 by omega)]
      rw [if_neg c21]
      by_cases c22 : (M 99 i &&& nI 31) = nI 22
      · rw [if_pos c22]
        refine z_br (i := i) (op_speaks hI) (fun r hr => z_keep hr) (fun v M1 e1 e2 => ?_) IH
        rfl
      rw [if_neg c22]
      by_cases c23 : (M 99 i &&& nI 31) = nI 23
      · rw [if_pos c23]
        refine z_br (i := i) (op_odds hI _ _ _) (fun r hr => z_keep hr) (fun v M1 e1 e2 => ?_) IH
        simp only [e1, e2, hM, y_clamp (show L < 2 ^ 31 by omega), y_in2 (show i + 1 < L by omega) (show L < 2 ^ 31 by omega), y_in2 (show i + 2 < L by omega) (show L < 2 ^ 31 by omega), y_in2 (show i + 3 < L by omega) (show L < 2 ^ 31 by omega)]
      rw [if_neg c23]
      by_cases c24 : (M 99 i &&& nI 31) = nI 24
      · rw [if_pos c24]
        refine z_br (i := i) (op_run hI _ _ _) (fun r hr => z_keep hr) (fun v M1 e1 e2 => ?_) IH
        simp only [e1, e2, hM, y_clamp (show L < 2 ^ 31 by omega), y_in2 (show i + 1 < L by omega) (show L < 2 ^ 31 by omega), y_in2 (show i + 2 < L by omega) (show L < 2 ^ 31 by omega), y_in2 (show i + 3 < L by omega) (show L < 2 ^ 31 by omega)]
      rw [if_neg c24]
      by_cases c25 : (M 99 i &&& nI 31) = nI 25
      · rw [if_pos c25]
        refine z_br (i := i) (op_wanted hI) (fun r hr => z_keep hr) (fun v M1 e1 e2 => ?_) IH
        rfl
      rw [if_neg c25]
      by_cases c26 : (M 99 i &&& nI 31) = nI 26
      · rw [if_pos c26]
        refine z_br (i := i) (op_moods hI _) (fun r hr => z_keep hr) (fun v M1 e1 e2 => ?_) IH
        simp only [e1, e2, hM, y_clamp (show L < 2 ^ 31 by omega), y_in2 (show i + 1 < L by omega) (show L < 2 ^ 31 by omega)]
      rw [if_neg c26]
      by_cases c27 : (M 99 i &&& nI 31) = nI 27
      · rw [if_pos c27]
        refine z_br (i := i) (op_month hI _ _ _) (fun r hr => z_keep hr) (fun v M1 e1 e2 => ?_) IH
        simp only [e1, e2, hM, y_clamp (show L < 2 ^ 31 by omega), y_in2 (show i + 1 < L by omega) (show L < 2 ^ 31 by omega), y_in2 (show i + 2 < L by omega) (show L < 2 ^ 31 by omega), y_in2 (show i + 3 < L by omega) (show L < 2 ^ 31 by omega)]
      rw [if_neg c27]
      by_cases c28 : (M 99 i &&& nI 31) = nI 28
      · rw [if_pos c28]
        refine z_br (i := i) (op_keep hI) (fun r hr => z_keep hr) (fun v M1 e1 e2 => ?_) IH
        rfl
      rw [if_neg c28]
      by_cases c29 : (M 99 i &&& nI 31) = nI 29
      · rw [if_pos c29]
        refine z_br (i := i) (op_back hI) (fun r hr => z_keep hr) (fun v M1 e1 e2 => ?_) IH
        rfl
      rw [if_neg c29]
      by_cases c30 : (M 99 i &&& nI 31) = nI 30
      · rw [if_pos c30]
        refine z_br (i := i) (op_count hI _) (fun r hr => z_keep hr) (fun v M1 e1 e2 => ?_) IH
        simp only [e1, e2, hM, y_clamp (show L < 2 ^ 31 by omega), y_in2 (show i + 1 < L by omega) (show L < 2 ^ 31 by omega)]
      rw [if_neg c30]
      exact IH M hI rfl
