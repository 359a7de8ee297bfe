/-! shelves: what is pushed, what is given back -/
theorem y_set_at (M : xM) (a : Nat) (f : Nat → Int32) (b j : Nat) : x_set M a f b j = if b = a then f j else M b j := by
  by_cases h : b = a
  · subst h; rw [y_set_eq, if_pos rfl]
  · rw [y_set_ne h, if_neg h]
/-- a row of a shelf out of the state -/
theorem y_rC_of {M : xM} {f : Nat → Int32} {b w : Nat} {N : yN} (hw : w ≤ 8) (hN : N.1 ≤ 6) (h6 : ∀ j, j < w → M 6 j = nI (N.2.2 j)) (h9 : ∀ k, k < N.1 → M 9 k = nI (y_cd (N.2.1 k))) (h3 : M 3 8 = nI N.1) (hf : ∀ i, f i = if i = b + 14 then M 3 8 else if b + 8 ≤ i ∧ i < b + 14 then M 9 (i - (b + 8)) else if b ≤ i ∧ i < b + 8 then M 6 (i - b) else f i) : y_rC f b w N := by
  refine ⟨fun j hj => ?_, fun k hk => ?_, ?_⟩
  · rw [hf, if_neg (by omega), if_neg (by omega), if_pos (by omega), show b + j - b = j by omega, h6 j hj]
  · rw [hf, if_neg (by omega), if_pos (by omega), show b + 8 + k - (b + 8) = k by omega, h9 k hk]
  · rw [hf, if_pos rfl, h3]
theorem y_rC.move {f g : Nat → Int32} {b b' w : Nat} {N : yN} (h : y_rC f b w N) (hw : w ≤ 8) (hN : N.1 ≤ 6) (hg : ∀ i, i < 15 → g (b' + i) = f (b + i)) : y_rC g b' w N := by
  obtain ⟨r1, r2, r3⟩ := h
  refine ⟨fun j hj => ?_, fun k hk => ?_, ?_⟩
  · rw [hg j (by omega)]; exact r1 j hj
  · rw [Nat.add_assoc, hg (8 + k) (by omega), ← Nat.add_assoc]; exact r2 k hk
  · rw [hg 14 (by omega)]; exact r3
theorem y_rK.move {f g : Nat → Int32} {b b' w : Nat} {N : yN} (h : y_rK f b w N) (hw : w ≤ 8) (hN : N.1 ≤ 6) (hg : ∀ i, i < 15 → g (b' + i) = f (b + i)) : y_rK g b' w N := by
  obtain ⟨r1, r2, r3⟩ := h
  refine ⟨?_, fun k hk => ?_, fun j hj => ?_⟩
  · have := hg 0 (by omega)
    rw [Nat.add_zero, Nat.add_zero] at this
    rw [this]; exact r1
  · rw [Nat.add_assoc, hg (1 + k) (by omega), ← Nat.add_assoc]; exact r2 k hk
  · rw [Nat.add_assoc, hg (7 + j) (by omega), ← Nat.add_assoc]; exact r3 j hj
theorem s_push_c {M : xM} {c : Nat} (hc : c < 8) (h0 : M 17 0 = nI 8) (h2 : M 17 2 = nI c) : ∃ M', S_push_c_p M = some (nI 1, M') ∧ (∀ i, M' 18 i = if i = 15 * c + 14 then M 3 8 else if 15 * c + 8 ≤ i ∧ i < 15 * c + 14 then M 9 (i - (15 * c + 8)) else if 15 * c ≤ i ∧ i < 15 * c + 8 then M 6 (i - 15 * c) else M 18 i) ∧ M' 17 2 = nI (c + 1) ∧ M' 17 0 = nI 8 ∧ y_but [17, 18] M M' := by
  have hm : c * 15 = 15 * c := Nat.mul_comm _ _
  rw [S_push_c_p_eq, h0, h2, if_pos (by rw [y_lt (by omega) (by omega)]; exact hc)]
  simp only [y_mul, y_add, y_clamp (show c * 15 < 2 ^ 31 by omega), y_clamp (show c * 15 + 8 < 2 ^ 31 by omega), y_clamp (show c * 15 + 14 < 2 ^ 31 by omega)]
  rw [if_neg (by intro q; rcases q with q | q | q | q | q <;> first | exact y_nn (by omega) q | omega), if_neg (by intro q; rcases q with q | q | q | q | q <;> first | exact y_nn (by omega) q | omega), if_neg (by intro q; rcases q with q | q <;> first | exact y_nn (by omega) q | omega)]
  refine ⟨_, rfl, fun i => ?_, ?_, ?_, ?_⟩
  · simp only [y_up_at, y_set_at, va_cpy, hm]
    simp
  · simp only [y_up_at]; simp
  · simp only [y_up_at, y_set_at]; simp [h0]
  · exact (((y_but.rf.set (by simp)).set (by simp)).up (by simp)).up (by simp)
theorem s_pop_c {M : xM} {c : Nat} (hc : c < 8) (h2 : M 17 2 = nI (c + 1)) : ∃ M', S_popInto_c_p M = some (nI 1, M') ∧ (∀ j, j < 8 → M' 6 j = M 18 (15 * c + j)) ∧ (∀ j, j < 6 → M' 9 j = M 18 (15 * c + 8 + j)) ∧ M' 3 8 = M 18 (15 * c + 14) ∧ M' 3 6 = M 3 6 ∧ M' 3 7 = M 3 7 ∧ M' 17 2 = nI c ∧ M' 17 0 = M 17 0 ∧ y_but [3, 6, 9, 17] M M' := by
  have hm : c * 15 = 15 * c := Nat.mul_comm _ _
  rw [S_popInto_c_p_eq, h2, if_pos (by rw [y_lt (by omega) (by omega)]; omega)]
  simp only [y_sub (show 1 ≤ c + 1 by omega), show c + 1 - 1 = c by omega, y_mul, y_add, y_clamp (show c * 15 < 2 ^ 31 by omega), y_clamp (show c * 15 + 8 < 2 ^ 31 by omega), y_clamp (show c * 15 + 14 < 2 ^ 31 by omega)]
  rw [if_neg (by intro q; rcases q with q | q | q | q | q <;> first | exact y_nn (by omega) q | omega), if_neg (by intro q; rcases q with q | q | q | q | q <;> first | exact y_nn (by omega) q | omega), if_neg (by intro q; rcases q with q | q <;> first | exact y_nn (by omega) q | omega)]
  refine ⟨_, rfl, fun j hj => ?_, fun j hj => ?_, ?_, ?_, ?_, ?_, ?_, ?_⟩
  · simp only [y_up_at, y_set_at, va_cpy, hm]; simp; omega
  · simp only [y_up_at, y_set_at, va_cpy, hm]; simp; omega
  · simp only [y_up_at, y_set_at, va_cpy, hm]; simp
  · simp only [y_up_at, y_set_at]; simp
  · simp only [y_up_at, y_set_at]; simp
  · simp only [y_up_at, y_set_at]; simp
  · simp only [y_up_at, y_set_at]; simp
  · exact (((y_but.rf.up (by simp)).set (by simp)).set (by simp)).up (by simp)
theorem s_push_k {M : xM} {c : Nat} (hc : c < 2) (h0 : M 19 0 = nI 2) (h2 : M 19 2 = nI c) : ∃ M', S_push_k_p M = some (nI 1, M') ∧ (∀ i, M' 20 i = if i = 15 * c + 14 then M 3 8 else if 15 * c + 8 ≤ i ∧ i < 15 * c + 14 then M 9 (i - (15 * c + 8)) else if 15 * c ≤ i ∧ i < 15 * c + 8 then M 6 (i - 15 * c) else M 20 i) ∧ M' 19 2 = nI (c + 1) ∧ M' 19 0 = nI 2 ∧ y_but [19, 20] M M' := by
  have hm : c * 15 = 15 * c := Nat.mul_comm _ _
  rw [S_push_k_p_eq, h0, h2, if_pos (by rw [y_lt (by omega) (by omega)]; exact hc)]
  simp only [y_mul, y_add, y_clamp (show c * 15 < 2 ^ 31 by omega), y_clamp (show c * 15 + 8 < 2 ^ 31 by omega), y_clamp (show c * 15 + 14 < 2 ^ 31 by omega)]
  rw [if_neg (by intro q; rcases q with q | q | q | q | q <;> first | exact y_nn (by omega) q | omega), if_neg (by intro q; rcases q with q | q | q | q | q <;> first | exact y_nn (by omega) q | omega), if_neg (by intro q; rcases q with q | q <;> first | exact y_nn (by omega) q | omega)]
  refine ⟨_, rfl, fun i => ?_, ?_, ?_, ?_⟩
  · simp only [y_up_at, y_set_at, va_cpy, hm]
    simp
  · simp only [y_up_at]; simp
  · simp only [y_up_at, y_set_at]; simp [h0]
  · exact (((y_but.rf.set (by simp)).set (by simp)).up (by simp)).up (by simp)
theorem s_pop_k {M : xM} {c : Nat} (hc : c < 2) (h2 : M 19 2 = nI (c + 1)) : ∃ M', S_popInto_k_p M = some (nI 1, M') ∧ (∀ j, j < 8 → M' 6 j = M 20 (15 * c + j)) ∧ (∀ j, j < 6 → M' 9 j = M 20 (15 * c + 8 + j)) ∧ M' 3 8 = M 20 (15 * c + 14) ∧ M' 3 6 = M 3 6 ∧ M' 3 7 = M 3 7 ∧ M' 19 2 = nI c ∧ M' 19 0 = M 19 0 ∧ y_but [3, 6, 9, 19] M M' := by
  have hm : c * 15 = 15 * c := Nat.mul_comm _ _
  rw [S_popInto_k_p_eq, h2, if_pos (by rw [y_lt (by omega) (by omega)]; omega)]
  simp only [y_sub (show 1 ≤ c + 1 by omega), show c + 1 - 1 = c by omega, y_mul, y_add, y_clamp (show c * 15 < 2 ^ 31 by omega), y_clamp (show c * 15 + 8 < 2 ^ 31 by omega), y_clamp (show c * 15 + 14 < 2 ^ 31 by omega)]
  rw [if_neg (by intro q; rcases q with q | q | q | q | q <;> first | exact y_nn (by omega) q | omega), if_neg (by intro q; rcases q with q | q | q | q | q <;> first | exact y_nn (by omega) q | omega), if_neg (by intro q; rcases q with q | q <;> first | exact y_nn (by omega) q | omega)]
  refine ⟨_, rfl, fun j hj => ?_, fun j hj => ?_, ?_, ?_, ?_, ?_, ?_, ?_⟩
  · simp only [y_up_at, y_set_at, va_cpy, hm]; simp; omega
  · simp only [y_up_at, y_set_at, va_cpy, hm]; simp; omega
  · simp only [y_up_at, y_set_at, va_cpy, hm]; simp
  · simp only [y_up_at, y_set_at]; simp
  · simp only [y_up_at, y_set_at]; simp
  · simp only [y_up_at, y_set_at]; simp
  · simp only [y_up_at, y_set_at]; simp
  · exact (((y_but.rf.up (by simp)).set (by simp)).set (by simp)).up (by simp)
/-- the stack of what can be undone, with one more -/
def y_psh (c : Nat) (st : Nat → yN) (N : yN) : Nat × (Nat → yN) := if c = 8 then (8, fun t => if t = 7 then N else st (t + 1)) else (c + 1, fun t => if t = c then N else st t)
theorem k_50 : ∀ (n i : Nat) (M : xM) (c : Nat), i + n = 15 → c < 8 → M 40 7 = nI c → ∃ M', K_keeps_50 (nI i) M = some (nI 0, M') ∧ (∀ q, M' 46 q = if 15 * c + i ≤ q ∧ q < 15 * c + 15 then M 45 (q - 15 * c) else M 46 q) ∧ M' 40 7 = nI (c + 1) ∧ (∀ j, j ≠ 7 → M' 40 j = M 40 j) ∧ y_but [40, 46] M M'
  | 0, i, M, c, h, hc, h7 => by
    rw [K_keeps_50_eq, if_pos (by rw [y_le (by omega) (by omega)]; omega), h7, y_add]
    refine ⟨_, rfl, fun q => ?_, ?_, fun j hj => ?_, y_but.rf.up (by simp)⟩
    · rw [if_neg (by omega)]; rfl
    · simp only [y_up_at]; simp
    · simp only [y_up_at]; simp [hj]
  | n + 1, i, M, c, h, hc, h7 => by
    rw [K_keeps_50_eq, if_neg (by rw [y_le (by omega) (by omega)]; omega), y_in (show i < 15 by omega) (by decide), h7, y_mul, y_add, y_in (show 15 * c + i < 120 by omega) (by decide), y_add, y_clamp (by omega), y_clamp (by omega)]
    obtain ⟨M', a1, a2, a3, a4, a5⟩ := k_50 n (i + 1) (x_up M 46 (15 * c + i) (M 45 i)) c (by omega) hc h7
    refine ⟨M', a1, fun q => ?_, a3, fun j hj => by rw [a4 j hj]; rfl, (y_but.rf.up (by simp)).tr a5⟩
    rw [a2]
    simp only [y_up_at]
    simp
    by_cases e : q = 15 * c + i
    · rw [if_neg (by omega), if_pos e, if_pos (by omega), e, show 15 * c + i - 15 * c = i by omega]
    · by_cases e2 : 15 * c + (i + 1) ≤ q ∧ q < 15 * c + 15
      · rw [if_pos e2, if_pos (by omega)]
      · rw [if_neg e2, if_neg e, if_neg (by omega)]
theorem k_11 : ∀ (n i : Nat) (M : xM), i + n = 105 → M 40 7 = nI 8 → ∃ M1, K_keeps_11 (nI i) M = K_keeps_50 (nI 0) M1 ∧ (∀ q, M1 46 q = if i ≤ q ∧ q < 105 then M 46 (q + 15) else M 46 q) ∧ M1 40 7 = nI 7 ∧ (∀ j, j ≠ 7 → M1 40 j = M 40 j) ∧ y_but [40, 46] M M1
  | 0, i, M, h, h7 => by
    rw [K_keeps_11_eq, if_pos (by rw [y_le (by omega) (by omega)]; omega), h7, y_sub (by decide)]
    refine ⟨_, rfl, fun q => ?_, ?_, fun j hj => ?_, y_but.rf.up (by simp)⟩
    · rw [if_neg (by omega)]; rfl
    · simp only [y_up_at]; simp
    · simp only [y_up_at]; simp [hj]
  | n + 1, i, M, h, h7 => by
    rw [K_keeps_11_eq, if_neg (by rw [y_le (by omega) (by omega)]; omega), y_add, y_in (show i + 15 < 120 by omega) (by decide), y_in (show i < 120 by omega) (by decide), y_add, y_clamp (by omega), y_clamp (by omega)]
    obtain ⟨M1, a1, a2, a3, a4, a5⟩ := k_11 n (i + 1) (x_up M 46 i (M 46 (i + 15))) (by omega) h7
    refine ⟨M1, a1, fun q => ?_, a3, fun j hj => by rw [a4 j hj]; rfl, (y_but.rf.up (by simp)).tr a5⟩
    rw [a2]
    simp only [y_up_at]
    simp
    by_cases e : q = i
    · rw [if_neg (by omega), if_pos e, if_pos (by omega), e]
    · by_cases e2 : i + 1 ≤ q ∧ q < 105
      · rw [if_pos e2, if_neg (show ¬ q + 15 = i by omega), if_pos (show i ≤ q ∧ q < 105 by omega)]
      · rw [if_neg e2, if_neg e, if_neg (by omega)]
/-- what the class pushes -/
theorem c_pushF {M : xM} {w c : Nat} {st : Nat → yN} {N : yN} (hw : w ≤ 8) (hN : y_Nok w N) (h6 : ∀ j, j < w → M 6 j = nI (N.2.2 j)) (h9 : ∀ k, k < N.1 → M 9 k = nI (y_cd (N.2.1 k))) (h3 : M 3 8 = nI N.1) (hc : c ≤ 8) (h0 : M 17 0 = nI 8) (h2 : M 17 2 = nI c) (hr : ∀ t, t < c → y_Nok w (st t) ∧ y_rC (M 18) (15 * t) w (st t)) :
    ∃ M', S_pushForgetful_c_p M = some (nI 0, M') ∧ M' 17 0 = nI 8 ∧ M' 17 2 = nI (y_psh c st N).1 ∧ (∀ t, t < (y_psh c st N).1 → y_rC (M' 18) (15 * t) w ((y_psh c st N).2 t)) ∧ y_but [17, 18] M M' := by
  by_cases h8 : c = 8
  · subst h8
    rw [S_pushForgetful_c_p_eq, h0, h2, if_neg (by decide)]
    simp only [y_sub (show 1 ≤ 8 by decide), y_mul, y_clamp (show (8 - 1) * 15 < 2 ^ 31 by decide)]
    rw [if_neg (by decide)]
    obtain ⟨M', a1, a2, a3, a4, a5⟩ := s_push_c (M := x_up (x_set M 18 (va_cpy (M 18) (M 18) 15 0 ((8 - 1) * 15))) 17 2 (nI (8 - 1))) (c := 7) (by omega) (by simp only [y_up_at, y_set_at]; simp [h0]) (by simp only [y_up_at]; simp)
    rw [a1, Option.bind_some]
    have hps : y_psh 8 st N = (8, fun t => if t = 7 then N else st (t + 1)) := if_pos rfl
    refine ⟨M', rfl, a4, by rw [a3, hps], fun t ht => ?_, ((y_but.rf.set (by simp)).up (by simp)).tr a5⟩
    rw [hps] at ht ⊢
    have ht : t < 8 := ht
    show y_rC (M' 18) (15 * t) w (if t = 7 then N else st (t + 1))
    by_cases h7 : t = 7
    · subst h7
      rw [if_pos rfl]
      refine y_rC_of (M := M) hw hN.1 h6 h9 h3 (fun i => ?_)
      have := a2 i
      simp only [y_up_at, y_set_at] at this
      simp at this
      rw [this]
      by_cases b1 : i = 15 * 7 + 14
      · simp [b1]
      · by_cases b2 : 15 * 7 + 8 ≤ i ∧ i < 15 * 7 + 14
        · simp [b1, b2]
        · by_cases b3 : 15 * 7 ≤ i ∧ i < 15 * 7 + 8
          · simp [b1, b2, b3]
          · simp [b1, b2, b3]
    · rw [if_neg h7]
      obtain ⟨q1, q2⟩ := hr (t + 1) (by omega)
      have key : ∀ i, i < 15 → M' 18 (15 * t + i) = M 18 (15 * (t + 1) + i) := by
        intro i hi
        rw [a2, if_neg (by omega), if_neg (by omega), if_neg (by omega)]
        simp only [y_up_at, y_set_at, va_cpy]
        simp
        rw [if_pos (by omega), show 15 + (15 * t + i) = 15 * (t + 1) + i by omega]
      exact q2.move hw q1.1 key
  · have hps : y_psh c st N = (c + 1, fun t => if t = c then N else st t) := if_neg h8
    rw [S_pushForgetful_c_p_eq, h0, h2, if_pos (by rw [y_lt (by omega) (by omega)]; omega)]
    obtain ⟨M', a1, a2, a3, a4, a5⟩ := s_push_c (M := M) (c := c) (by omega) h0 h2
    rw [a1, Option.bind_some]
    refine ⟨M', rfl, a4, by rw [a3, hps], fun t ht => ?_, a5⟩
    rw [hps] at ht ⊢
    have ht : t < c + 1 := ht
    show y_rC (M' 18) (15 * t) w (if t = c then N else st t)
    by_cases h7 : t = c
    · subst h7
      rw [if_pos rfl]
      refine y_rC_of (M := M) hw hN.1 h6 h9 h3 (fun i => ?_)
      rw [a2]
      by_cases b1 : i = 15 * t + 14
      · simp [b1]
      · by_cases b2 : 15 * t + 8 ≤ i ∧ i < 15 * t + 14
        · simp [b1, b2]
        · by_cases b3 : 15 * t ≤ i ∧ i < 15 * t + 8
          · simp [b1, b2, b3]
          · simp [b1, b2, b3]
    · rw [if_neg h7]
      obtain ⟨q1, q2⟩ := hr t (by omega)
      exact q2.move hw q1.1 (fun i hi => by rw [a2, if_neg (by omega), if_neg (by omega), if_neg (by omega)])
theorem y_psh_ok {w c : Nat} {st : Nat → yN} {N : yN} (hN : y_Nok w N) (hc : c ≤ 8) (hr : ∀ t, t < c → y_Nok w (st t)) : (y_psh c st N).1 ≤ 8 ∧ ∀ t, t < (y_psh c st N).1 → y_Nok w ((y_psh c st N).2 t) := by
  by_cases h8 : c = 8
  · subst h8
    rw [show y_psh 8 st N = (8, fun t => if t = 7 then N else st (t + 1)) from if_pos rfl]
    refine ⟨Nat.le_refl 8, fun t ht => ?_⟩
    have ht : t < 8 := ht
    show y_Nok w (if t = 7 then N else st (t + 1))
    split
    · exact hN
    · exact hr _ (by omega)
  · rw [show y_psh c st N = (c + 1, fun t => if t = c then N else st t) from if_neg h8]
    refine ⟨by show c + 1 ≤ 8; omega, fun t ht => ?_⟩
    have ht : t < c + 1 := ht
    show y_Nok w (if t = c then N else st t)
    split
    · exact hN
    · exact hr _ (by omega)
/-- what the reference keeps for undo -/
theorem k_keeps {M : xM} {w c : Nat} {st : Nat → yN} {N : yN} (hw : w ≤ 8) (hN : y_Nok w N) (hn : y_rK (M 45) 0 w N) (hc : c ≤ 8) (h7 : M 40 7 = nI c) (hr : ∀ t, t < c → y_Nok w (st t) ∧ y_rK (M 46) (15 * t) w (st t)) :
    ∃ M', K_keeps M = some (nI 0, M') ∧ M' 40 7 = nI (y_psh c st N).1 ∧ (∀ j, j ≠ 7 → M' 40 j = M 40 j) ∧ (∀ t, t < (y_psh c st N).1 → y_rK (M' 46) (15 * t) w ((y_psh c st N).2 t)) ∧ y_but [40, 46] M M' := by
  by_cases h8 : c = 8
  · subst h8
    rw [K_keeps_eq, if_pos h7]
    obtain ⟨M1, b1, b2, b3, b4, b5⟩ := k_11 105 0 M (by omega) h7
    rw [b1]
    obtain ⟨M', a1, a2, a3, a4, a5⟩ := k_50 15 0 M1 7 (by omega) (by omega) b3
    have hps : y_psh 8 st N = (8, fun t => if t = 7 then N else st (t + 1)) := if_pos rfl
    refine ⟨M', a1, by rw [a3, hps], fun j hj => by rw [a4 j hj, b4 j hj], fun t ht => ?_, b5.tr a5⟩
    rw [hps] at ht ⊢
    have ht : t < 8 := ht
    show y_rK (M' 46) (15 * t) w (if t = 7 then N else st (t + 1))
    by_cases ht7 : t = 7
    · subst ht7
      rw [if_pos rfl]
      refine hn.move hw hN.1 (fun i hi => ?_)
      rw [a2, if_pos (by omega), b5 45 (by simp), Nat.zero_add, show 15 * 7 + i - 15 * 7 = i by omega]
    · rw [if_neg ht7]
      obtain ⟨q1, q2⟩ := hr (t + 1) (by omega)
      refine q2.move hw q1.1 (fun i hi => ?_)
      rw [a2, if_neg (by omega), b2, if_pos (by omega), show 15 * t + i + 15 = 15 * (t + 1) + i by omega]
  · rw [K_keeps_eq, if_neg (by rw [h7, y_eq (by omega) (by omega)]; exact h8)]
    obtain ⟨M', a1, a2, a3, a4, a5⟩ := k_50 15 0 M c (by omega) (by omega) h7
    have hps : y_psh c st N = (c + 1, fun t => if t = c then N else st t) := if_neg h8
    refine ⟨M', a1, by rw [a3, hps], a4, fun t ht => ?_, a5⟩
    rw [hps] at ht ⊢
    have ht : t < c + 1 := ht
    show y_rK (M' 46) (15 * t) w (if t = c then N else st t)
    by_cases htc : t = c
    · subst htc
      rw [if_pos rfl]
      refine hn.move hw hN.1 (fun i hi => ?_)
      rw [a2, if_pos (by omega), Nat.zero_add, show 15 * t + i - 15 * t = i by omega]
    · rw [if_neg htc]
      obtain ⟨q1, q2⟩ := hr t (by omega)
      exact q2.move hw q1.1 (fun i hi => by rw [a2, if_neg (by omega)])
