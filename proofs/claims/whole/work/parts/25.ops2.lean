/-! parts of the state that stay; wipe, write, forget, tell, wanted, notice, twofold -/
theorem y_txt.keep {M M' : xM} {n : Nat} {tx : Nat → Nat} (h : y_txt M n tx) (h1 : M' 1 = M 1) (h2 : M' 2 = M 2) (h3 : M' 41 = M 41) (h4 : M' 40 1 = M 40 1) : y_txt M' n tx := by
  unfold y_txt at h ⊢; rw [h1, h2, h3, h4]; exact h
theorem y_chg.keep {M M' : xM} {w c : Nat} {st : Nat → yN} (h : y_chg M w c st) (h1 : M' 17 = M 17) (h2 : M' 18 = M 18) (h3 : M' 46 = M 46) (h4 : M' 40 7 = M 40 7) : y_chg M' w c st := by
  unfold y_chg at h ⊢; rw [h1, h2, h3, h4]; exact h
theorem y_kep.keep {M M' : xM} {w c : Nat} {st : Nat → yN} (h : y_kep M w c st) (h1 : M' 19 = M 19) (h2 : M' 20 = M 20) (h3 : M' 47 = M 47) (h4 : M' 40 9 = M 40 9) : y_kep M' w c st := by
  unfold y_kep at h ⊢; rw [h1, h2, h3, h4]; exact h
theorem y_tol.keep {M M' : xM} {w r c : Nat} {th : Nat → Nat × List Nat × Nat} (h : y_tol M w r c th) (h1 : M' 21 = M 21) (h2 : M' 22 = M 22) (h3 : M' 23 = M 23) (h4 : M' 24 = M 24) (h5 : M' 48 = M 48) (h6 : M' 40 11 = M 40 11) : y_tol M' w r c th := by
  unfold y_tol at h ⊢; rw [h1, h2, h3, h4, h5, h6]; exact h
theorem y_now.keep {M M' : xM} {w : Nat} {N : yN} (h : y_now M w N) (h1 : M' 3 8 = M 3 8) (h2 : M' 9 = M 9) (h3 : M' 45 = M 45) : y_now M' w N := by
  unfold y_now at h ⊢; rw [h1, h2, h3]; exact h
theorem y_pap.keep {M M' : xM} {w : Nat} {pr me ta : Nat → Nat} {r : Nat} {ki wa : Nat → Nat} (h : y_pap M w pr me ta r ki wa) (h1 : M' 3 6 = M 3 6) (h2 : M' 3 7 = M 3 7) (h3 : M' 4 = M 4) (h4 : M' 5 = M 5) (h5 : M' 6 = M 6) (h6 : M' 7 = M 7) (h7 : M' 8 = M 8) (h8 : M' 42 = M 42) (h9 : M' 45 = M 45) : y_pap M' w pr me ta r ki wa := by
  unfold y_pap y_CWp y_CRp y_KW y_KR at h ⊢; rw [h1, h2, h3, h4, h5, h6, h7, h8, h9]; exact h
theorem op_wipe {M : xM} (h : y_Inv M) : y_op C_wipe K_wipe M := by
  obtain ⟨w, pr, me, r, ki, wa, N, nt, tx, nc, ch, nk, kp, nh, th, ⟨hp, hN, hn, ht, hc, hk, hh⟩⟩ := h
  refine ⟨nI nt, x_up M 1 1 (nI 0), x_up (x_up M 1 1 (nI 0)) 40 1 (nI 0), ?_, ?_, ⟨w, pr, me, r, ki, wa, N, 0, tx, nc, ch, nk, kp, nh, th, ⟨?_, hN, ?_, ?_, ?_, ?_, ?_⟩⟩, ?_, ?_⟩
  · rw [C_wipe_eq, T_clear_t_eq, Option.bind_some, ht.2.1]
  · rw [K_wipe_eq]
    simp only [y_up_at]
    simp [ht.2.2.1]
  · exact hp.keep rfl rfl rfl rfl rfl rfl rfl rfl rfl
  · exact hn.keep rfl rfl rfl
  · refine ⟨by omega, ?_, ?_, fun j hj => absurd hj (by omega)⟩ <;> simp only [y_up_at] <;> rfl
  · exact hc.keep rfl rfl rfl (by simp only [y_up_at]; rfl)
  · exact hk.keep rfl rfl rfl (by simp only [y_up_at]; rfl)
  · exact hh.keep rfl rfl rfl rfl rfl (by simp only [y_up_at]; rfl)
  · rfl
  · rfl
theorem op_forget {M : xM} (h : y_Inv M) : y_op C_forget K_forget M := by
  obtain ⟨w, pr, me, r, ki, wa, N, nt, tx, nc, ch, nk, kp, nh, th, ⟨hp, hN, hn, ht, hc, hk, hh⟩⟩ := h
  refine ⟨nI nh, x_up M 21 3 (nI 0), x_up (x_up M 21 3 (nI 0)) 40 11 (nI 0), ?_, ?_, ⟨w, pr, me, r, ki, wa, N, nt, tx, nc, ch, nk, kp, 0, th, ⟨?_, hN, ?_, ?_, ?_, ?_, ?_⟩⟩, ?_, ?_⟩
  · rw [C_forget_eq, H_clear_h_eq, Option.bind_some, hh.2.1]
  · rw [K_forget_eq]
    simp only [y_up_at]
    simp [hh.2.2.1]
  · exact hp.keep rfl rfl rfl rfl rfl rfl rfl rfl rfl
  · exact hn.keep rfl rfl rfl
  · exact ht.keep rfl rfl rfl (by simp only [y_up_at]; rfl)
  · exact hc.keep rfl rfl rfl (by simp only [y_up_at]; rfl)
  · exact hk.keep rfl rfl rfl (by simp only [y_up_at]; rfl)
  · refine ⟨by omega, ?_, ?_, fun j hj => absurd hj (by omega)⟩ <;> simp only [y_up_at] <;> rfl
  · rfl
  · rfl
theorem y_char : ∀ n, n < 127 → vp_nar .char (((nI n).toUInt32 % 65536).toInt32) = nI n := by decide +kernel
theorem op_write {M : xM} (h : y_Inv M) (x : Int32) : y_op (C_write x) (K_write x) M := by
  obtain ⟨w, pr, me, r, ki, wa, N, nt, tx, nc, ch, nk, kp, nh, th, ⟨hp, hN, hn, ht, hc, hk, hh⟩⟩ := id h
  obtain ⟨ht1, ht2, ht3, ht4⟩ := ht
  have hC := C_write_eq x M
  have hK := K_write_eq x M
  rw [C_isWithin_eq] at hC
  rw [K_in_eq] at hK
  by_cases hx : x < nI 32
  · rw [if_pos hx] at hC hK
    exact y_op.same h hC hK
  · by_cases hx2 : nI 126 < x
    · rw [if_neg hx, if_pos hx2] at hC hK
      exact y_op.same h hC hK
    · rw [if_neg hx, if_neg hx2] at hC hK
      have hv : ∃ v, 32 ≤ v ∧ v ≤ 126 ∧ x = nI v := by
        rcases y_cases x with hneg | ⟨v, hv, rfl⟩
        · exact absurd (y_neg_lt hneg (by omega)) hx
        · rw [y_lt hv (by omega)] at hx
          rw [y_lt (by omega) hv] at hx2
          exact ⟨v, by omega, by omega, rfl⟩
      obtain ⟨v, hv1, hv2, rfl⟩ := hv
      rw [Option.bind_some, if_neg (show ¬ nI 1 = nI 0 by decide), T_append_t_eq] at hC
      rw [Option.bind_some, if_neg (show ¬ nI 1 = nI 0 by decide)] at hK
      simp only [ht2] at hC
      by_cases hn200 : nt = 200
      · subst hn200
        rw [if_neg (show ¬ nI 200 < nI 200 by decide), Option.bind_some, if_pos (show nI 0 = nI 0 from rfl)] at hC
        rw [if_pos ht3] at hK
        exact y_op.same h hC hK
      · simp only [y_lt (show nt < 2 ^ 31 by omega) (show 200 < 2 ^ 31 by decide)] at hC
        rw [if_pos (show nt < 200 by omega), y_in (show nt < 200 by omega) (by decide), Option.bind_some, if_neg (show ¬ nI 1 = nI 0 by decide), y_char v (by omega), y_add, y_clamp (by omega)] at hC
        have hK := K_write_eq (nI v) (x_up (x_up M 2 nt (nI v)) 1 1 (nI (nt + 1)))
        have e40 : (x_up (x_up M 2 nt (nI v)) 1 1 (nI (nt + 1))) 40 1 = nI nt := ht3
        rw [K_in_eq, if_neg hx, if_neg hx2, Option.bind_some, if_neg (show ¬ nI 1 = nI 0 by decide)] at hK
        simp only [e40] at hK
        rw [if_neg (by rw [y_eq (by omega) (by omega)]; exact hn200), y_in (show nt < 200 by omega) (by decide), y_add, y_clamp (by omega)] at hK
        refine ⟨nI (nt + 1), _, _, ?_, hK, ⟨w, pr, me, r, ki, wa, N, nt + 1, fun j => if j = nt then v else tx j, nc, ch, nk, kp, nh, th, ⟨?_, hN, ?_, ?_, ?_, ?_, ?_⟩⟩, ?_, ?_⟩
        · rw [hC]
          simp only [y_up_at]
          rfl
        · exact hp.keep rfl rfl rfl rfl rfl rfl rfl rfl rfl
        · exact hn.keep rfl rfl rfl
        · refine ⟨by omega, by simp only [y_up_at]; rfl, by simp only [y_up_at]; rfl, fun j hj => ?_⟩
          simp only [y_up_at]
          by_cases hjn : j = nt
          · subst hjn
            simp
            exact ⟨hv1, hv2⟩
          · have := ht4 j (by omega)
            simp [hjn]
            exact this
        · exact hc.keep rfl rfl rfl (by simp only [y_up_at]; rfl)
        · exact hk.keep rfl rfl rfl (by simp only [y_up_at]; rfl)
        · exact hh.keep rfl rfl rfl rfl rfl (by simp only [y_up_at]; rfl)
        · rfl
        · rfl
