/-! fault, lay -/
section
variable {nt : Nat} {tx : Nat → Nat}
theorem y_lv_48 {M : xM} (hT : y_txK M nt tx) {p : Nat} (h : y_fg nt tx p < 10) : y_lv nt tx p = nI (y_fg nt tx p + 48) := by
  unfold y_fg y_ch at h ⊢
  unfold y_lv
  by_cases e : p < nt
  · simp only [if_pos e] at h ⊢
    by_cases q : 48 ≤ tx p ∧ tx p ≤ 57
    · rw [if_pos q]
      congr 1
      omega
    · rw [if_neg q] at h
      omega
  · simp only [if_neg e] at h
    rw [if_neg (by omega)] at h
    omega
theorem k_n4 {M0 : xM} {D : yD} (hD : y_Dok D) (o : Option Int32) : ∀ (f p : Nat) (ds : List Nat) (M : xM), ds.length + f = 5 → (∀ d ∈ ds, d < D.1.1) → p + f < 1500 → y_txK M nt tx → y_DK M D → M 40 12 = nI p → y_kk M0 M → y_iK M0 (K_readsNotice_4 (nI (y_cd ds)) (nI ds.length) o M) (if (y_sc nt tx D.1.1 f p ds).1.length ≠ 0 ∧ y_ch nt tx (y_sc nt tx D.1.1 f p ds).2 = 59 ∧ D.2.2.1 < 6 then some ((y_sc nt tx D.1.1 f p ds).2 + 1, y_an D (y_sc nt tx D.1.1 f p ds).1) else none)
  | 0, p, ds, M, hn, hds, hp, hT, hK, ha, h0 => by
    rw [K_readsNotice_4_eq, if_pos (by rw [y_le (by omega) (by omega)]; omega)]
    exact k_nend (e := p) hT hD hK hds (by omega) (by omega) ha h0
  | f + 1, p, ds, M, hn, hds, hp, hT, hK, ha, h0 => by
    have d1 := hD.1
    rw [K_readsNotice_4_eq, if_neg (by rw [y_le (by omega) (by omega)]; omega), ha, k_let hT (by omega), Option.bind_some]
    simp only [hK.1, k_fw hT d1, Option.bind_some, y_p0, ha, k_let hT (show p < 2 ^ 30 by omega)]
    by_cases e : y_fg nt tx p < D.1.1
    · rw [show y_sc nt tx D.1.1 (f + 1) p ds = y_sc nt tx D.1.1 f (p + 1) (ds ++ [y_fg nt tx p]) by rw [y_sc_s, if_pos e]]
      rw [if_pos e, y_lv_48 hT (by omega)]
      have hcd := y_cd_snoc ds (y_fg nt tx p)
      simp only [y_mul, y_add, y_sub (show 48 ≤ 10 * y_cd ds + (y_fg nt tx p + 48) by omega)]
      rw [show 10 * y_cd ds + (y_fg nt tx p + 48) - 48 + 1 = y_cd (ds ++ [y_fg nt tx p]) by omega]
      have hl : (ds ++ [y_fg nt tx p]).length = ds.length + 1 := by simp
      have ih := k_n4 (M0 := M0) hD o f (p + 1) (ds ++ [y_fg nt tx p]) (x_up M 40 12 (nI (p + 1))) (by omega) (y_snoc_lt hds e) (by omega) (hT.keep (y_kk.at _)) (hK.at _) y_up_eq (h0.tr (y_kk.at _))
      rw [hl] at ih
      exact ih
    · rw [show y_sc nt tx D.1.1 (f + 1) p ds = (ds, p) by rw [y_sc_s, if_neg e]]
      rw [if_neg e]
      have h := k_nend hT hD hK hds (show ds.length ≤ 5 by omega) (show p < 2000 by omega) ha h0
      rw [ha, k_let hT (show p < 2 ^ 30 by omega)] at h
      simp only [Option.bind_some, ha] at h
      exact h
theorem k_item {M : xM} (hT : y_txK M nt tx) {D : yD} (hD : y_Dok D) (hK : y_DK M D) {p : Nat} (hp : p < nt) (ha : M 40 12 = nI (p + 1)) : y_iK M (K_readsItem (nI (tx p)) M) (y_it nt tx D p) := by
  have h200 := hT.1
  have hch : y_ch nt tx p = tx p := by unfold y_ch; rw [if_pos hp]
  have hb := (hT.2.2 p hp).2
  by_cases e1 : tx p = 119
  · rw [e1]
    exact k_word hT hD hK (by omega) (by omega) ha
  · by_cases e2 : tx p = 114
    · rw [e2]
      exact k_reader hT hD hK (by omega) (by omega) ha
    · by_cases e3 : tx p = 110
      · rw [e3, K_readsItem_eq, if_pos rfl, K_readsNotice_eq]
        obtain ⟨M', a1, a2, a3⟩ := k_n4 (M0 := M) hD none 5 (p + 1) [] M rfl (fun d hd => by cases hd) (by omega) hT hK ha y_kk.rf
        rw [show y_it nt tx D p = if (y_sc nt tx D.1.1 5 (p + 1) []).1.length ≠ 0 ∧ y_ch nt tx (y_sc nt tx D.1.1 5 (p + 1) []).2 = 59 ∧ D.2.2.1 < 6 then some ((y_sc nt tx D.1.1 5 (p + 1) []).2 + 1, y_an D (y_sc nt tx D.1.1 5 (p + 1) []).1) else none by unfold y_it; rw [if_neg (by omega), if_neg (by omega), if_pos (by omega)]]
        refine ⟨M', ?_, a2, a3⟩
        have a1' : K_readsNotice_4 (nI 0) (nI 0) none M = _ := a1
        rw [a1', Option.bind_some]
        split
        · exact if_pos (Or.inl rfl)
        · exact if_pos (Or.inr rfl)
      · rw [K_readsItem_eq, if_neg (by rw [y_eq (by omega) (by omega)]; exact e3), if_neg (by rw [y_eq (by omega) (by omega)]; exact e2), if_neg (by rw [y_eq (by omega) (by omega)]; exact e1)]
        refine y_iK.no rfl ?_ y_kk.rf
        unfold y_it
        rw [if_neg (by omega), if_neg (by omega), if_neg (by omega)]
theorem k_ra9 : ∀ (n p : Nat) (D : yD) (o : Option Int32) (M : xM), nt ≤ p + n → p ≤ nt + 8 → y_txK M nt tx → y_Dok D → y_DK M D → M 40 12 = nI p → ∃ M', K_readsAll_9 o M = some (match (y_pa nt tx n p D).1 with
    | none => -4
    | some q => nI q, M') ∧ ((y_pa nt tx n p D).1 = none → y_DK M' (y_pa nt tx n p D).2) ∧ y_kk M M'
  | 0, p, D, o, M, h, hp, hT, hD, hK, ha => by
    have h200 := hT.1
    refine ⟨M, ?_, fun _ => hK, y_kk.rf⟩
    rw [K_readsAll_9_eq, hT.2.1, ha, if_pos (by rw [y_le (by omega) (by omega)]; omega)]
    rfl
  | n + 1, p, D, o, M, h, hp, hT, hD, hK, ha => by
    have h200 := hT.1
    by_cases e : nt ≤ p
    · rw [show y_pa nt tx (n + 1) p D = (none, D) by rw [y_pa_s, if_pos e]]
      refine ⟨M, ?_, fun _ => hK, y_kk.rf⟩
      rw [K_readsAll_9_eq, hT.2.1, ha, if_pos (by rw [y_le (by omega) (by omega)]; omega)]
    · have kk := y_kk.at (M := M) (nI (p + 1))
      obtain ⟨M1, a1, a2, a3⟩ := k_item (hT.keep kk) hD (hK.at (nI (p + 1))) (show p < nt by omega) y_up_eq
      rw [K_readsAll_9_eq, hT.2.1, ha, if_neg (by rw [y_le (by omega) (by omega)]; omega), y_in (show p < 200 by omega) (by decide), y_clamp (by omega), (hT.2.2 p (by omega)).1, y_add, a1, Option.bind_some]
      cases hi2 : y_it nt tx D p with
      | none =>
        rw [show y_pa nt tx (n + 1) p D = (some p, D) by rw [y_pa_s, if_neg e, hi2]]
        exact ⟨M1, rfl, fun q => (by cases q), kk.tr a3⟩
      | some q =>
        obtain ⟨q, D'⟩ := q
        obtain ⟨k1, k2, k3⟩ := y_it_ok nt tx hi2 hD
        rw [show y_pa nt tx (n + 1) p D = y_pa nt tx n q D' by rw [y_pa_s, if_neg e, hi2]]
        obtain ⟨M', b1, b2, b3⟩ := k_ra9 n q D' (some (nI p)) M1 (by omega) (by omega) ((hT.keep kk).keep a3) k1 (a2 q D' hi2).1 (a2 q D' hi2).2
        refine ⟨M', ?_, b2, (kk.tr a3).tr b3⟩
        show (if nI 1 = nI 0 then _ else _) = _
        rw [if_neg (by decide)]
        exact b1
theorem k_bg23 : ∀ (n i : Nat) (M : xM), i + n = 15 → (∀ k, k < i → M 44 k = nI 0) → ∃ M', K_begins_23 (nI i) M = some (nI 0, M') ∧ M' 44 0 = nI 0 ∧ y_but [44] M M'
  | 0, i, M, h, hM => by
    refine ⟨M, ?_, hM 0 (by omega), y_but.rf⟩
    rw [K_begins_23_eq, if_pos (by rw [y_le (by omega) (by omega)]; omega)]
  | n + 1, i, M, h, hM => by
    obtain ⟨M', a1, a2, a3⟩ := k_bg23 n (i + 1) (x_up M 44 i (nI 0)) (by omega) (fun k hk => by
      rw [y_up_at]
      by_cases e : k = i
      · rw [if_pos ⟨rfl, e⟩]
      · rw [if_neg (fun q => e q.2)]
        exact hM k (by omega))
    refine ⟨M', ?_, a2, (y_but.rf.up (by simp)).tr a3⟩
    rw [K_begins_23_eq, if_neg (by rw [y_le (by omega) (by omega)]; omega), y_in (show i < 15 by omega) (by decide), y_clamp (by omega), y_add]
    exact a1
theorem k_bg2 : ∀ (n i : Nat) (M : xM), i + n = 30 → (∀ k, k < i → M 43 k = nI 0) → ∃ M', K_begins_2 (nI i) M = K_begins_23 (nI 0) M' ∧ (M' 43 0 = nI 0 ∧ M' 43 1 = nI 0) ∧ y_but [43] M M'
  | 0, i, M, h, hM => by
    refine ⟨M, ?_, ⟨hM 0 (by omega), hM 1 (by omega)⟩, y_but.rf⟩
    rw [K_begins_2_eq, if_pos (by rw [y_le (by omega) (by omega)]; omega)]
  | n + 1, i, M, h, hM => by
    obtain ⟨M', a1, a2, a3⟩ := k_bg2 n (i + 1) (x_up M 43 i (nI 0)) (by omega) (fun k hk => by
      rw [y_up_at]
      by_cases e : k = i
      · rw [if_pos ⟨rfl, e⟩]
      · rw [if_neg (fun q => e q.2)]
        exact hM k (by omega))
    refine ⟨M', ?_, a2, (y_but.rf.up (by simp)).tr a3⟩
    rw [K_begins_2_eq, if_neg (by rw [y_le (by omega) (by omega)]; omega), y_in (show i < 30 by omega) (by decide), y_clamp (by omega), y_add]
    exact a1
theorem k_ra {M : xM} (hT : y_txK M nt tx) : ∃ M', K_readsAll M = some (match (y_pa nt tx 200 0 y_D0).1 with
    | none => -4
    | some q => nI q, M') ∧ ((y_pa nt tx 200 0 y_D0).1 = none → y_DK M' (y_pa nt tx 200 0 y_D0).2) ∧ y_kk M M' := by
  have h200 := hT.1
  obtain ⟨M1, a1, a2, a3⟩ := k_bg2 30 0 M (by omega) (fun k hk => by omega)
  obtain ⟨M2, b1, b2, b3⟩ := k_bg23 15 0 M1 (by omega) (fun k hk => by omega)
  have b4 : y_but [43, 44] M M2 := (a3.mono (by decide)).tr (b3.mono (by decide))
  have hK : y_DK M2 y_D0 := ⟨by rw [b3 43 (by decide)]; exact a2.1, by rw [b3 43 (by decide)]; exact a2.2, b2, fun j hj => absurd hj (Nat.not_lt_zero _), fun j hj => absurd hj (Nat.not_lt_zero _), fun j hj => absurd hj (Nat.not_lt_zero _)⟩
  have kk := (y_kk.of b4).tr (y_kk.at (nI 0))
  obtain ⟨M', c1, c2, c3⟩ := k_ra9 200 0 y_D0 none (x_up M2 40 12 (nI 0)) (by omega) (by omega) (hT.keep kk) ⟨by decide, by decide, by decide, fun j hj => absurd hj (Nat.not_lt_zero _), fun j hj => absurd hj (Nat.not_lt_zero _), fun j hj => absurd hj (Nat.not_lt_zero _)⟩ (hK.at (nI 0)) y_up_eq
  refine ⟨M', ?_, c2, kk.tr c3⟩
  rw [K_readsAll_eq, K_begins_eq, a1, b1, Option.bind_some]
  exact c1
end
theorem y_I.kk {M M' : xM} {w : Nat} {pr me : Nat → Nat} {r : Nat} {ki wa : Nat → Nat} {N : yN} {nt : Nat} {tx : Nat → Nat} {nc : Nat} {ch : Nat → yN} {nk : Nat} {kp : Nat → yN} {nh : Nat} {th : Nat → Nat × List Nat × Nat}
    (h : y_I M w pr me r ki wa N nt tx nc ch nk kp nh th) (hk : y_kk M M') : y_I M' w pr me r ki wa N nt tx nc ch nk kp nh th :=
  h.keep (fun a ha => hk.1 a (by revert a; decide)) (fun j hj => hk.2 j (by omega))
theorem y_txt.sp {M : xM} {nt : Nat} {tx : Nat → Nat} (h : y_txt M nt tx) : y_txC M nt tx ∧ y_txK M nt tx := by
  obtain ⟨h1, h2, h3, h4⟩ := h
  exact ⟨⟨h1, h2, fun j hj => ⟨(h4 j hj).1, (h4 j hj).2.2⟩⟩, ⟨h1, h3, fun j hj => (h4 j hj).2⟩⟩
theorem op_fault {M : xM} (h : y_Inv M) : y_op C_fault K_fault M := by
  obtain ⟨w, pr, me, r, ki, wa, N, nt, tx, nc, ch, nk, kp, nh, th, hI⟩ := id h
  obtain ⟨-, -, -, ht, -⟩ := id hI
  obtain ⟨M1, a1, -, a3⟩ := t_pr ht.sp.1
  have hI1 := hI.scr (a3.mono (by decide))
  obtain ⟨-, -, -, ht1, -⟩ := id hI1
  obtain ⟨M2, b1, -, b3⟩ := k_ra ht1.sp.2
  refine ⟨_, M1, M2, by rw [C_fault_eq, a1, Option.bind_some], by rw [K_fault_eq, b1, Option.bind_some]; rfl, ⟨w, pr, me, r, ki, wa, N, nt, tx, nc, ch, nk, kp, nh, th, hI1.kk b3⟩, ?_, ?_⟩
  · rw [b3.1 98 (by decide), a3 98 (by decide)]
  · rw [b3.1 99 (by decide), a3 99 (by decide)]
theorem k_ly28 : ∀ (n i : Nat) (M : xM), i + n = 15 → (∀ k, k < i → M 45 k = M 44 k) → ∃ M', K_lays_28 (nI i) M = some (nI 0, (x_up (x_up (x_up M' 40 7 (nI 0)) 40 9 (nI 0)) 40 11 (nI 0))) ∧ (∀ k, k < 15 → M' 45 k = M 44 k) ∧ y_but [45] M M'
  | 0, i, M, h, hM => by
    refine ⟨M, ?_, fun k hk => hM k (by omega), y_but.rf⟩
    rw [K_lays_28_eq, if_pos (by rw [y_le (by omega) (by omega)]; omega)]
  | n + 1, i, M, h, hM => by
    have b1 : y_but [45] M (x_up M 45 i (M 44 i)) := y_but.rf.up (by simp)
    obtain ⟨M', a1, a2, a3⟩ := k_ly28 n (i + 1) (x_up M 45 i (M 44 i)) (by omega) (fun k hk => by
      rw [b1 44 (by decide), y_up_at]
      by_cases e : k = i
      · rw [if_pos ⟨rfl, e⟩, e]
      · rw [if_neg (fun q => e q.2)]
        exact hM k (by omega))
    refine ⟨M', ?_, fun k hk => by rw [a2 k hk, b1 44 (by decide)], b1.tr a3⟩
    rw [K_lays_28_eq, if_neg (by rw [y_le (by omega) (by omega)]; omega)]
    simp only [y_in2 (show i < 15 by omega) (show 15 < 2 ^ 31 by decide), y_clamp (show i < 2 ^ 31 by omega), y_add]
    exact a1
theorem k_ly2 : ∀ (n i : Nat) (M : xM), i + n = 30 → (∀ k, k < i → M 42 k = M 43 k) → ∃ M', K_lays_2 (nI i) M = K_lays_28 (nI 0) M' ∧ (∀ k, k < 30 → M' 42 k = M 43 k) ∧ y_but [42] M M'
  | 0, i, M, h, hM => by
    refine ⟨M, ?_, fun k hk => hM k (by omega), y_but.rf⟩
    rw [K_lays_2_eq, if_pos (by rw [y_le (by omega) (by omega)]; omega)]
  | n + 1, i, M, h, hM => by
    have b1 : y_but [42] M (x_up M 42 i (M 43 i)) := y_but.rf.up (by simp)
    obtain ⟨M', a1, a2, a3⟩ := k_ly2 n (i + 1) (x_up M 42 i (M 43 i)) (by omega) (fun k hk => by
      rw [b1 43 (by decide), y_up_at]
      by_cases e : k = i
      · rw [if_pos ⟨rfl, e⟩, e]
      · rw [if_neg (fun q => e q.2)]
        exact hM k (by omega))
    refine ⟨M', ?_, fun k hk => by rw [a2 k hk, b1 43 (by decide)], b1.tr a3⟩
    rw [K_lays_2_eq, if_neg (by rw [y_le (by omega) (by omega)]; omega)]
    simp only [y_in2 (show i < 30 by omega) (show 30 < 2 ^ 31 by decide), y_clamp (show i < 2 ^ 31 by omega), y_add]
    exact a1
theorem k_lays (M : xM) : ∃ M', K_lays M = some (nI 0, M') ∧ (∀ k, k < 30 → M' 42 k = M 43 k) ∧ (∀ k, k < 15 → M' 45 k = M 44 k) ∧ (M' 40 7 = nI 0 ∧ M' 40 9 = nI 0 ∧ M' 40 11 = nI 0 ∧ M' 40 1 = M 40 1) ∧ ∀ a, a ∉ [40, 42, 45] → M' a = M a := by
  obtain ⟨M1, a1, a2, a3⟩ := k_ly2 30 0 M (by omega) (fun k hk => by omega)
  obtain ⟨M2, b1, b2, b3⟩ := k_ly28 15 0 M1 (by omega) (fun k hk => by omega)
  have b4 : y_but [42, 45] M M2 := (a3.mono (by decide)).tr (b3.mono (by decide))
  refine ⟨_, by rw [K_lays_eq, a1, b1], fun k hk => ?_, fun k hk => ?_, ⟨?_, ?_, ?_, ?_⟩, ?_⟩
  · simp only [y_up_at]; simp; rw [b3 42 (by decide)]; exact a2 k hk
  · simp only [y_up_at]; simp; rw [b2 k hk, a3 44 (by decide)]
  · simp only [y_up_at]; simp
  · simp only [y_up_at]; simp
  · simp only [y_up_at]; simp
  · simp only [y_up_at]; simp; rw [b4 40 (by decide)]
  · exact (((b4.mono (l2 := [40, 42, 45]) (by decide)).up (by simp)).up (by simp)).up (by simp)
theorem op_lay {M : xM} (h : y_Inv M) : y_op C_lay K_lay M := by
  obtain ⟨w, pr, me, r, ki, wa, N, nt, tx, nc, ch, nk, kp, nh, th, hI⟩ := id h
  obtain ⟨-, -, -, ht, hcg, hkp, -⟩ := id hI
  obtain ⟨M1, a1, a2, a3⟩ := t_pr ht.sp.1
  have hI1 := hI.scr (a3.mono (by decide))
  obtain ⟨-, -, -, ht1, -⟩ := id hI1
  have hC := C_lay_eq M
  rw [a1, Option.bind_some] at hC
  have hpok := y_pa_ok nt tx 200 0 y_D0 ⟨by decide, by decide, by decide, fun j hj => absurd hj (Nat.not_lt_zero _), fun j hj => absurd hj (Nat.not_lt_zero _), fun j hj => absurd hj (Nat.not_lt_zero _)⟩
  have hn200 := ht.1
  have bad : ∀ M2, K_lay M1 = some (-2, M2) → y_kk M1 M2 → C_lay M = some (-2, M1) → y_op C_lay K_lay M := by
    intro M2 hK b3 hC
    refine ⟨-2, M1, M2, hC, hK, ⟨w, pr, me, r, ki, wa, N, nt, tx, nc, ch, nk, kp, nh, th, hI1.kk b3⟩, ?_, ?_⟩
    · rw [b3.1 98 (by decide), a3 98 (by decide)]
    · rw [b3.1 99 (by decide), a3 99 (by decide)]
  cases hpa : (y_pa nt tx 200 0 y_D0).1 with
  | some q =>
    rw [hpa] at hC
    have hq := hpok.2 q hpa
    obtain ⟨M2, b1, -, b3⟩ := k_ra ht1.sp.2
    have hK := K_lay_eq M1
    rw [b1, Option.bind_some, hpa] at hK
    refine bad M2 ?_ b3 ?_
    · rw [hK]; exact if_neg (y_ne4 (by omega))
    · rw [hC]; exact if_neg (y_ne4 (by omega))
  | none =>
    rw [hpa] at hC
    have hDC := a2 hpa
    have hDok := hpok.1
    generalize hD : (y_pa nt tx 200 0 y_D0).2 = D at hDC hDok
    obtain ⟨c1, c2, c3, c4, c5, c6⟩ := hDC
    obtain ⟨d1, d2, d3, d4, d5, d6⟩ := hDok
    simp only [if_true, c1] at hC
    by_cases e0 : D.1.1 = 0
    · obtain ⟨M2, b1, b2, b3⟩ := k_ra ht1.sp.2
      have hK := K_lay_eq M1
      have hDK := b2 hpa
      rw [hD] at hDK
      rw [b1, Option.bind_some, hpa] at hK
      simp only [if_true, hDK.1, e0] at hK
      rw [e0] at hC
      exact bad M2 hK b3 (hC.trans (if_pos rfl))
    · rw [if_neg (by rw [y_eq (by omega) (by omega)]; exact e0), P_copyFrom_p_d_eq, Option.bind_some, S_clear_c_eq, Option.bind_some, S_clear_k_eq, Option.bind_some, H_clear_h_eq, Option.bind_some] at hC
      generalize hM3 : x_up (x_up (x_up (x_up (x_up (x_up (x_set (x_set (x_set (x_set (x_set (x_set M1 4 (va_cpy (M1 11) (M1 4) 0 0 8)) 5 (va_cpy (M1 12) (M1 5) 0 0 8)) 6 (va_cpy (M1 13) (M1 6) 0 0 8)) 7 (va_cpy (M1 14) (M1 7) 0 0 6)) 8 (va_cpy (M1 15) (M1 8) 0 0 6)) 9 (va_cpy (M1 16) (M1 9) 0 0 6)) 3 6 (M1 10 6)) 3 7 (M1 10 7)) 3 8 (M1 10 8)) 17 2 (nI 0)) 19 2 (nI 0)) 21 3 (nI 0) = M3 at hC
      have b0 : y_but [3, 4, 5, 6, 7, 8, 9, 17, 19, 21] M1 M3 := by
        rw [← hM3]
        exact (((((((((((y_but.rf.set (by simp)).set (by simp)).set (by simp)).set (by simp)).set (by simp)).set (by simp)).up (by simp)).up (by simp)).up (by simp)).up (by simp)).up (by simp)).up (by simp)
      have ht3 : y_txt M3 nt tx := ht1.keep (b0 _ (by decide)) (b0 _ (by decide)) (b0 _ (by decide)) (by rw [b0 40 (by decide)])
      obtain ⟨M4, b1, b2, b3⟩ := k_ra ht3.sp.2
      have hDK := b2 hpa
      rw [hD] at hDK
      obtain ⟨k1, k2, k3, k4, k5, k6⟩ := hDK
      obtain ⟨M5, l1, l2, l3, ⟨l4, l5, l6, l7⟩, l8⟩ := k_lays M4
      have hK := K_lay_eq M3
      rw [b1, Option.bind_some, hpa] at hK
      simp only [if_true, k1] at hK
      rw [if_neg (by rw [y_eq (by omega) (by omega)]; exact e0), l1, Option.bind_some] at hK
      have keep : ∀ a, a ∉ [40, 42, 43, 44, 45] → M5 a = M3 a := fun a ha => by
        rw [l8 a (fun q => ha (by simp at q ⊢; omega)), b3.1 a (fun q => ha (by simp at q ⊢; omega))]
      have hans : M5 42 0 = nI D.1.1 := (l2 0 (by omega)).trans k1
      have v36 : M3 3 6 = nI D.1.1 := by rw [← hM3]; simp only [y_up_at]; simpa using c1
      have v37 : M3 3 7 = nI D.2.1.1 := by rw [← hM3]; simp only [y_up_at]; simpa using c2
      have v38 : M3 3 8 = nI D.2.2.1 := by rw [← hM3]; simp only [y_up_at]; simpa using c3
      have v4 : ∀ j, j < 8 → M3 4 j = M1 11 j ∧ M3 5 j = M1 12 j ∧ M3 6 j = M1 13 j := by
        intro j hj
        rw [← hM3]
        simp only [y_up_at, y_set_at, va_cpy]
        refine ⟨?_, ?_, ?_⟩ <;> simp <;> omega
      have v7 : ∀ j, j < 6 → M3 7 j = M1 14 j ∧ M3 8 j = M1 15 j ∧ M3 9 j = M1 16 j := by
        intro j hj
        rw [← hM3]
        simp only [y_up_at, y_set_at, va_cpy]
        refine ⟨?_, ?_, ?_⟩ <;> simp <;> omega
      refine ⟨nI D.1.1, M3, M5, ?_, ?_, ⟨D.1.1, D.1.2.1, D.1.2.2.1, D.2.1.1, D.2.1.2.1, D.2.1.2.2, (D.2.2.1, D.2.2.2, D.1.2.2.2), nt, tx, 0, ch, 0, kp, 0, th, ⟨⟨⟨by omega, fun j hj => (d4 j hj).1.1⟩, ?_, ?_, ?_, ?_⟩, ⟨d3, d6, fun j hj => (d4 j hj).2.2⟩, ⟨?_, fun k hk => ?_, ⟨?_, fun k hk => ?_, fun j hj => ?_⟩⟩, ?_, ?_, ?_, ?_⟩⟩, ?_, ?_⟩
      · rw [hC]; simp only [v36]
      · rw [hK]; simp only [hans]
      · refine ⟨d1, by rw [keep 3 (by decide)]; exact v36, fun j hj => ?_, fun j hj => ⟨(d4 j hj).1.2, (d4 j hj).2⟩⟩
        rw [keep 4 (by decide), keep 5 (by decide), keep 6 (by decide), (v4 j (by omega)).1, (v4 j (by omega)).2.1, (v4 j (by omega)).2.2]
        exact c4 j hj
      · refine ⟨d2, by rw [keep 3 (by decide)]; exact v37, fun j hj => ?_, d5⟩
        rw [keep 7 (by decide), keep 8 (by decide), (v7 j (by omega)).1, (v7 j (by omega)).2.1]
        exact c5 j hj
      · refine ⟨d1, hans, fun j hj => ?_, fun j hj => ⟨(d4 j hj).1.2, (d4 j hj).2⟩⟩
        rw [l2 _ (show 2 + j < 30 by omega), l2 _ (show 10 + j < 30 by omega), l3 _ (show 7 + j < 15 by omega)]
        exact k4 j hj
      · refine ⟨d2, (l2 1 (by omega)).trans k2, fun j hj => ?_, d5⟩
        rw [l2 _ (show 18 + j < 30 by omega), l2 _ (show 24 + j < 30 by omega)]
        exact k5 j hj
      · rw [keep 3 (by decide)]; exact v38
      · have hk2 : k < D.2.2.1 := hk
        rw [keep 9 (by decide), (v7 k (by omega)).2.2]
        exact c6 k hk2
      · exact (l3 0 (by omega)).trans k3
      · have hk2 : k < D.2.2.1 := hk
        rw [Nat.zero_add, l3 _ (show 1 + k < 15 by omega)]
        exact k6 k hk2
      · rw [Nat.zero_add, l3 _ (show 7 + j < 15 by omega)]
        exact (k4 j hj).2.2
      · exact ht3.keep (keep _ (by decide)) (keep _ (by decide)) (keep _ (by decide)) (l7.trans (b3.2 1 (by decide)))
      · refine ⟨by omega, ?_, ?_, l4, fun t ht => absurd ht (Nat.not_lt_zero _)⟩
        · rw [keep 17 (by decide), ← hM3]
          simp only [y_up_at]
          simp [y_set_at]
          rw [a3 17 (by decide)]
          exact hcg.2.1
        · rw [keep 17 (by decide), ← hM3]
          simp only [y_up_at]
          simp
      · refine ⟨by omega, ?_, ?_, l5, fun t ht => absurd ht (Nat.not_lt_zero _)⟩
        · rw [keep 19 (by decide), ← hM3]
          simp only [y_up_at]
          simp [y_set_at]
          rw [a3 19 (by decide)]
          exact hkp.2.1
        · rw [keep 19 (by decide), ← hM3]
          simp only [y_up_at]
          simp
      · refine ⟨by omega, ?_, l6, fun t ht => absurd ht (Nat.not_lt_zero _)⟩
        rw [keep 21 (by decide), ← hM3]
        simp only [y_up_at]
        simp
      · rw [keep 98 (by decide), b0 98 (by decide), a3 98 (by decide)]
      · rw [keep 99 (by decide), b0 99 (by decide), a3 99 (by decide)]
