/-! what was told: speaks, taken -/
/-- 1 where what is told is not so -/
def y_li (me ta ki wa : Nat → Nat) (q : Nat × List Nat × Nat) : Nat := if y_read me ta (ki q.1) q.2.1 = wa q.1 then 1 - q.2.2 else q.2.2
/-- of whom something is told that is not so -/
def y_lb (l : Nat → Nat) (o : Nat → Nat) : Nat → Nat
  | 0 => 0
  | t + 1 => if l t = 0 then y_lb l o t else y_lb l o t ||| 2 ^ (o t)
/-- whether all that is told of those in s is so -/
def y_so (s : Nat) (l : Nat → Nat) (o : Nat → Nat) : Nat → Nat
  | 0 => 1
  | t + 1 => if y_so s l o t = 0 then 0 else if s / 2 ^ (o t) % 2 = 0 then 1 else if l t = 0 then 1 else 0
theorem y_or6 {s d : Nat} (hs : s < 64) (hd : d < 6) : s ||| 2 ^ d < 64 := Nat.or_lt_two_pow (n := 6) hs (Nat.pow_lt_pow_right (by decide) hd)
theorem y_lb_lt {l o : Nat → Nat} : ∀ n, (∀ t, t < n → o t < 6) → y_lb l o n < 64
  | 0, _ => by show 0 < 64; decide
  | n + 1, h => by
    have ih := y_lb_lt (l := l) n (fun t ht => h t (by omega))
    rw [y_lb]
    split
    · exact ih
    · exact y_or6 ih (h n (by omega))
theorem y_so01 (s : Nat) (l o : Nat → Nat) : ∀ n, y_so s l o n = 0 ∨ y_so s l o n = 1
  | 0 => Or.inr rfl
  | n + 1 => by
    rw [y_so]
    split
    · exact Or.inl rfl
    · split
      · exact Or.inr rfl
      · split
        · exact Or.inr rfl
        · exact Or.inl rfl
theorem y_orb : ∀ s, s < 64 → ∀ d, d < 6 → ∀ i, i < 6 → (s ||| 2 ^ d) / 2 ^ i % 2 = if d = i then 1 else s / 2 ^ i % 2 := by decide +kernel
theorem y_pb : ∀ d, d < 6 → ∀ i, i < 6 → 2 ^ i / 2 ^ d % 2 = if d = i then 1 else 0 := by decide +kernel
theorem y_63 : ∀ d, d < 6 → 63 / 2 ^ d % 2 = 1 := by decide +kernel
/-- of one reader -/
theorem y_so_one {l o : Nat → Nat} {i : Nat} (hi : i < 6) : ∀ n, (∀ t, t < n → o t < 6) → y_so (2 ^ i) l o n = 1 - y_lb l o n / 2 ^ i % 2
  | 0, _ => by
    show 1 = 1 - 0 / 2 ^ i % 2
    simp
  | n + 1, h => by
    have ih := y_so_one (l := l) hi n (fun t ht => h t (by omega))
    have hl := y_lb_lt (l := l) n (fun t ht => h t (by omega))
    have ho := h n (by omega)
    rw [y_so, y_lb, ih, y_pb _ ho _ hi]
    have h2 : y_lb l o n / 2 ^ i % 2 < 2 := Nat.mod_lt _ (by decide)
    by_cases e : l n = 0
    · rw [if_pos e, if_pos e, ite_self]
      split <;> omega
    · simp only [if_neg e, y_orb _ hl _ ho _ hi]
      by_cases e2 : o n = i
      · simp only [if_pos e2]
        split <;> simp
      · simp only [if_neg e2]
        split
        · omega
        · simp; omega
/-- of all -/
theorem y_or_z {s d : Nat} : s ||| 2 ^ d ≠ 0 := by
  intro h
  have h1 : 2 ^ d ≤ s ||| 2 ^ d := Nat.right_le_or
  have h2 := Nat.two_pow_pos d
  omega
theorem y_so_all {l o : Nat → Nat} : ∀ n, (∀ t, t < n → o t < 6) → y_so 63 l o n = if y_lb l o n = 0 then 1 else 0
  | 0, _ => rfl
  | n + 1, h => by
    have ih := y_so_all (l := l) n (fun t ht => h t (by omega))
    rw [y_so, y_lb, ih, y_63 _ (h n (by omega)), if_neg (show ¬ 1 = 0 by decide)]
    by_cases e : l n = 0
    · simp only [if_pos e]
      by_cases e2 : y_lb l o n = 0
      · simp [e2]
      · simp [e2]
    · simp only [if_neg e, if_neg y_or_z]
      split <;> rfl
/-- what is told, by the class; by the reference -/
def y_thk (w r h : Nat) (th : Nat → Nat × List Nat × Nat) : Prop := h ≤ 8 ∧ ∀ t, t < h → (th t).1 < r ∧ y_no w (th t).2.1 ∧ (th t).2.2 ≤ 1
def y_CH (M : xM) (h : Nat) (th : Nat → Nat × List Nat × Nat) : Prop := M 21 3 = nI h ∧ ∀ t, t < h → M 22 t = nI (th t).1 ∧ M 23 t = nI (y_cd (th t).2.1) ∧ M 24 t = nI (th t).2.2
def y_KH (M : xM) (h : Nat) (th : Nat → Nat × List Nat × Nat) : Prop := M 40 11 = nI h ∧ ∀ t, t < h → M 48 (2 * t) = nI (2 * (th t).1 + (th t).2.2) ∧ M 48 (2 * t + 1) = nI (y_cd (th t).2.1)
theorem y_tol.sp {M : xM} {w r h : Nat} {th : Nat → Nat × List Nat × Nat} (H : y_tol M w r h th) : y_thk w r h th ∧ y_CH M h th ∧ y_KH M h th := by
  obtain ⟨h1, h2, h3, h4⟩ := H
  exact ⟨⟨h1, fun t ht => (h4 t ht).1⟩, ⟨h2, fun t ht => (h4 t ht).2.1⟩, ⟨h3, fun t ht => (h4 t ht).2.2⟩⟩
theorem y_CH.keep {M M' : xM} {h : Nat} {th : Nat → Nat × List Nat × Nat} (H : y_CH M h th) (h1 : M' 21 = M 21) (h2 : M' 22 = M 22) (h3 : M' 23 = M 23) (h4 : M' 24 = M 24) : y_CH M' h th := by
  unfold y_CH at H ⊢; rw [h1, h2, h3, h4]; exact H
theorem y_li_le {me ta ki wa : Nat → Nat} {q : Nat × List Nat × Nat} (h : q.2.2 ≤ 1) : y_li me ta ki wa q ≤ 1 := by
  unfold y_li; split <;> omega
section
variable {w r h : Nat} {pr me ta ki wa : Nat → Nat} {th : Nat → Nat × List Nat × Nat}
def y_lis (me ta ki wa : Nat → Nat) (th : Nat → Nat × List Nat × Nat) (t : Nat) : Nat := y_li me ta ki wa (th t)
def y_ls (me ta ki wa : Nat → Nat) (th : Nat → Nat × List Nat × Nat) (h : Nat) : Nat := y_lb (y_lis me ta ki wa th) (fun t => (th t).1) h
theorem y_ls_s (n : Nat) : y_ls me ta ki wa th (n + 1) = if y_li me ta ki wa (th n) = 0 then y_ls me ta ki wa th n else y_ls me ta ki wa th n ||| 2 ^ (th n).1 := rfl
theorem y_ls_lt (hr : r ≤ 6) (hT : y_thk w r h th) {n : Nat} (hn : n ≤ h) : y_ls me ta ki wa th n < 64 := y_lb_lt n (fun t ht => by have := (hT.2 t (by omega)).1; omega)
theorem c_li5p (hT : y_thk w r h th) : ∀ (n t : Nat) (M : xM), t + n = h → y_CWp M w pr me ta → y_CRp M r ki wa → y_CH M h th → ∃ M', H_liars_h_p_r_5 (nI (y_ls me ta ki wa th t)) (nI t) M = some (nI (y_ls me ta ki wa th h), M') ∧ y_but [25] M M'
  | 0, t, M, e, hC, hR, hH => by
    have h8 := hT.1
    refine ⟨M, ?_, y_but.rf⟩
    rw [H_liars_h_p_r_5_eq, hH.1, if_pos (by rw [y_le (by omega) (by omega)]; omega), show t = h by omega]
  | n + 1, t, M, e, hC, hR, hH => by
    have h8 := hT.1
    obtain ⟨t1, t2, t3⟩ := hT.2 t (by omega)
    obtain ⟨v1, v2, v3⟩ := hH.2 t (by omega)
    obtain ⟨M1, m1, m2, m3⟩ := c_measurep hC t2
    have hC1 : y_CWp M1 w pr me ta := hC.keep (m3 _ (by decide)) (m3 _ (by decide)) (m3 _ (by decide)) (m3 _ (by decide))
    have hR1 : y_CRp M1 r ki wa := hR.keep (m3 _ (by decide)) (m3 _ (by decide)) (m3 _ (by decide))
    have hH1 : y_CH M1 h th := hH.keep (m3 _ (by decide)) (m3 _ (by decide)) (m3 _ (by decide)) (m3 _ (by decide))
    obtain ⟨u1, u2, u3⟩ := hH1.2 t (by omega)
    have hr := hR.1
    have hl := y_ls_lt (me := me) (ta := ta) (ki := ki) (wa := wa) hr hT (show t ≤ h by omega)
    obtain ⟨M', a1, a2⟩ := c_li5p hT n (t + 1) M1 (by omega) hC1 hR1 hH1
    refine ⟨M', ?_, m3.tr a2⟩
    rw [H_liars_h_p_r_5_eq, hH.1, if_neg (by rw [y_le (by omega) (by omega)]; omega)]
    simp only [y_in2 (show t < 8 by omega) (show 8 < 2 ^ 31 by decide), y_clamp (show t < 2 ^ 31 by omega), v2, m1, Option.bind_some, u1, u3, c_isAns_p_r (fun j hj => (hC1.2.2.2 j hj).2) hR1 t2 m2 t1, y_add, y_bit_or6 _ hl _ (show (th t).1 < 6 by omega), y_eq (show (th t).2.2 < 2 ^ 31 by omega) (show 1 < 2 ^ 31 by decide)]
    rw [y_ls_s] at a1
    unfold y_li at a1
    by_cases d1 : y_read me ta (ki (th t).1) (th t).2.1 = wa (th t).1
    · rw [if_pos d1] at a1 ⊢
      by_cases d2 : (th t).2.2 = 1
      · rw [if_pos (show 1 - (th t).2.2 = 0 by omega)] at a1
        rw [if_pos d2, if_pos rfl]
        exact a1
      · rw [if_neg (show ¬ 1 - (th t).2.2 = 0 by omega)] at a1
        rw [if_neg d2, if_neg (show ¬ nI 1 = nI 0 by decide)]
        exact a1
    · rw [if_neg d1] at a1 ⊢
      by_cases d2 : (th t).2.2 = 1
      · rw [if_neg (show ¬ (th t).2.2 = 0 by omega)] at a1
        rw [if_pos d2, if_neg (show ¬ nI 0 = nI 1 by decide)]
        exact a1
      · rw [if_pos (show (th t).2.2 = 0 by omega)] at a1
        rw [if_neg d2, if_pos rfl]
        exact a1
theorem c_liarsp {M : xM} (hT : y_thk w r h th) (hC : y_CWp M w pr me ta) (hR : y_CRp M r ki wa) (hH : y_CH M h th) : ∃ M', H_liars_h_p_r M = some (nI (y_ls me ta ki wa th h), M') ∧ y_but [25] M M' := by
  rw [H_liars_h_p_r_eq]
  exact c_li5p hT h 0 M (by omega) hC hR hH
theorem c_li5d (hT : y_thk w r h th) : ∀ (n t : Nat) (M : xM), t + n = h → y_CWd M w pr me ta → y_CRd M r ki wa → y_CH M h th → ∃ M', H_liars_h_d_r_5 (nI (y_ls me ta ki wa th t)) (nI t) M = some (nI (y_ls me ta ki wa th h), M') ∧ y_but [25] M M'
  | 0, t, M, e, hC, hR, hH => by
    have h8 := hT.1
    refine ⟨M, ?_, y_but.rf⟩
    rw [H_liars_h_d_r_5_eq, hH.1, if_pos (by rw [y_le (by omega) (by omega)]; omega), show t = h by omega]
  | n + 1, t, M, e, hC, hR, hH => by
    have h8 := hT.1
    obtain ⟨t1, t2, t3⟩ := hT.2 t (by omega)
    obtain ⟨v1, v2, v3⟩ := hH.2 t (by omega)
    obtain ⟨M1, m1, m2, m3⟩ := c_measured hC t2
    have hC1 : y_CWd M1 w pr me ta := hC.keep (m3 _ (by decide)) (m3 _ (by decide)) (m3 _ (by decide)) (m3 _ (by decide))
    have hR1 : y_CRd M1 r ki wa := hR.keep (m3 _ (by decide)) (m3 _ (by decide)) (m3 _ (by decide))
    have hH1 : y_CH M1 h th := hH.keep (m3 _ (by decide)) (m3 _ (by decide)) (m3 _ (by decide)) (m3 _ (by decide))
    obtain ⟨u1, u2, u3⟩ := hH1.2 t (by omega)
    have hr := hR.1
    have hl := y_ls_lt (me := me) (ta := ta) (ki := ki) (wa := wa) hr hT (show t ≤ h by omega)
    obtain ⟨M', a1, a2⟩ := c_li5d hT n (t + 1) M1 (by omega) hC1 hR1 hH1
    refine ⟨M', ?_, m3.tr a2⟩
    rw [H_liars_h_d_r_5_eq, hH.1, if_neg (by rw [y_le (by omega) (by omega)]; omega)]
    simp only [y_in2 (show t < 8 by omega) (show 8 < 2 ^ 31 by decide), y_clamp (show t < 2 ^ 31 by omega), v2, m1, Option.bind_some, u1, u3, c_isAns_d_r (fun j hj => (hC1.2.2.2 j hj).2) hR1 t2 m2 t1, y_add, y_bit_or6 _ hl _ (show (th t).1 < 6 by omega), y_eq (show (th t).2.2 < 2 ^ 31 by omega) (show 1 < 2 ^ 31 by decide)]
    rw [y_ls_s] at a1
    unfold y_li at a1
    by_cases d1 : y_read me ta (ki (th t).1) (th t).2.1 = wa (th t).1
    · rw [if_pos d1] at a1 ⊢
      by_cases d2 : (th t).2.2 = 1
      · rw [if_pos (show 1 - (th t).2.2 = 0 by omega)] at a1
        rw [if_pos d2, if_pos rfl]
        exact a1
      · rw [if_neg (show ¬ 1 - (th t).2.2 = 0 by omega)] at a1
        rw [if_neg d2, if_neg (show ¬ nI 1 = nI 0 by decide)]
        exact a1
    · rw [if_neg d1] at a1 ⊢
      by_cases d2 : (th t).2.2 = 1
      · rw [if_neg (show ¬ (th t).2.2 = 0 by omega)] at a1
        rw [if_pos d2, if_neg (show ¬ nI 0 = nI 1 by decide)]
        exact a1
      · rw [if_pos (show (th t).2.2 = 0 by omega)] at a1
        rw [if_neg d2, if_pos rfl]
        exact a1
theorem c_liarsd {M : xM} (hT : y_thk w r h th) (hC : y_CWd M w pr me ta) (hR : y_CRd M r ki wa) (hH : y_CH M h th) : ∃ M', H_liars_h_d_r M = some (nI (y_ls me ta ki wa th h), M') ∧ y_but [25] M M' := by
  rw [H_liars_h_d_r_eq]
  exact c_li5d hT h 0 M (by omega) hC hR hH
theorem y_rm2 {a : Nat} (ha : a < 2 ^ 31) : nI a - nI a / nI 2 * nI 2 = nI (a % 2) := pk_rem ha (by decide) (by decide)
def y_sos (me ta ki wa : Nat → Nat) (th : Nat → Nat × List Nat × Nat) (s h : Nat) : Nat := y_so s (y_lis me ta ki wa th) (fun t => (th t).1) h
theorem y_sos_s (s n : Nat) : y_sos me ta ki wa th s (n + 1) = if y_sos me ta ki wa th s n = 0 then 0 else if s / 2 ^ (th n).1 % 2 = 0 then 1 else if y_li me ta ki wa (th n) = 0 then 1 else 0 := rfl
theorem y_sos01 (s n : Nat) : y_sos me ta ki wa th s n = 0 ∨ y_sos me ta ki wa th s n = 1 := y_so01 _ _ _ _
theorem k_so4 {M : xM} (hT : y_thk w r h th) (hK : y_KW M w pr me ta) (hR : y_KR M r ki wa) (hH : y_KH M h th) {s : Nat} (hs : s < 1024) : ∀ (n t : Nat) (o4 o5 : Option Int32), t + n = h → K_isSo_4 (nI s) (nI (y_sos me ta ki wa th s t)) (nI t) o4 o5 M = some (nI (y_sos me ta ki wa th s h), M)
  | 0, t, o4, o5, e => by
    have h8 := hT.1
    rw [K_isSo_4_eq, hH.1, if_pos (by rw [y_le (by omega) (by omega)]; omega), if_pos (by rcases y_sos01 (me := me) (ta := ta) (ki := ki) (wa := wa) (th := th) s t with q | q <;> rw [q] <;> simp), show t = h by omega]
  | n + 1, t, o4, o5, e => by
    have h8 := hT.1
    have hr := hR.1
    obtain ⟨t1, t2, t3⟩ := hT.2 t (by omega)
    obtain ⟨v1, v2⟩ := hH.2 t (by omega)
    have ih := fun o4 o5 => k_so4 hT hK hR hH hs n (t + 1) o4 o5 (by omega)
    rw [K_isSo_4_eq, hH.1, if_neg (by rw [y_le (by omega) (by omega)]; omega)]
    simp only [y_mul, y_add, y_in2 (show 2 * t < 16 by omega) (show 16 < 2 ^ 31 by decide), y_in2 (show 2 * t + 1 < 16 by omega) (show 16 < 2 ^ 31 by decide), y_clamp (show 2 * t < 2 ^ 31 by omega), y_clamp (show 2 * t + 1 < 2 ^ 31 by omega), v1, v2]
    rw [y_rm2 (show 2 * (th t).1 + (th t).2.2 < 2 ^ 31 by omega)]
    simp only [y_div (show 2 * (th t).1 + (th t).2.2 < 2 ^ 31 by omega) (show 0 < 2 by decide) (show 2 < 2 ^ 31 by decide), show (2 * (th t).1 + (th t).2.2) % 2 = (th t).2.2 by omega, show (2 * (th t).1 + (th t).2.2) / 2 = (th t).1 by omega, k_does hK hR t2 t1, Option.bind_some, y_bit1 s hs _ (show (th t).1 < 10 by omega), y_eq (show (th t).2.2 < 2 ^ 31 by omega) (show 1 < 2 ^ 31 by decide), y_eq (show s / 2 ^ (th t).1 % 2 < 2 ^ 31 by omega) (show 0 < 2 ^ 31 by decide)]
    rw [y_sos_s] at ih
    rcases y_sos01 (me := me) (ta := ta) (ki := ki) (wa := wa) (th := th) s t with q | q
    · rw [if_pos q] at ih
      rw [q, if_pos rfl, if_pos rfl]
      split
      · exact ih _ _
      · exact ih _ _
    · rw [if_neg (by omega)] at ih
      rw [q, if_neg (show ¬ nI 1 = nI 0 by decide), if_neg (show ¬ nI 1 = nI 0 by decide)]
      by_cases d0 : s / 2 ^ (th t).1 % 2 = 0
      · rw [if_pos d0] at ih
        rw [if_pos d0, if_pos d0]
        split
        · exact ih _ _
        · exact ih _ _
      · rw [if_neg d0] at ih
        rw [if_neg d0, if_neg d0]
        unfold y_li at ih
        by_cases d1 : y_read me ta (ki (th t).1) (th t).2.1 = wa (th t).1
        · rw [if_pos d1] at ih ⊢
          by_cases d2 : (th t).2.2 = 1
          · rw [if_pos (show 1 - (th t).2.2 = 0 by omega)] at ih
            rw [if_pos d2, if_pos rfl]
            exact ih _ _
          · rw [if_neg (show ¬ 1 - (th t).2.2 = 0 by omega)] at ih
            rw [if_neg d2, if_neg (show ¬ nI 1 = nI 0 by decide)]
            exact ih _ _
        · rw [if_neg d1] at ih ⊢
          by_cases d2 : (th t).2.2 = 1
          · rw [if_neg (show ¬ (th t).2.2 = 0 by omega)] at ih
            rw [if_pos d2, if_neg (show ¬ nI 0 = nI 1 by decide)]
            exact ih _ _
          · rw [if_pos (show (th t).2.2 = 0 by omega)] at ih
            rw [if_neg d2, if_pos rfl]
            exact ih _ _
theorem k_isSo {M : xM} (hT : y_thk w r h th) (hK : y_KW M w pr me ta) (hR : y_KR M r ki wa) (hH : y_KH M h th) {s : Nat} (hs : s < 1024) : K_isSo (nI s) M = some (nI (y_sos me ta ki wa th s h), M) := by
  rw [K_isSo_eq]
  exact k_so4 hT hK hR hH hs h 0 none none (by omega)
theorem y_sh6 : ∀ d, d < 6 → (nI 1 <<< (nI d &&& nI 31)) = nI (2 ^ d) := by decide +kernel
theorem k_sp4 {M : xM} (hT : y_thk w r h th) (hK : y_KW M w pr me ta) (hR : y_KR M r ki wa) (hH : y_KH M h th) : ∀ (n i : Nat), i + n = r → K_speaks_4 (nI (y_bs (fun i => y_sos me ta ki wa th (2 ^ i) h) i)) (nI i) M = some (nI (y_bs (fun i => y_sos me ta ki wa th (2 ^ i) h) r), M)
  | 0, i, e => by
    have hr := hR.1
    rw [K_speaks_4_eq, hR.2.1, if_pos (by rw [y_le (by omega) (by omega)]; omega), show i = r by omega]
  | n + 1, i, e => by
    have hr := hR.1
    have hp : 2 ^ i ≤ 2 ^ 5 := Nat.pow_le_pow_right (by decide) (by omega)
    have hs := y_bs_64 (p := fun i => y_sos me ta ki wa th (2 ^ i) h) (n := i) (by omega)
    have ih := k_sp4 hT hK hR hH n (i + 1) (by omega)
    rw [y_bs_s] at ih
    rw [K_speaks_4_eq, hR.2.1, if_neg (by rw [y_le (by omega) (by omega)]; omega), y_or0, y_bit_or6 _ hs _ (by omega), y_sh6 i (by omega), k_isSo hT hK hR hH (by omega), Option.bind_some, y_add]
    rcases y_sos01 (me := me) (ta := ta) (ki := ki) (wa := wa) (th := th) (2 ^ i) h with q | q
    · rw [if_pos q, Nat.or_zero] at ih
      rw [q, if_pos rfl]
      exact ih
    · rw [if_neg (show ¬ y_sos me ta ki wa th (2 ^ i) h = 0 by omega)] at ih
      rw [q, if_neg (show ¬ nI 1 = nI 0 by decide)]
      exact ih
end
theorem y_bs_ext {p q : Nat → Nat} : ∀ n, (∀ k, k < n → p k = q k) → y_bs p n = y_bs q n
  | 0, _ => rfl
  | n + 1, h => by rw [y_bs_s, y_bs_s, y_bs_ext n (fun k hk => h k (by omega)), h n (by omega)]
theorem y_spk : ∀ s, s < 64 → ∀ r, r < 7 → (((nI 1 <<< (nI r &&& nI 31)) - nI 1) &&& (nI s ^^^ (-1 : Int32))) = nI (y_bs (fun i => 1 - s / 2 ^ i % 2) r) := by decide +kernel
theorem op_speaks {M : xM} (h : y_Inv M) : y_op C_speaks K_speaks M := by
  obtain ⟨w, pr, me, r, ki, wa, N, nt, tx, nc, ch, nk, kp, nh, th, hI⟩ := id h
  obtain ⟨⟨-, hCW, hCR, hKW, hKR⟩, hN, hn, ht, hc, hk, hh⟩ := id hI
  obtain ⟨hT, hCH, hKH⟩ := hh.sp
  have hr := hCR.1
  obtain ⟨M1, a1, a2⟩ := c_liarsp hT hCW hCR hCH
  have a3 : y_but y_scr M M1 := a2.mono (by decide)
  obtain ⟨⟨-, -, -, hKW1, hKR1⟩, -, -, -, -, -, hh1⟩ := hI.scr a3
  have e := k_sp4 hT hKW1 hKR1 hh1.sp.2.2 r 0 (by omega)
  have hC := C_speaks_eq M
  rw [a1, Option.bind_some, hCR.2.1] at hC
  have hl := y_ls_lt (me := me) (ta := N.2.2) (ki := ki) (wa := wa) hr hT (Nat.le_refl nh)
  simp only [y_spk _ hl r (by omega)] at hC
  have hx : y_bs (fun i => 1 - y_ls me N.2.2 ki wa th nh / 2 ^ i % 2) r = y_bs (fun i => y_sos me N.2.2 ki wa th (2 ^ i) nh) r := y_bs_ext r (fun k hk => (y_so_one (l := y_lis me N.2.2 ki wa th) (o := fun t => (th t).1) (i := k) (by omega) nh (fun t ht => by have := (hT.2 t ht).1; omega)).symm)
  rw [hx] at hC
  exact y_op.ro h hC (by rw [K_speaks_eq]; exact e) a3 y_but.rf
