/-! month -/
/-- the notice drawn out of t: n digits -/
def y_drw (w t : Nat) : Nat → List Nat
  | 0 => []
  | n + 1 => y_drw w t n ++ [t / 4 ^ (n + 1) % w]
theorem y_drw_len (w t : Nat) : ∀ n, (y_drw w t n).length = n
  | 0 => rfl
  | n + 1 => by
    show (y_drw w t n ++ [t / 4 ^ (n + 1) % w]).length = n + 1
    rw [List.length_append, y_drw_len w t n]
    rfl
theorem y_drw_w {w : Nat} (hw : 1 ≤ w) (t : Nat) : ∀ n, ∀ d ∈ y_drw w t n, d < w
  | 0 => fun d hd => absurd hd List.not_mem_nil
  | n + 1 => fun d hd => by
    rw [show y_drw w t (n + 1) = y_drw w t n ++ [t / 4 ^ (n + 1) % w] from rfl, List.mem_append] at hd
    rcases hd with hd | hd
    · exact y_drw_w hw t n d hd
    · rw [List.mem_singleton] at hd
      rw [hd]
      exact Nat.mod_lt _ (by omega)
theorem y_drw_no {w : Nat} (hw : 1 ≤ w) (t : Nat) {n : Nat} (h1 : 1 ≤ n) (h4 : n ≤ 4) : y_no w (y_drw w t n) := ⟨by rw [y_drw_len]; exact h1, by rw [y_drw_len]; omega, y_drw_w hw t n⟩
theorem c_drw48 {w : Nat} {pr me ta : Nat → Nat} (hw1 : 1 ≤ w) {t c : Nat} (ht : t < 2 ^ 31) (hc : c ≤ 4) (o1 o2 o4 o5 : Option Int32) (x3 : Int64) : ∀ (n i : Nat) (M : xM), i + n = c → y_CWp M w pr me ta → y_Rd 25 M pr me ta (y_drw w t i) → ∃ M', C_drawNotice_48 o1 o2 x3 o4 o5 (nI c) (nI (t / 4 ^ i)) (nI i) M = some (nI 0, M') ∧ y_Rd 25 M' pr me ta (y_drw w t c) ∧ y_but [25] M M'
  | 0, i, M, h, hC, hR => by
    have hi : i = c := by omega
    subst hi
    exact ⟨M, by rw [C_drawNotice_48_eq, if_pos (show nI i ≤ nI i by rw [y_le (by omega) (by omega)]; omega)], hR, y_but.rf⟩
  | n + 1, i, M, h, hC, hR => by
    have hw := hC.1
    have h4 : t / 4 ^ i ≤ t := Nat.div_le_self _ _
    have e4 : t / 4 ^ i / 4 = t / 4 ^ (i + 1) := by rw [Nat.div_div_eq_div_mul, Nat.pow_succ]
    have h5 : t / 4 ^ (i + 1) ≤ t := Nat.div_le_self _ _
    obtain ⟨M1, a1, a2, a3⟩ := c_appendp hC hR (y_drw_w hw1 t i) (Nat.mod_lt (t / 4 ^ (i + 1)) (show 0 < w by omega))
    have hC1 : y_CWp M1 w pr me ta := hC.keep (a3 _ (by decide)) (a3 _ (by decide)) (a3 _ (by decide)) (a3 _ (by decide))
    obtain ⟨M', b1, b2, b3⟩ := c_drw48 hw1 ht hc o1 o2 o4 o5 x3 n (i + 1) M1 (by omega) hC1 a2
    refine ⟨M', ?_, b2, a3.tr b3⟩
    rw [C_drawNotice_48_eq, if_neg (show ¬ nI c ≤ nI i by rw [y_le (by omega) (by omega)]; omega), hC.2.1, if_neg (show ¬ nI w ≤ nI 0 by rw [y_le (by omega) (by omega)]; omega), if_neg (show ¬ nI w = nI 0 by rw [y_eq (by omega) (by omega)]; omega), y_div (show t / 4 ^ i < 2 ^ 31 by omega) (by decide) (by decide), e4, y_rem2 (show t / 4 ^ (i + 1) < 2 ^ 31 by omega) (show 0 < w by omega) (by omega), a1, Option.bind_some, y_add]
    exact b1
theorem k_drw87 {M : xM} {w : Nat} {pr me ta : Nat → Nat} (hw1 : 1 ≤ w) (hK : y_KW M w pr me ta) {t c : Nat} (ht : t < 2 ^ 31) (hc : t % 4 + 1 = c) (x1 x2 x3 x4 x5 x6 : Int32) (x7 : Int64) (o8 : Option Int32) : ∀ (n i : Nat), i + n = c → K_month_87 x1 x2 x3 x4 x5 x6 x7 o8 (nI t) (nI (y_cd (y_drw w t i))) (nI (t / 4 ^ i)) (nI i) M = K_month_87 x1 x2 x3 x4 x5 x6 x7 o8 (nI t) (nI (y_cd (y_drw w t c))) (nI (t / 4 ^ c)) (nI c) M
  | 0, i, h => by rw [show i = c by omega]
  | n + 1, i, h => by
    have hw := hK.1
    have h4 : t / 4 ^ i ≤ t := Nat.div_le_self _ _
    have e4 : t / 4 ^ i / 4 = t / 4 ^ (i + 1) := by rw [Nat.div_div_eq_div_mul, Nat.pow_succ]
    have h5 : t / 4 ^ (i + 1) ≤ t := Nat.div_le_self _ _
    rw [← k_drw87 hw1 hK ht hc x1 x2 x3 x4 x5 x6 x7 o8 n (i + 1) (by omega)]
    rw [K_month_87_eq, y_rem2 ht (show 0 < 4 by decide) (by decide), y_add, hc, if_neg (show ¬ nI c ≤ nI i by rw [y_le (by omega) (by omega)]; omega), hK.2.1, if_neg (show ¬ nI w = nI 0 by rw [y_eq (by omega) (by omega)]; omega), y_div (show t / 4 ^ i < 2 ^ 31 by omega) (by decide) (by decide), e4, y_rem2 (show t / 4 ^ (i + 1) < 2 ^ 31 by omega) (show 0 < w by omega) (by omega), y_mul, y_add, y_add, y_add, ← y_cd_snoc]
    rfl
def y_sd (a i : Nat) : Nat := (7919 * a + 6151 * i + 1) * (7919 * a + 6151 * i + 1) % 65521
theorem y_sd_lt (a i : Nat) : y_sd a i < 65521 := Nat.mod_lt _ (by decide)
theorem y_sq {a i : Nat} (ha : a < 10000) (hi : i < 40) : (7919 * a + 6151 * i + 1) * (7919 * a + 6151 * i + 1) < 2 ^ 63 := by
  have h : 7919 * a + 6151 * i + 1 ≤ 100000000 := by omega
  have := Nat.mul_le_mul h h
  omega
def y_dn (w a i : Nat) : List Nat := y_drw w (y_sd a i) (y_sd a i % 4 + 1)
theorem c_draw {M : xM} {w : Nat} {pr me ta : Nat → Nat} (hw1 : 1 ≤ w) (hC : y_CWp M w pr me ta) {a i : Nat} (ha : a < 10000) (hi : i < 40) : ∃ M', C_drawNotice (nI a) (nI i) M = some (nI 0, M') ∧ y_Rd 25 M' pr me ta (y_dn w a i) ∧ y_but [25] M M' := by
  rw [C_drawNotice_eq, R_clear_r_eq, Option.bind_some]
  generalize hM1 : (x_up (x_up (x_up (x_up (x_up (x_up (x_up M 25 0 (nI 0)) 25 1 (nI 0)) 25 2 (nI 0)) 25 3 (nI 0)) 25 4 (nI 0)) 25 5 (nI 0)) 25 6 (nI 0)) = M1
  have hb : y_but [25] M M1 := by
    rw [← hM1]
    exact ((((((y_but.rf.up (by simp)).up (by simp)).up (by simp)).up (by simp)).up (by simp)).up (by simp)).up (by simp)
  have hR : y_Rd 25 M1 pr me ta [] := by
    rw [← hM1]
    exact ⟨rfl, rfl, rfl, rfl, rfl, rfl, rfl⟩
  have hC1 : y_CWp M1 w pr me ta := hC.keep (hb _ (by decide)) (hb _ (by decide)) (hb _ (by decide)) (hb _ (by decide))
  have ht := y_sd_lt a i
  simp only [nI_l (show a < 2 ^ 31 by omega), nI_l (show i < 2 ^ 31 by omega), lN_mul, lN_add, lN_i, pk_lRem (y_sq ha hi) (show 0 < 65521 by decide) (show 65521 < 2 ^ 63 by decide)]
  rw [show (7919 * a + 6151 * i + 1) * (7919 * a + 6151 * i + 1) % 65521 = y_sd a i from rfl, y_rem2 (show y_sd a i < 2 ^ 31 by omega) (show 0 < 4 by decide) (by decide), y_add]
  obtain ⟨M', b1, b2, b3⟩ := c_drw48 hw1 (show y_sd a i < 2 ^ 31 by omega) (show y_sd a i % 4 + 1 ≤ 4 by omega) (some (nI a)) (some (nI i)) none (some (nI (y_sd a i))) (lN (7919 * a + 6151 * i + 1)) _ 0 M1 (Nat.zero_add _) hC1 hR
  rw [show y_sd a i / 4 ^ 0 = y_sd a i from Nat.div_one _] at b1
  exact ⟨M', b1, b2, hb.tr b3⟩
theorem y_dn_no {w : Nat} (hw : 1 ≤ w) (a i : Nat) : y_no w (y_dn w a i) := y_drw_no hw _ (by omega) (by omega)
def y_mt (f : Nat → Nat) : Nat → Nat
  | 0 => 0
  | n + 1 => y_mt f n + f n
def y_mu (f : Nat → Nat) : Nat → Nat
  | 0 => 0
  | n + 1 => y_mu f n + (if f n = 1 then 1 else 0)
/-- how many answer the notice drawn on day i -/
def y_ma (me ta ki wa : Nat → Nat) (w r a i : Nat) : Nat := y_ones (y_who me ta ki wa (y_dn w a i) r)
theorem y_who6 (me ta ki wa : Nat → Nat) (ds : List Nat) {r : Nat} (hr : r ≤ 6) : y_who me ta ki wa ds r < 64 := Nat.lt_of_lt_of_le (y_who_lt _ _ _ _ _ r) (Nat.pow_le_pow_right (n := 2) (by decide) hr)
theorem y_ma6 (me ta ki wa : Nat → Nat) (w : Nat) {r : Nat} (hr : r ≤ 6) (a i : Nat) : y_ma me ta ki wa w r a i ≤ 6 := y_ones6 _ (y_who6 _ _ _ _ _ hr)
theorem c_mo39 {w r : Nat} {pr me ta ki wa : Nat → Nat} (hw1 : 1 ≤ w) {a k z : Nat} (ha : a < 10000) (hk : k ≤ 40) (hz : z < 2) : ∀ (n i : Nat) (o7 : Option Int32) (M : xM), i + n = k → y_CWp M w pr me ta → y_CRp M r ki wa → ∃ M', C_month_39 (nI a) (nI k) (nI z) (nI (y_mt (y_ma me ta ki wa w r a) i)) (nI (y_mu (y_ma me ta ki wa w r a) i)) (nI i) o7 M = some (nI (if z = 0 then y_mt (y_ma me ta ki wa w r a) k else y_mu (y_ma me ta ki wa w r a) k), M') ∧ y_but [25] M M'
  | 0, i, o7, M, h, hC, hR => by
    have hi : i = k := by omega
    subst hi
    refine ⟨M, ?_, y_but.rf⟩
    rw [C_month_39_eq, if_pos (show nI i ≤ nI i by rw [y_le (by omega) (by omega)]; omega)]
    by_cases e : z = 0
    · rw [if_pos e, if_pos (show nI z = nI 0 by rw [e])]
    · rw [if_neg e, if_neg (show ¬ nI z = nI 0 by rw [y_eq (by omega) (by omega)]; exact e)]
  | n + 1, i, o7, M, h, hC, hR => by
    obtain ⟨M1, a1, a2, a3⟩ := c_draw hw1 hC ha (show i < 40 by omega)
    have hC1 : y_CWp M1 w pr me ta := hC.keep (a3 _ (by decide)) (a3 _ (by decide)) (a3 _ (by decide)) (a3 _ (by decide))
    have hR1 : y_CRp M1 r ki wa := hR.keep (a3 _ (by decide)) (a3 _ (by decide)) (a3 _ (by decide))
    have h6 := y_ma6 me ta ki wa w hR.1 a i
    obtain ⟨M', b1, b2⟩ := c_mo39 hw1 ha hk hz n (i + 1) (some (nI (y_ma me ta ki wa w r a i))) M1 (by omega) hC1 hR1
    refine ⟨M', ?_, a3.tr b2⟩
    rw [C_month_39_eq, if_neg (show ¬ nI k ≤ nI i by rw [y_le (by omega) (by omega)]; omega), a1, Option.bind_some, c_answ_r (fun j hj => (hC1.2.2.2 j hj).2) hR1 (y_dn_no hw1 a i) a2, Option.bind_some, j_bits (y_who6 _ _ _ _ _ hR.1), Option.bind_some]
    simp only [y_add]
    rw [show y_ones (y_who me ta ki wa (y_dn w a i) r) = y_ma me ta ki wa w r a i from rfl]
    rw [show y_mt (y_ma me ta ki wa w r a) (i + 1) = y_mt (y_ma me ta ki wa w r a) i + y_ma me ta ki wa w r a i from rfl, show y_mu (y_ma me ta ki wa w r a) (i + 1) = y_mu (y_ma me ta ki wa w r a) i + (if y_ma me ta ki wa w r a i = 1 then 1 else 0) from rfl] at b1
    by_cases e : y_ma me ta ki wa w r a i = 1
    · rw [if_pos (show nI (y_ma me ta ki wa w r a i) = nI 1 by rw [e])]
      rw [if_pos e] at b1
      exact b1
    · rw [if_neg (show ¬ nI (y_ma me ta ki wa w r a i) = nI 1 by rw [y_eq (by omega) (by omega)]; exact e)]
      rw [if_neg e] at b1
      exact b1
theorem k_mo41 {M : xM} {w r : Nat} {pr me ta ki wa : Nat → Nat} (hw1 : 1 ≤ w) (hK : y_KW M w pr me ta) (hR : y_KR M r ki wa) (hr6 : r ≤ 6) {a k z : Nat} (ha : a < 10000) (hk : k ≤ 40) (hz : z < 2) : ∀ (n i : Nat) (x7 : Int64) (o8 o9 o10 o11 o12 : Option Int32), i + n = k → K_month_41v2 (nI a) (nI k) (nI z) (nI (y_mt (y_ma me ta ki wa w r a) i)) (nI (y_mu (y_ma me ta ki wa w r a) i)) (nI i) x7 o8 o9 o10 o11 o12 M = some (nI (if z = 0 then y_mt (y_ma me ta ki wa w r a) k else y_mu (y_ma me ta ki wa w r a) k), M)
  | 0, i, x7, o8, o9, o10, o11, o12, h => by
    have hi : i = k := by omega
    subst hi
    rw [K_month_41v2_eq, if_pos (show nI i ≤ nI i by rw [y_le (by omega) (by omega)]; omega)]
    by_cases e : z = 0
    · rw [if_pos e, if_pos (show nI z = nI 0 by rw [e])]
    · rw [if_neg e, if_neg (show ¬ nI z = nI 0 by rw [y_eq (by omega) (by omega)]; exact e)]
  | n + 1, i, x7, o8, o9, o10, o11, o12, h => by
    have ht := y_sd_lt a i
    have h6 := y_ma6 me ta ki wa w hr6 a i
    have hs := y_who6 me ta ki wa (y_dn w a i) hr6
    have b1 := fun q7 q8 q9 q10 q11 q12 => k_mo41 hw1 hK hR hr6 ha hk hz n (i + 1) q7 q8 q9 q10 q11 q12 (by omega)
    rw [K_month_41v2_eq, if_neg (show ¬ nI k ≤ nI i by rw [y_le (by omega) (by omega)]; omega)]
    simp only [nI_l (show a < 2 ^ 31 by omega), nI_l (show i < 2 ^ 31 by omega), lN_mul, lN_add, lN_i, pk_lRem (y_sq ha (show i < 40 by omega)) (show 0 < 65521 by decide) (show 65521 < 2 ^ 63 by decide)]
    rw [show (7919 * a + 6151 * i + 1) * (7919 * a + 6151 * i + 1) % 65521 = y_sd a i from rfl]
    have d1 := fun y7 => k_drw87 hw1 hK (show y_sd a i < 2 ^ 31 by omega) rfl (nI a) (nI k) (nI z) (nI (y_mt (y_ma me ta ki wa w r a) i)) (nI (y_mu (y_ma me ta ki wa w r a) i)) (nI i) y7 none _ 0 (Nat.zero_add _)
    rw [show y_sd a i / 4 ^ 0 = y_sd a i from Nat.div_one _, show y_cd (y_drw w (y_sd a i) 0) = 0 from rfl] at d1
    rw [d1, K_month_87_eq, y_rem2 (show y_sd a i < 2 ^ 31 by omega) (show 0 < 4 by decide) (by decide), y_add, if_pos (show nI (y_sd a i % 4 + 1) ≤ nI (y_sd a i % 4 + 1) by rw [y_le (by omega) (by omega)]; omega), show y_drw w (y_sd a i) (y_sd a i % 4 + 1) = y_dn w a i from rfl, k_whoDoes hK hR (y_dn_no hw1 a i), Option.bind_some, k_ones (show y_who me ta ki wa (y_dn w a i) r < 1024 by omega), Option.bind_some]
    simp only [y_add]
    rw [show y_ones (y_who me ta ki wa (y_dn w a i) r) = y_ma me ta ki wa w r a i from rfl]
    rw [show y_mt (y_ma me ta ki wa w r a) (i + 1) = y_mt (y_ma me ta ki wa w r a) i + y_ma me ta ki wa w r a i from rfl, show y_mu (y_ma me ta ki wa w r a) (i + 1) = y_mu (y_ma me ta ki wa w r a) i + (if y_ma me ta ki wa w r a i = 1 then 1 else 0) from rfl] at b1
    by_cases e : y_ma me ta ki wa w r a i = 1
    · rw [if_pos (show nI (y_ma me ta ki wa w r a i) = nI 1 by rw [e])]
      rw [if_pos e] at b1
      exact b1 _ _ _ _ _ _
    · rw [if_neg (show ¬ nI (y_ma me ta ki wa w r a i) = nI 1 by rw [y_eq (by omega) (by omega)]; exact e)]
      rw [if_neg e] at b1
      exact b1 _ _ _ _ _ _
theorem op_month {M : xM} (h : y_Inv M) (x y z : Int32) : y_op (C_month x y z) (K_month x y z) M := by
  obtain ⟨w, pr, me, r, ki, wa, N, nt, tx, nc, ch, nk, kp, nh, th, hI⟩ := id h
  obtain ⟨⟨⟨hw1, -⟩, hCW, hCR, hKW, hKR⟩, hN, -⟩ := id hI
  have hC := C_month_eq x y z M
  rw [c_within0 (by decide), Option.bind_some, y_b0, C_isWithin_eq] at hC
  have hK := K_month_eq x y z M
  rw [k_in0 (by decide), Option.bind_some, y_b0, K_in_eq] at hK
  by_cases hx : y_inb x (9999 + 1) = true
  · rw [if_pos hx] at hC hK
    by_cases hy1 : y < nI 1
    · rw [if_pos hy1] at hC hK
      exact y_op.same h hC hK
    · by_cases hy2 : nI 40 < y
      · rw [if_neg hy1, if_pos hy2] at hC hK
        exact y_op.same h hC hK
      · rw [if_neg hy1, if_neg hy2, Option.bind_some, if_neg (show ¬ nI 1 = nI 0 by decide)] at hC hK
        rw [c_either, Option.bind_some, y_b0] at hC
        rw [k_in0 (by decide), Option.bind_some, y_b0] at hK
        by_cases hz : y_inb z 2 = true
        · rw [if_pos hz] at hC
          have hv : ∃ v, 1 ≤ v ∧ v ≤ 40 ∧ y = nI v := by
            rcases y_cases y with hneg | ⟨v, hv, rfl⟩
            · exact absurd (y_neg_lt hneg (by omega)) hy1
            · rw [y_lt hv (by omega)] at hy1
              rw [y_lt (by omega) hv] at hy2
              exact ⟨v, by omega, by omega, rfl⟩
          obtain ⟨k, hk1, hk2, rfl⟩ := hv
          obtain ⟨a, ha, rfl⟩ := y_inb_t hx
          obtain ⟨v, hv, rfl⟩ := y_inb_t hz
          obtain ⟨M1, a1, a2⟩ := c_mo39 hw1 ha hk2 hv k 0 none M (by omega) hCW hCR
          have m4 : y_but y_scr M M1 := a2.mono (by decide)
          obtain ⟨⟨-, hCW1, hCR1, hKW1, hKR1⟩, -⟩ := hI.scr m4
          have hK := K_month_eq (nI a) (nI k) (nI v) M1
          rw [k_in0 (by decide), Option.bind_some, y_b0, if_pos hx, K_in_eq, if_neg hy1, if_neg hy2, Option.bind_some, if_neg (show ¬ nI 1 = nI 0 by decide), k_in0 (by decide), Option.bind_some, y_b0, if_pos hz, K_month_41_eq, ← K_month_41v2_eq (x7 := lN 0) (o8 := none) (o9 := none) (o10 := none) (o11 := none) (o12 := none)] at hK
          have d1 := k_mo41 hw1 hKW1 hKR1 hCR.1 ha hk2 hv k 0 (lN 0) none none none none none (by omega)
          exact y_op.ro h (hC.trans a1) (hK.trans d1) m4 y_but.rf
        · rw [if_neg hz] at hC hK
          exact y_op.same h hC hK
  · rw [if_neg hx] at hC hK
    exact y_op.same h hC hK
