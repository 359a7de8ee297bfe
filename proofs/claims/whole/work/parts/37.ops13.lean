/-! month -/
/-- the notice drawn out of t: n digits -/
def y_drw (w t : Nat) : Nat → List Nat
  | 0 => []
  | n + 1 => y_drw w t n ++ [t / 4 ^ (n + 1) % w]
theorem y_drw_len (w t : Nat) : ∀ n, (y_drw w t n).length = n
  | 0 => rfl
  | n + 1 => by
    show (y_drw w t n ++ [t / 4 ^ (n + 1) % w]).length = n + 1
    rw [List.length_append, y_drw_len w t n]
    rfl
theorem y_drw_w {w : Nat} (hw : 1 ≤ w) (t : Nat) : ∀ n, ∀ d ∈ y_drw w t n, d < w
  | 0 => fun d hd => absurd hd List.not_mem_nil
  | n + 1 => fun d hd => by
    rw [show y_drw w t (n + 1) = y_drw w t n ++ [t / 4 ^ (n + 1) % w] from rfl, List.mem_append] at hd
    rcases hd with hd | hd
    · exact y_drw_w hw t n d hd
    · rw [List.mem_singleton] at hd
      rw [hd]
      exact Nat.mod_lt _ (by omega)
theorem y_drw_no {w : Nat} (hw : 1 ≤ w) (t : Nat) {n : Nat} (h1 : 1 ≤ n) (h4 : n ≤ 4) : y_no w (y_drw w t n) := ⟨by rw [y_drw_len]; exact h1, by rw [y_drw_len]; omega, y_drw_w hw t n⟩
theorem c_drw48 {w : Nat} {pr me ta : Nat → Nat} (hw1 : 1 ≤ w) {t c : Nat} (ht : t < 2 ^ 31) (hc : c ≤ 4) (o1 o2 o4 o5 : Option Int32) (x3 : Int64) : ∀ (n i : Nat) (M : xM), i + n = c → y_CWp M w pr me ta → y_Rd 25 M pr me ta (y_drw w t i) → ∃ M', C_drawNotice_48 o1 o2 x3 o4 o5 (nI c) (nI (t / 4 ^ i)) (nI i) M = some (nI 0, M') ∧ y_Rd 25 M' pr me ta (y_drw w t c) ∧ y_but [25] M M'
  | 0, i, M, h, hC, hR => by
    have hi : i = c := by omega
    subst hi
    exact ⟨M, by rw [C_drawNotice_48_eq, if_pos (show nI i ≤ nI i by rw [y_le (by omega) (by omega)]; omega)], hR, y_but.rf⟩
  | n + 1, i, M, h, hC, hR => by
    have hw := hC.1
    have h4 : t / 4 ^ i ≤ t := Nat.div_le_self _ _
    have e4 : t / 4 ^ i / 4 = t / 4 ^ (i + 1) := by rw [Nat.div_div_eq_div_mul, Nat.pow_succ]
    have h5 : t / 4 ^ (i + 1) ≤ t := Nat.div_le_self _ _
    obtain ⟨M1, a1, a2, a3⟩ := c_appendp hC hR (y_drw_w hw1 t i) (Nat.mod_lt (t / 4 ^ (i + 1)) (show 0 < w by omega))
    have hC1 : y_CWp M1 w pr me ta := hC.keep (a3 _ (by decide)) (a3 _ (by decide)) (a3 _ (by decide)) (a3 _ (by decide))
    obtain ⟨M', b1, b2, b3⟩ := c_drw48 hw1 ht hc o1 o2 o4 o5 x3 n (i + 1) M1 (by omega) hC1 a2
    refine ⟨M', ?_, b2, a3.tr b3⟩
    rw [C_drawNotice_48_eq, if_neg (show ¬ nI c ≤ nI i by rw [y_le (by omega) (by omega)]; omega), hC.2.1, if_neg (show ¬ nI w ≤ nI 0 by rw [y_le (by omega) (by omega)]; omega), if_neg (show ¬ nI w = nI 0 by rw [y_eq (by omega) (by omega)]; omega), y_div (show t / 4 ^ i < 2 ^ 31 by omega) (by decide) (by decide), e4, y_rem2 (show t / 4 ^ (i + 1) < 2 ^ 31 by omega) (show 0 < w by omega) (by omega), a1, Option.bind_some, y_add]
    exact b1
theorem k_drw87 {M : xM} {w : Nat} {pr me ta : Nat → Nat} (hw1 : 1 ≤ w) (hK : y_KW M w pr me ta) {t c : Nat} (ht : t < 2 ^ 31) (hc : t % 4 + 1 = c) (x1 x2 x3 x4 x5 x6 : Int32) (x7 : Int64) (o8 : Option Int32) : ∀ (n i : Nat), i + n = c → K_month_87 x1 x2 x3 x4 x5 x6 x7 o8 (nI t) (nI (y_cd (y_drw w t i))) (nI (t / 4 ^ i)) (nI i) M = K_month_87 x1 x2 x3 x4 x5 x6 x7 o8 (nI t) (nI (y_cd (y_drw w t c))) (nI (t / 4 ^ c)) (nI c) M
  | 0, i, h => by rw [show i = c by omega]
  | n + 1, i, h => by
    have hw := hK.1
    have h4 : t / 4 ^ i ≤ t := Nat.div_le_self _ _
    have e4 : t / 4 ^ i / 4 = t / 4 ^ (i + 1) := by rw [Nat.div_div_eq_div_mul, Nat.pow_succ]
    have h5 : t / 4 ^ (i + 1) ≤ t := Nat.div_le_self _ _
    rw [← k_drw87 hw1 hK ht hc x1 x2 x3 x4 x5 x6 x7 o8 n (i + 1) (by omega)]
    rw [K_month_87_eq, y_rem2 ht (show 0 < 4 by decide) (by decide), y_add, hc, if_neg (show ¬ nI c ≤ nI i by rw [y_le (by omega) (by omega)]; omega), hK.2.1, if_neg (show ¬ nI w = nI 0 by rw [y_eq (by omega) (by omega)]; omega), y_div (show t / 4 ^ i < 2 ^ 31 by omega) (by decide) (by decide), e4, y_rem2 (show t / 4 ^ (i + 1) < 2 ^ 31 by omega) (show 0 < w by omega) (by omega), y_mul, y_add, y_add, y_add, ← y_cd_snoc]
    rfl
def y_sd (a i : Nat) : Nat := (7919 * a + 6151 * i + 1) * (7919 * a + 6151 * i + 1) % 65521
theorem y_sd_lt (a i : Nat) : y_sd a i < 65521 := Nat.mod_lt _ (by decide)
theorem y_sq {a i : Nat} (ha : a < 10000) (hi : i < 40) : (7919 * a + 6151 * i + 1) * (7919 * a + 6151 * i + 1) < 2 ^ 63 := by
  have h : 7919 * a + 6151 * i + 1 ≤ 100000000 := by omega
  have := Nat.mul_le_mul h h
  omega
def y_dn (w a i : Nat) : List Nat := y_drw w (y_sd a i) (y_sd a i % 4 + 1)
theorem c_draw {M : xM} {w : Nat} {pr me ta : Nat → Nat} (hw1 : 1 ≤ w) (hC : y_CWp M w pr me ta) {a i : Nat} (ha : a < 10000) (hi : i < 40) : ∃ M', C_drawNotice (nI a) (nI i) M = some (nI 0, M') ∧ y_Rd 25 M' pr me ta (y_dn w a i) ∧ y_but [25] M M' := by
  rw [C_drawNotice_eq, R_clear_r_eq, Option.bind_some]
  generalize hM1 : (x_up (x_up (x_up (x_up (x_up (x_up (x_up M 25 0 (nI 0)) 25 1 (nI 0)) 25 2 (nI 0)) 25 3 (nI 0)) 25 4 (nI 0)) 25 5 (nI 0)) 25 6 (nI 0)) = M1
  have hb : y_but [25] M M1 := by
    rw [← hM1]
    exact ((((((y_but.rf.up (by simp)).up (by simp)).up (by simp)).up (by simp)).up (by simp)).up (by simp)).up (by simp)
  have hR : y_Rd 25 M1 pr me ta [] := by
    rw [← hM1]
    exact ⟨rfl, rfl, rfl, rfl, rfl, rfl, rfl⟩
  have hC1 : y_CWp M1 w pr me ta := hC.keep (hb _ (by decide)) (hb _ (by decide)) (hb _ (by decide)) (hb _ (by decide))
  have ht := y_sd_lt a i
  simp only [nI_l (show a < 2 ^ 31 by omega), nI_l (show i < 2 ^ 31 by omega), lN_mul, lN_add, lN_i, pk_lRem (y_sq ha hi) (show 0 < 65521 by decide) (show 65521 < 2 ^ 63 by decide)]
  rw [show (7919 * a + 6151 * i + 1) * (7919 * a + 6151 * i + 1) % 65521 = y_sd a i from rfl, y_rem2 (show y_sd a i < 2 ^ 31 by omega) (show 0 < 4 by decide) (by decide), y_add]
  obtain ⟨M', b1, b2, b3⟩ := c_drw48 hw1 (show y_sd a i < 2 ^ 31 by omega) (show y_sd a i % 4 + 1 ≤ 4 by omega) (some (nI a)) (some (nI i)) none (some (nI (y_sd a i))) (lN (7919 * a + 6151 * i + 1)) _ 0 M1 (Nat.zero_add _) hC1 hR
  rw [show y_sd a i / 4 ^ 0 = y_sd a i from Nat.div_one _] at b1
  exact ⟨M', b1, b2, hb.tr b3⟩
theorem y_dn_no {w : Nat} (hw : 1 ≤ w) (a i : Nat) : y_no w (y_dn w a i) := y_drw_no hw _ (by omega) (by omega)
def y_mt (f : Nat → Nat) : Nat → Nat
  | 0 => 0
  | n + 1 => y_mt f n + f n
def y_mu (f : Nat → Nat) : Nat → Nat
  | 0 => 0
  | n + 1 => y_mu f n + (if f n = 1 then 1 else 0)
