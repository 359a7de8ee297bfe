/-! the class's readings: printed from wip/whole/tpl by wip/whole/gen/tpl.py (paper and draft alike) -/
theorem y_rv_app (e : List Nat) (d : Nat) : y_rv (e ++ [d]) = y_rv e + (d + 1) * 10 ^ e.length := by
  induction e with
  | nil => show 10 * 0 + d + 1 = 0 + (d + 1) * 1; omega
  | cons a e ih =>
    show 10 * y_rv (e ++ [d]) + a + 1 = 10 * y_rv e + a + 1 + (d + 1) * 10 ^ (e.length + 1)
    rw [ih, Nat.pow_succ, ← Nat.mul_assoc]
    omega
theorem y_cd_snoc (e : List Nat) (d : Nat) : y_cd (e ++ [d]) = 10 * y_cd e + d + 1 := by
  unfold y_cd
  rw [List.reverse_append]
  rfl
theorem y_cd_cons (d : Nat) (e : List Nat) : y_cd (d :: e) = y_cd e + (d + 1) * 10 ^ e.length := by
  unfold y_cd
  rw [List.reverse_cons, y_rv_app, List.length_reverse]
theorem y_cd_nil : y_cd [] = 0 := rfl
theorem y_cd_lt10 {w : Nat} (hw : w ≤ 8) {e : List Nat} (h : ∀ d ∈ e, d < w) : y_cd e < 10 ^ e.length := by
  have h1 := y_rv_lt hw e.reverse (fun d hd => h d (List.mem_reverse.mp hd))
  rwa [List.length_reverse] at h1
theorem y_cd_app (e f : List Nat) : y_cd (e ++ f) = y_cd e * 10 ^ f.length + y_cd f := by
  induction f generalizing e with
  | nil => simp [y_cd_nil]
  | cons d f ih =>
    rw [show e ++ d :: f = (e ++ [d]) ++ f by simp, ih, y_cd_snoc, y_cd_cons, List.length_cons, Nat.pow_succ]
    rw [show (10 * y_cd e + d + 1) * 10 ^ f.length = y_cd e * (10 ^ f.length * 10) + (d + 1) * 10 ^ f.length by rw [Nat.add_assoc, Nat.add_mul]; congr 1; rw [Nat.mul_comm 10, Nat.mul_assoc, Nat.mul_comm 10]]
    omega
theorem y_sum_snoc (f : Nat → Nat) (e : List Nat) (d : Nat) : y_sum f (e ++ [d]) = y_sum f e + f d := by
  induction e with
  | nil => show f d + 0 = 0 + f d; omega
  | cons a e ih => show f a + y_sum f (e ++ [d]) = f a + y_sum f e + f d; rw [ih]; omega
theorem y_fd_snoc (f : Nat → Nat) (e : List Nat) (d k : Nat) : y_fd f k (e ++ [d]) = y_fd f k e + f d * (k + e.length + 1) := by
  induction e generalizing k with
  | nil => show f d * (k + 1) + 0 = 0 + f d * (k + 0 + 1); rw [Nat.add_zero, Nat.zero_add, Nat.add_zero]
  | cons a e ih =>
    show f a * (k + 1) + y_fd f (k + 1) (e ++ [d]) = f a * (k + 1) + y_fd f (k + 1) e + f d * (k + (e.length + 1) + 1)
    rw [ih, show k + 1 + e.length + 1 = k + (e.length + 1) + 1 by omega]
    omega
theorem y_sb_snoc (e : List Nat) (d s : Nat) : y_sb s (e ++ [d]) = y_sb s e ||| 2 ^ d := by
  induction e generalizing s with
  | nil => rfl
  | cons a e ih => exact ih (s ||| 2 ^ a)
theorem y_price_snoc {w : Nat} (hw : w ≤ 8) (pr : Nat → Nat) (e : List Nat) (d : Nat) (he : ∀ q ∈ e, q < w) (hd : d < w) : y_price pr (e ++ [d]) = y_price pr e + pr d + y_sb 0 e / 2 ^ d % 2 := by
  have hs := y_sb_lt e 0 (by omega) (fun q hq => by have := he q hq; omega)
  have h1 := y_on_or _ hs d (by omega)
  have h2 := y_sb_len e 0 (by omega) (fun q hq => by have := he q hq; omega)
  have h0 : y_ones 0 = 0 := by decide
  unfold y_price
  rw [y_sb_snoc, y_sum_snoc, List.length_append]
  simp only [List.length_cons, List.length_nil]
  have h3 := Nat.mod_lt (y_sb 0 e / 2 ^ d) (by decide : 0 < 2)
  omega
/-- a reading holds what a notice says -/
def y_Rd (c : Nat) (M : xM) (pr me ta : Nat → Nat) (e : List Nat) : Prop := M c 0 = nI (y_cd e) ∧ M c 1 = nI e.length ∧ M c 2 = nI (y_price pr e) ∧ M c 3 = nI (y_sb 0 e) ∧ M c 4 = nI (y_sum me e) ∧ M c 5 = nI (y_sum ta e) ∧ M c 6 = nI (y_fd ta 0 e)
theorem y_bit8 : ∀ s, s < 256 → ∀ k, k < 8 → ((nI s >>> (nI k &&& nI 31)) &&& nI 1) = nI (s / 2 ^ k % 2) := by decide +kernel
def y_pw (u : Nat) : Nat := if u = 0 then 0 else 10 ^ (u - 1)
theorem y_pw_s (u : Nat) : y_pw (u + 1) = 10 ^ u := by unfold y_pw; rw [if_neg (by omega)]; rfl
theorem y_pw_div (u : Nat) : 10 ^ u / 10 = y_pw u := by
  unfold y_pw
  cases u with
  | zero => rfl
  | succ u => rw [if_neg (by omega), Nat.pow_succ, Nat.mul_div_cancel _ (by decide)]; rfl
theorem y_m1 : nI 0 - nI 1 = -1 := by decide
theorem y_m1lt : (-1 : Int32) < nI 0 := by decide
theorem y_nn {n : Nat} (h : n < 2 ^ 31) : ¬ nI n < nI 0 := nI_pos h
/-- the p holds words -/
def y_CWp (M : xM) (w : Nat) (pr me ta : Nat → Nat) : Prop := w ≤ 8 ∧ M 3 6 = nI w ∧ (∀ j, j < w → M 4 j = nI (pr j) ∧ M 5 j = nI (me j) ∧ M 6 j = nI (ta j)) ∧ ∀ j, j < w → pr j ≤ 9 ∧ me j ≤ 9 ∧ ta j ≤ 9
def y_CRp (M : xM) (r : Nat) (ki wa : Nat → Nat) : Prop := r ≤ 6 ∧ M 3 7 = nI r ∧ (∀ i, i < r → M 7 i = nI (ki i) ∧ M 8 i = nI (wa i)) ∧ ∀ i, i < r → ki i ≤ 3 ∧ wa i ≤ 9
theorem y_CWp.keep {M M' : xM} {w : Nat} {pr me ta : Nat → Nat} (h : y_CWp M w pr me ta) (h1 : M' 3 = M 3) (h2 : M' 4 = M 4) (h3 : M' 5 = M 5) (h4 : M' 6 = M 6) : y_CWp M' w pr me ta := by
  unfold y_CWp at h ⊢
  rw [h1, h2, h3, h4]
  exact h
theorem y_CRp.keep {M M' : xM} {r : Nat} {ki wa : Nat → Nat} (h : y_CRp M r ki wa) (h1 : M' 3 = M 3) (h2 : M' 7 = M 7) (h3 : M' 8 = M 8) : y_CRp M' r ki wa := by
  unfold y_CRp at h ⊢
  rw [h1, h2, h3]
  exact h
section
variable {M : xM} {w : Nat} {pr me ta : Nat → Nat}
theorem c_hasWordp (hC : y_CWp M w pr me ta) {n : Nat} (hn : n < 2 ^ 31) : P_hasWord_p (nI n) M = some (if n < w then nI 1 else nI 0, M) := by
  have hw := hC.1
  rw [P_hasWord_p_eq, hC.2.1, if_neg (y_nn hn)]
  simp only [y_le (show w < 2 ^ 31 by omega) hn]
  by_cases h : w ≤ n
  · rw [if_pos h, if_neg (by omega)]
  · rw [if_neg h, if_pos (by omega)]
theorem c_hasWordp_neg {x : Int32} (hx : x < nI 0) : P_hasWord_p x M = some (nI 0, M) := by
  rw [P_hasWord_p_eq, if_pos hx]
set_option maxRecDepth 4000 in
theorem c_appendp (hC : y_CWp M w pr me ta) {e : List Nat} {d : Nat} (hR : y_Rd 25 M pr me ta e) (he : ∀ q ∈ e, q < w) (hd : d < w) : ∃ M', R_append_r_p (nI d) M = some (nI 0, M') ∧ y_Rd 25 M' pr me ta (e ++ [d]) ∧ y_but [25] M M' := by
  have hw := hC.1
  obtain ⟨v1, v2, v3⟩ := hC.2.2.1 d hd
  obtain ⟨h0, h1, h2, h3, h4, h5, h6⟩ := hR
  have hs := y_sb_lt e 0 (by omega) (fun q hq => by have := he q hq; omega)
  rw [R_append_r_p_eq, R_extend_r_r_p_eq, c_hasWordp hC (by omega), if_pos hd, Option.bind_some, if_neg (show ¬ nI 1 = nI 0 by decide)]
  simp only [y_in (show d < 8 by omega) (show 8 < 2 ^ 31 by decide), Option.bind_some]
  refine ⟨_, rfl, ?_, ?_⟩
  · simp only [y_clamp (show d < 2 ^ 31 by omega), v1, v2, v3, h0, h1, h2, h3, h4, h5, h6, y_add, y_mul, y_bit8 _ hs d (by omega), y_bit_or _ hs d (by omega)]
    unfold y_Rd
    rw [y_cd_snoc, y_price_snoc hw pr e d he hd, y_sb_snoc, y_sum_snoc, y_sum_snoc, y_fd_snoc, List.length_append]
    refine ⟨?_, ?_, ?_, ?_, ?_, ?_, ?_⟩
    · simp only [y_up_at]; simp; congr 1; omega
    · simp only [y_up_at]; simp
    · simp only [y_up_at]; simp
    · simp only [y_up_at]; simp
    · simp only [y_up_at]; simp
    · simp only [y_up_at]; simp
    · simp only [y_up_at]; simp
  · exact ((((((y_but.rf.up (by simp)).up (by simp)).up (by simp)).up (by simp)).up (by simp)).up (by simp)).up (by simp)
theorem c_measure8p {ds : List Nat} (hds : y_no w ds) : ∀ (u : Nat) (e f : List Nat) (M : xM), y_CWp M w pr me ta → ds = e ++ f → f.length ≤ u → (e ≠ [] → f.length = u) → u ≤ 5 → y_Rd 25 M pr me ta e → ∃ M', R_measure_r_p_8 (nI (y_cd ds)) (nI (y_pw u)) M = some (nI 0, M') ∧ y_Rd 25 M' pr me ta ds ∧ y_but [25] M M'
  | 0, e, f, M, hC, hs, hf, hn, hu, hR => by
    have hf0 : f = [] := List.length_eq_zero_iff.mp (by omega)
    subst hf0
    rw [List.append_nil] at hs
    subst hs
    refine ⟨M, ?_, hR, y_but.rf⟩
    rw [R_measure_r_p_8_eq, if_pos (by decide)]
  | u + 1, e, f, M, hC, hs, hf, hn, hu, hR => by
    have hw := hC.1
    have hcd := y_cd_lt hw hds
    have hpu : 10 ^ u ≤ 10 ^ 4 := Nat.pow_le_pow_right (by decide) (by omega)
    have hpu0 : 0 < 10 ^ u := Nat.pow_pos (by decide)
    have hall : ∀ q ∈ e ++ f, q < w := by rw [← hs]; exact hds.2.2
    rw [y_pw_s, R_measure_r_p_8_eq, if_neg (by rw [y_le (by omega) (by omega)]; omega), if_neg (by rw [y_eq (by omega) (by omega)]; omega), y_div (by omega) hpu0 (by omega), y_rem (Nat.lt_of_le_of_lt (Nat.div_le_self _ _) (by omega)), y_div (by omega) (by decide) (by decide), y_pw_div]
    by_cases hfu : f.length = u + 1
    · cases f with
      | nil => simp at hfu
      | cons d f =>
        simp only [List.length_cons] at hfu
        have hfl : f.length = u := by omega
        have hd : d < w := hall d (by simp)
        have hcf : y_cd f < 10 ^ u := by rw [← hfl]; exact y_cd_lt10 hw (fun q hq => hall q (by simp [hq]))
        have hdig : y_cd ds / 10 ^ u % 10 = d + 1 := by
          rw [hs, show e ++ d :: f = (e ++ [d]) ++ f by simp, y_cd_app, hfl, y_cd_snoc, Nat.add_comm, Nat.add_mul_div_right _ _ hpu0, Nat.div_eq_of_lt hcf]
          omega
        rw [hdig, y_sub (by omega), show d + 1 - 1 = d by omega]
        obtain ⟨M1, a1, a2, a3⟩ := c_appendp hC hR (fun q hq => hall q (List.mem_append_left _ hq)) hd
        rw [a1, Option.bind_some]
        obtain ⟨M2, b1, b2, b3⟩ := c_measure8p hds u (e ++ [d]) f M1 (hC.keep (a3 _ (by simp)) (a3 _ (by simp)) (a3 _ (by simp)) (a3 _ (by simp))) (by rw [hs]; simp) (by omega) (fun _ => hfl) (by omega) a2
        exact ⟨M2, b1, b2, a3.tr b3⟩
    · have he : e = [] := by
        cases e with
        | nil => rfl
        | cons a e => exact absurd (hn (by simp)) hfu
      subst he
      rw [List.nil_append] at hs
      subst hs
      have hlt : y_cd ds < 10 ^ u := Nat.lt_of_lt_of_le (y_cd_lt10 hw hds.2.2) (Nat.pow_le_pow_right (by decide) (by omega))
      rw [Nat.div_eq_of_lt hlt, show 0 % 10 = 0 from rfl, y_m1, R_append_r_p_eq, R_extend_r_r_p_eq, c_hasWordp_neg y_m1lt, Option.bind_some, if_pos rfl, Option.bind_some, Option.bind_some]
      exact c_measure8p hds u [] ds M hC rfl (by omega) (fun q => absurd rfl q) (by omega) hR
/-- measure -/
theorem c_measurep (hC : y_CWp M w pr me ta) {ds : List Nat} (hds : y_no w ds) : ∃ M', R_measure_r_p (nI (y_cd ds)) M = some (nI 0, M') ∧ y_Rd 25 M' pr me ta ds ∧ y_but [25] M M' := by
  rw [R_measure_r_p_eq, R_clear_r_eq, Option.bind_some]
  generalize hM1 : (x_up (x_up (x_up (x_up (x_up (x_up (x_up M 25 0 (nI 0)) 25 1 (nI 0)) 25 2 (nI 0)) 25 3 (nI 0)) 25 4 (nI 0)) 25 5 (nI 0)) 25 6 (nI 0)) = M1
  have hb : y_but [25] M M1 := by
    rw [← hM1]
    exact ((((((y_but.rf.up (by simp)).up (by simp)).up (by simp)).up (by simp)).up (by simp)).up (by simp)).up (by simp)
  have hR : y_Rd 25 M1 pr me ta [] := by
    rw [← hM1]
    refine ⟨?_, ?_, ?_, ?_, ?_, ?_, ?_⟩ <;> simp only [y_up_at] <;> rfl
  obtain ⟨M2, b1, b2, b3⟩ := c_measure8p hds 5 [] ds M1 (hC.keep (hb _ (by simp)) (hb _ (by simp)) (hb _ (by simp)) (hb _ (by simp))) rfl hds.2.1 (fun q => absurd rfl q) (by omega) hR
  exact ⟨M2, b1, b2, hb.tr b3⟩
end
/-- the d holds words -/
def y_CWd (M : xM) (w : Nat) (pr me ta : Nat → Nat) : Prop := w ≤ 8 ∧ M 10 6 = nI w ∧ (∀ j, j < w → M 11 j = nI (pr j) ∧ M 12 j = nI (me j) ∧ M 13 j = nI (ta j)) ∧ ∀ j, j < w → pr j ≤ 9 ∧ me j ≤ 9 ∧ ta j ≤ 9
def y_CRd (M : xM) (r : Nat) (ki wa : Nat → Nat) : Prop := r ≤ 6 ∧ M 10 7 = nI r ∧ (∀ i, i < r → M 14 i = nI (ki i) ∧ M 15 i = nI (wa i)) ∧ ∀ i, i < r → ki i ≤ 3 ∧ wa i ≤ 9
theorem y_CWd.keep {M M' : xM} {w : Nat} {pr me ta : Nat → Nat} (h : y_CWd M w pr me ta) (h1 : M' 10 = M 10) (h2 : M' 11 = M 11) (h3 : M' 12 = M 12) (h4 : M' 13 = M 13) : y_CWd M' w pr me ta := by
  unfold y_CWd at h ⊢
  rw [h1, h2, h3, h4]
  exact h
theorem y_CRd.keep {M M' : xM} {r : Nat} {ki wa : Nat → Nat} (h : y_CRd M r ki wa) (h1 : M' 10 = M 10) (h2 : M' 14 = M 14) (h3 : M' 15 = M 15) : y_CRd M' r ki wa := by
  unfold y_CRd at h ⊢
  rw [h1, h2, h3]
  exact h
section
variable {M : xM} {w : Nat} {pr me ta : Nat → Nat}
theorem c_hasWordd (hC : y_CWd M w pr me ta) {n : Nat} (hn : n < 2 ^ 31) : P_hasWord_d (nI n) M = some (if n < w then nI 1 else nI 0, M) := by
  have hw := hC.1
  rw [P_hasWord_d_eq, hC.2.1, if_neg (y_nn hn)]
  simp only [y_le (show w < 2 ^ 31 by omega) hn]
  by_cases h : w ≤ n
  · rw [if_pos h, if_neg (by omega)]
  · rw [if_neg h, if_pos (by omega)]
theorem c_hasWordd_neg {x : Int32} (hx : x < nI 0) : P_hasWord_d x M = some (nI 0, M) := by
  rw [P_hasWord_d_eq, if_pos hx]
set_option maxRecDepth 4000 in
theorem c_appendd (hC : y_CWd M w pr me ta) {e : List Nat} {d : Nat} (hR : y_Rd 25 M pr me ta e) (he : ∀ q ∈ e, q < w) (hd : d < w) : ∃ M', R_append_r_d (nI d) M = some (nI 0, M') ∧ y_Rd 25 M' pr me ta (e ++ [d]) ∧ y_but [25] M M' := by
  have hw := hC.1
  obtain ⟨v1, v2, v3⟩ := hC.2.2.1 d hd
  obtain ⟨h0, h1, h2, h3, h4, h5, h6⟩ := hR
  have hs := y_sb_lt e 0 (by omega) (fun q hq => by have := he q hq; omega)
  rw [R_append_r_d_eq, R_extend_r_r_d_eq, c_hasWordd hC (by omega), if_pos hd, Option.bind_some, if_neg (show ¬ nI 1 = nI 0 by decide)]
  simp only [y_in (show d < 8 by omega) (show 8 < 2 ^ 31 by decide), Option.bind_some]
  refine ⟨_, rfl, ?_, ?_⟩
  · simp only [y_clamp (show d < 2 ^ 31 by omega), v1, v2, v3, h0, h1, h2, h3, h4, h5, h6, y_add, y_mul, y_bit8 _ hs d (by omega), y_bit_or _ hs d (by omega)]
    unfold y_Rd
    rw [y_cd_snoc, y_price_snoc hw pr e d he hd, y_sb_snoc, y_sum_snoc, y_sum_snoc, y_fd_snoc, List.length_append]
    refine ⟨?_, ?_, ?_, ?_, ?_, ?_, ?_⟩
    · simp only [y_up_at]; simp; congr 1; omega
    · simp only [y_up_at]; simp
    · simp only [y_up_at]; simp
    · simp only [y_up_at]; simp
    · simp only [y_up_at]; simp
    · simp only [y_up_at]; simp
    · simp only [y_up_at]; simp
  · exact ((((((y_but.rf.up (by simp)).up (by simp)).up (by simp)).up (by simp)).up (by simp)).up (by simp)).up (by simp)
theorem c_measure8d {ds : List Nat} (hds : y_no w ds) : ∀ (u : Nat) (e f : List Nat) (M : xM), y_CWd M w pr me ta → ds = e ++ f → f.length ≤ u → (e ≠ [] → f.length = u) → u ≤ 5 → y_Rd 25 M pr me ta e → ∃ M', R_measure_r_d_8 (nI (y_cd ds)) (nI (y_pw u)) M = some (nI 0, M') ∧ y_Rd 25 M' pr me ta ds ∧ y_but [25] M M'
  | 0, e, f, M, hC, hs, hf, hn, hu, hR => by
    have hf0 : f = [] := List.length_eq_zero_iff.mp (by omega)
    subst hf0
    rw [List.append_nil] at hs
    subst hs
    refine ⟨M, ?_, hR, y_but.rf⟩
    rw [R_measure_r_d_8_eq, if_pos (by decide)]
  | u + 1, e, f, M, hC, hs, hf, hn, hu, hR => by
    have hw := hC.1
    have hcd := y_cd_lt hw hds
    have hpu : 10 ^ u ≤ 10 ^ 4 := Nat.pow_le_pow_right (by decide) (by omega)
    have hpu0 : 0 < 10 ^ u := Nat.pow_pos (by decide)
    have hall : ∀ q ∈ e ++ f, q < w := by rw [← hs]; exact hds.2.2
    rw [y_pw_s, R_measure_r_d_8_eq, if_neg (by rw [y_le (by omega) (by omega)]; omega), if_neg (by rw [y_eq (by omega) (by omega)]; omega), y_div (by omega) hpu0 (by omega), y_rem (Nat.lt_of_le_of_lt (Nat.div_le_self _ _) (by omega)), y_div (by omega) (by decide) (by decide), y_pw_div]
    by_cases hfu : f.length = u + 1
    · cases f with
      | nil => simp at hfu
      | cons d f =>
        simp only [List.length_cons] at hfu
        have hfl : f.length = u := by omega
        have hd : d < w := hall d (by simp)
        have hcf : y_cd f < 10 ^ u := by rw [← hfl]; exact y_cd_lt10 hw (fun q hq => hall q (by simp [hq]))
        have hdig : y_cd ds / 10 ^ u % 10 = d + 1 := by
          rw [hs, show e ++ d :: f = (e ++ [d]) ++ f by simp, y_cd_app, hfl, y_cd_snoc, Nat.add_comm, Nat.add_mul_div_right _ _ hpu0, Nat.div_eq_of_lt hcf]
          omega
        rw [hdig, y_sub (by omega), show d + 1 - 1 = d by omega]
        obtain ⟨M1, a1, a2, a3⟩ := c_appendd hC hR (fun q hq => hall q (List.mem_append_left _ hq)) hd
        rw [a1, Option.bind_some]
        obtain ⟨M2, b1, b2, b3⟩ := c_measure8d hds u (e ++ [d]) f M1 (hC.keep (a3 _ (by simp)) (a3 _ (by simp)) (a3 _ (by simp)) (a3 _ (by simp))) (by rw [hs]; simp) (by omega) (fun _ => hfl) (by omega) a2
        exact ⟨M2, b1, b2, a3.tr b3⟩
    · have he : e = [] := by
        cases e with
        | nil => rfl
        | cons a e => exact absurd (hn (by simp)) hfu
      subst he
      rw [List.nil_append] at hs
      subst hs
      have hlt : y_cd ds < 10 ^ u := Nat.lt_of_lt_of_le (y_cd_lt10 hw hds.2.2) (Nat.pow_le_pow_right (by decide) (by omega))
      rw [Nat.div_eq_of_lt hlt, show 0 % 10 = 0 from rfl, y_m1, R_append_r_d_eq, R_extend_r_r_d_eq, c_hasWordd_neg y_m1lt, Option.bind_some, if_pos rfl, Option.bind_some, Option.bind_some]
      exact c_measure8d hds u [] ds M hC rfl (by omega) (fun q => absurd rfl q) (by omega) hR
/-- measure -/
theorem c_measured (hC : y_CWd M w pr me ta) {ds : List Nat} (hds : y_no w ds) : ∃ M', R_measure_r_d (nI (y_cd ds)) M = some (nI 0, M') ∧ y_Rd 25 M' pr me ta ds ∧ y_but [25] M M' := by
  rw [R_measure_r_d_eq, R_clear_r_eq, Option.bind_some]
  generalize hM1 : (x_up (x_up (x_up (x_up (x_up (x_up (x_up M 25 0 (nI 0)) 25 1 (nI 0)) 25 2 (nI 0)) 25 3 (nI 0)) 25 4 (nI 0)) 25 5 (nI 0)) 25 6 (nI 0)) = M1
  have hb : y_but [25] M M1 := by
    rw [← hM1]
    exact ((((((y_but.rf.up (by simp)).up (by simp)).up (by simp)).up (by simp)).up (by simp)).up (by simp)).up (by simp)
  have hR : y_Rd 25 M1 pr me ta [] := by
    rw [← hM1]
    refine ⟨?_, ?_, ?_, ?_, ?_, ?_, ?_⟩ <;> simp only [y_up_at] <;> rfl
  obtain ⟨M2, b1, b2, b3⟩ := c_measure8d hds 5 [] ds M1 (hC.keep (hb _ (by simp)) (hb _ (by simp)) (hb _ (by simp)) (hb _ (by simp))) rfl hds.2.1 (fun q => absurd rfl q) (by omega) hR
  exact ⟨M2, b1, b2, hb.tr b3⟩
end
