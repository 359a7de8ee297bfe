/-! column -/
/-- what those in a set come to -/
def y_tg (f : Nat → Nat) (s : Nat) : Nat → Nat
  | 0 => 0
  | n + 1 => y_tg f s n + (if s / 2 ^ n % 2 = 1 then f n else 0)
theorem y_tg_s (f : Nat → Nat) (s n : Nat) : y_tg f s (n + 1) = y_tg f s n + (if s / 2 ^ n % 2 = 1 then f n else 0) := rfl
theorem y_tg_le {f : Nat → Nat} {s b : Nat} : ∀ n, (∀ k, k < n → f k ≤ b) → y_tg f s n ≤ b * n
  | 0, _ => Nat.zero_le _
  | n + 1, h => by
    have h1 := y_tg_le (s := s) n (fun k hk => h k (by omega))
    have h2 := h n (by omega)
    rw [y_tg_s, Nat.mul_succ]
    split <;> omega
theorem y_hb {s K i : Nat} (hs : s < 2 ^ K) (hi : K ≤ i) : s / 2 ^ i % 2 = 0 := by
  have h : 2 ^ K ≤ 2 ^ i := Nat.pow_le_pow_right (by decide) hi
  rw [Nat.div_eq_of_lt (by omega)]
theorem y_tg_hi {f : Nat → Nat} {s K : Nat} (hs : s < 2 ^ K) : ∀ n, y_tg f s (K + n) = y_tg f s K
  | 0 => rfl
  | n + 1 => by
    rw [← Nat.add_assoc, y_tg_s, y_hb hs (show K ≤ K + n by omega), y_tg_hi hs n]
    rfl
theorem y_tg_z (f : Nat → Nat) : ∀ n, y_tg f 0 n = 0
  | 0 => rfl
  | n + 1 => by rw [y_tg_s, y_tg_z f n]; simp
/-- the best of the sets below n -/
def y_col (pf lf : Nat → Nat) (K l : Nat) : Nat → Nat × Nat
  | 0 => (0, 0)
  | n + 1 => if (y_col pf lf K l n).2 < y_tg pf n K ∧ y_tg lf n K ≤ l then (n, y_tg pf n K) else y_col pf lf K l n
theorem y_col_s (pf lf : Nat → Nat) (K l n : Nat) : y_col pf lf K l (n + 1) = if (y_col pf lf K l n).2 < y_tg pf n K ∧ y_tg lf n K ≤ l then (n, y_tg pf n K) else y_col pf lf K l n := rfl
theorem y_col_1 (pf lf : Nat → Nat) (K l : Nat) : y_col pf lf K l 1 = (0, 0) := by
  rw [y_col_s, y_tg_z]
  rfl
theorem y_col_le {pf lf : Nat → Nat} {K l b : Nat} (h : ∀ k, k < K → pf k ≤ b) : ∀ n, (y_col pf lf K l n).2 ≤ b * K ∧ (y_col pf lf K l n).1 ≤ n
  | 0 => ⟨Nat.zero_le _, Nat.zero_le _⟩
  | n + 1 => by
    have ih := y_col_le (lf := lf) (l := l) h n
    rw [y_col_s]
    split
    · exact ⟨y_tg_le K h, by show n ≤ n + 1; omega⟩
    · exact ⟨ih.1, by omega⟩
theorem y_price_50 {w : Nat} {pr : Nat → Nat} {ds : List Nat} (hf : ∀ j, j < w → pr j ≤ 9) (hds : y_no w ds) : y_price pr ds ≤ 50 := by
  have h := y_sum_9 hf hds
  have := hds.2.1
  unfold y_price
  omega
theorem y_sh7 : ∀ d, d < 7 → (nI 1 <<< (nI d &&& nI 31)) = nI (2 ^ d) := by decide +kernel
theorem f_fc4 {M : xM} {pf : Nat → Nat} {K s : Nat} (hK : K ≤ 6) (hs : s < 2 ^ K) (hb : ∀ k, k < K → pf k ≤ 100) (hM : ∀ k, k < K → M 38 k = nI (pf k)) : ∀ (n i : Nat), i + n = 6 → F_together_fc_4 (nI s) (nI (y_tg pf s i)) (nI i) M = some (nI (y_tg pf s 6), M)
  | 0, i, h => by rw [F_together_fc_4_eq, if_pos (by rw [y_le (by omega) (by omega)]; omega), show i = 6 by omega]
  | n + 1, i, h => by
    have hp : 2 ^ K ≤ 2 ^ 6 := Nat.pow_le_pow_right (by decide) hK
    have ih := f_fc4 hK hs hb hM n (i + 1) (by omega)
    rw [y_tg_s] at ih
    rw [F_together_fc_4_eq, if_neg (by rw [y_le (by omega) (by omega)]; omega), y_bit1 s (by omega) i (by omega)]
    simp only [y_eq (show s / 2 ^ i % 2 < 2 ^ 31 by omega) (show 1 < 2 ^ 31 by decide), y_in2 (show i < 6 by omega) (show 6 < 2 ^ 31 by decide), y_clamp (show i < 2 ^ 31 by omega)]
    by_cases e : s / 2 ^ i % 2 = 1
    · have hi : i < K := by
        by_cases q : i < K
        · exact q
        · rw [y_hb hs (by omega)] at e; omega
      rw [if_pos e] at ih ⊢
      rw [hM i hi, y_add, y_add]
      exact ih
    · rw [if_neg e] at ih ⊢
      rw [y_add, y_add]
      exact ih
theorem f_fl4 {M : xM} {pf : Nat → Nat} {K s : Nat} (hK : K ≤ 6) (hs : s < 2 ^ K) (hb : ∀ k, k < K → pf k ≤ 100) (hM : ∀ k, k < K → M 39 k = nI (pf k)) : ∀ (n i : Nat), i + n = 6 → F_together_fl_4 (nI s) (nI (y_tg pf s i)) (nI i) M = some (nI (y_tg pf s 6), M)
  | 0, i, h => by rw [F_together_fl_4_eq, if_pos (by rw [y_le (by omega) (by omega)]; omega), show i = 6 by omega]
  | n + 1, i, h => by
    have hp : 2 ^ K ≤ 2 ^ 6 := Nat.pow_le_pow_right (by decide) hK
    have ih := f_fl4 hK hs hb hM n (i + 1) (by omega)
    rw [y_tg_s] at ih
    rw [F_together_fl_4_eq, if_neg (by rw [y_le (by omega) (by omega)]; omega), y_bit1 s (by omega) i (by omega)]
    simp only [y_eq (show s / 2 ^ i % 2 < 2 ^ 31 by omega) (show 1 < 2 ^ 31 by decide), y_in2 (show i < 6 by omega) (show 6 < 2 ^ 31 by decide), y_clamp (show i < 2 ^ 31 by omega)]
    by_cases e : s / 2 ^ i % 2 = 1
    · have hi : i < K := by
        by_cases q : i < K
        · exact q
        · rw [y_hb hs (by omega)] at e; omega
      rw [if_pos e] at ih ⊢
      rw [hM i hi, y_add, y_add]
      exact ih
    · rw [if_neg e] at ih ⊢
      rw [y_add, y_add]
      exact ih
theorem f_fc {M : xM} {pf : Nat → Nat} {K s : Nat} (hK : K ≤ 6) (hs : s < 2 ^ K) (hb : ∀ k, k < K → pf k ≤ 100) (hM : ∀ k, k < K → M 38 k = nI (pf k)) : F_together_fc (nI s) M = some (nI (y_tg pf s K), M) := by
  have e := f_fc4 hK hs hb hM 6 0 (by omega)
  have h6 := y_tg_hi (f := pf) hs (6 - K)
  rw [show K + (6 - K) = 6 by omega] at h6
  rw [h6] at e
  rw [F_together_fc_eq]
  exact e
theorem f_fl {M : xM} {pf : Nat → Nat} {K s : Nat} (hK : K ≤ 6) (hs : s < 2 ^ K) (hb : ∀ k, k < K → pf k ≤ 100) (hM : ∀ k, k < K → M 39 k = nI (pf k)) : F_together_fl (nI s) M = some (nI (y_tg pf s K), M) := by
  have e := f_fl4 hK hs hb hM 6 0 (by omega)
  have h6 := y_tg_hi (f := pf) hs (6 - K)
  rw [show K + (6 - K) = 6 by omega] at h6
  rw [h6] at e
  rw [F_together_fl_eq]
  exact e
theorem y_min6 {K : Nat} (h : K ≤ 6) : x_min (nI K) (nI 6) = nI K := by
  unfold x_min
  rw [if_neg (by rw [y_lt (by omega) (by omega)]; omega)]
theorem f_so12 {pf lf : Nat → Nat} {K l : Nat} (hK : K ≤ 6) (hl : l ≤ 30) (hp : ∀ k, k < K → pf k ≤ 100) (hf : ∀ k, k < K → lf k ≤ 100) : ∀ (n s : Nat) (o : Option Int32) (M : xM), s + n = 2 ^ K → (∀ k, k < K → M 38 k = nI (pf k)) → (∀ k, k < K → M 39 k = nI (lf k)) → M 37 2 = nI (y_col pf lf K l s).1 → M 37 3 = nI (y_col pf lf K l s).2 → ∃ M', F_solve_f_12 (nI K) (nI l) (nI s) o M = some (nI 0, M') ∧ M' 37 2 = nI (y_col pf lf K l (2 ^ K)).1 ∧ M' 37 3 = nI (y_col pf lf K l (2 ^ K)).2 ∧ y_but [37] M M'
  | 0, s, o, M, h, h8, h9, h2, h3 => by
    have hp2 : 2 ^ K ≤ 2 ^ 6 := Nat.pow_le_pow_right (by decide) hK
    refine ⟨M, ?_, ?_, ?_, y_but.rf⟩
    · rw [F_solve_f_12_eq, y_min6 hK, y_sh7 K (by omega), if_pos (by rw [y_le (by omega) (by omega)]; omega)]
    · rw [h2, show s = 2 ^ K by omega]
    · rw [h3, show s = 2 ^ K by omega]
  | n + 1, s, o, M, h, h8, h9, h2, h3 => by
    have hp2 : 2 ^ K ≤ 2 ^ 6 := Nat.pow_le_pow_right (by decide) hK
    have c1 := (y_col_le (lf := lf) (l := l) hp s).1
    have c2 : 100 * K ≤ 100 * 6 := Nat.mul_le_mul (Nat.le_refl _) hK
    have t1 := y_tg_le (s := s) K hp
    have t2 := y_tg_le (s := s) K hf
    rw [F_solve_f_12_eq, y_min6 hK, y_sh7 K (by omega), if_neg (by rw [y_le (by omega) (by omega)]; omega), f_fc hK (by omega) hp h8, Option.bind_some]
    simp only [h3, y_le (show y_tg pf s K < 2 ^ 31 by omega) (show (y_col pf lf K l s).2 < 2 ^ 31 by omega), f_fl hK (show s < 2 ^ K by omega) hf h9, Option.bind_some, y_lt (show l < 2 ^ 31 by omega) (show y_tg lf s K < 2 ^ 31 by omega), y_add]
    by_cases e1 : y_tg pf s K ≤ (y_col pf lf K l s).2
    · rw [if_pos e1]
      have hc : y_col pf lf K l (s + 1) = y_col pf lf K l s := by rw [y_col_s, if_neg (by omega)]
      exact f_so12 hK hl hp hf n (s + 1) _ M (by omega) h8 h9 (by rw [hc]; exact h2) (by rw [hc]; exact h3)
    · rw [if_neg e1]
      by_cases e2 : l < y_tg lf s K
      · rw [if_pos e2]
        have hc : y_col pf lf K l (s + 1) = y_col pf lf K l s := by rw [y_col_s, if_neg (by omega)]
        exact f_so12 hK hl hp hf n (s + 1) _ M (by omega) h8 h9 (by rw [hc]; exact h2) (by rw [hc]; exact h3)
      · rw [if_neg e2]
        have hc : y_col pf lf K l (s + 1) = (s, y_tg pf s K) := by rw [y_col_s, if_pos (by omega)]
        obtain ⟨M', a1, a2, a3, a4⟩ := f_so12 hK hl hp hf n (s + 1) (some (nI (y_tg pf s K))) (x_up (x_up M 37 2 (nI s)) 37 3 (nI (y_tg pf s K))) (by omega) (fun k hk => by simp only [y_up_at]; simpa using h8 k hk) (fun k hk => by simp only [y_up_at]; simpa using h9 k hk) (by rw [hc]; simp only [y_up_at]; simp) (by rw [hc]; simp only [y_up_at]; simp)
        exact ⟨M', a1, a2, a3, ((y_but.rf.up (by simp)).up (by simp)).tr a4⟩
theorem y_CQ.keep2 {M M' : xM} {w : Nat} {pr me ta : Nat → Nat} {K : Nat} {no : Nat → List Nat} (h : y_CQ M w pr me ta K no) (hb : y_but [25, 37, 38, 39] M M') : y_CQ M' w pr me ta K no := by
  obtain ⟨h1, h2, h3, h4⟩ := h
  refine ⟨h1.keep (hb _ (by decide)) (hb _ (by decide)) (hb _ (by decide)) (hb _ (by decide)), h2, by rw [hb 3 (by decide)]; exact h3, fun k hk => by rw [hb 9 (by decide)]; exact h4 k hk⟩
def y_pf (pr : Nat → Nat) (no : Nat → List Nat) (k : Nat) : Nat := y_price pr (no k)
def y_lf (no : Nat → List Nat) (k : Nat) : Nat := (no k).length
section
variable {w : Nat} {pr me ta : Nat → Nat} {K l : Nat} {no : Nat → List Nat}
def y_ca (pr : Nat → Nat) (no : Nat → List Nat) (K l : Nat) (x : Int32) : Int32 := if x = nI 0 then nI (y_col (y_pf pr no) (y_lf no) K l (2 ^ K)).1 else nI (y_col (y_pf pr no) (y_lf no) K l (2 ^ K)).2
theorem c_cl21 (hl : l ≤ 30) (x : Int32) : ∀ (n i : Nat) (M : xM), i + n = K → y_CQ M w pr me ta K no → (∀ k, k < i → M 38 k = nI (y_pf pr no k)) → (∀ k, k < i → M 39 k = nI (y_lf no k)) → ∃ M', C_column_21 (nI l) x (nI i) M = some (y_ca pr no K l x, M') ∧ y_but [25, 37, 38, 39] M M'
  | 0, i, M, h, hQ, h8, h9 => by
    obtain ⟨hCW, hK, h3, hk⟩ := id hQ
    have hp : ∀ k, k < K → y_pf pr no k ≤ 100 := fun k hkk => by have := y_price_50 (fun j hj => (hCW.2.2.2 j hj).1) (hk k hkk).1; unfold y_pf; omega
    have hf : ∀ k, k < K → y_lf no k ≤ 100 := fun k hkk => by have := (hk k hkk).1.2.1; unfold y_lf; omega
    have he : i = K := by omega
    subst he
    have hp2 : 1 ≤ 2 ^ i := Nat.two_pow_pos i
    obtain ⟨M', a1, a2, a3, a4⟩ := f_so12 hK hl hp hf (2 ^ i - 1) 1 none (x_up (x_up M 37 2 (nI 0)) 37 3 (nI 0)) (by omega) (fun k hk => by simp only [y_up_at]; simpa using h8 k hk) (fun k hk => by simp only [y_up_at]; simpa using h9 k hk) (by rw [y_col_1]; simp only [y_up_at]; simp) (by rw [y_col_1]; simp only [y_up_at]; simp)
    refine ⟨M', ?_, ((y_but.rf.up (by simp)).up (by simp)).tr (a4.mono (by decide))⟩
    rw [C_column_21_eq, h3, if_pos (by rw [y_le (by omega) (by omega)]; omega), F_solve_f_eq, a1, Option.bind_some]
    simp only [a2, a3]
    unfold y_ca
    split <;> rfl
  | n + 1, i, M, h, hQ, h8, h9 => by
    obtain ⟨hCW, hK, h3, hk⟩ := id hQ
    obtain ⟨hds, hcd⟩ := hk i (by omega)
    obtain ⟨M1, m1, m2, m3⟩ := c_measurep hCW hds
    have b1 : y_but [25, 37, 38, 39] M (x_up (x_up M1 38 i (M1 25 2)) 39 i (M1 25 1)) := ((m3.mono (by decide)).up (by simp)).up (by simp)
    obtain ⟨M', a1, a2⟩ := c_cl21 hl x n (i + 1) (x_up (x_up M1 38 i (M1 25 2)) 39 i (M1 25 1)) (by omega) (hQ.keep2 b1) (fun k hkk => by
      simp only [y_up_at]
      by_cases e : k = i
      · simp [e]
        exact m2.2.2.1
      · simp [e]
        rw [m3 38 (by decide)]
        exact h8 k (by omega)) (fun k hkk => by
      simp only [y_up_at]
      by_cases e : k = i
      · simp [e]
        exact m2.2.1
      · simp [e]
        rw [m3 39 (by decide)]
        exact h9 k (by omega))
    refine ⟨M', ?_, b1.tr a2⟩
    rw [C_column_21_eq, h3, if_neg (by rw [y_le (by omega) (by omega)]; omega)]
    simp only [y_in2 (show i < 6 by omega) (show 6 < 2 ^ 31 by decide), y_clamp (show i < 2 ^ 31 by omega), hcd, m1, Option.bind_some, y_add]
    exact a1
theorem k_cl51 {M : xM} (hQ : y_KQ M w pr me ta K no) (x1 x2 x3 x4 : Int32) {s : Nat} (hs : s < 2 ^ K) : ∀ (n i : Nat) (o9 : Option Int32), i + n = K → ∃ o, K_column_51 x1 x2 x3 x4 (nI s) (nI (y_tg (y_lf no) s i)) (nI (y_tg (y_pf pr no) s i)) (nI i) o9 M = (if x1 < nI (y_tg (y_lf no) s K) then K_column_29 x1 x2 x3 x4 (nI (s + 1)) (some (nI (y_tg (y_lf no) s K))) (some (nI (y_tg (y_pf pr no) s K))) (some (nI 0)) o M else if nI (y_tg (y_pf pr no) s K) ≤ x4 then K_column_29 x1 x2 x3 x4 (nI (s + 1)) (some (nI (y_tg (y_lf no) s K))) (some (nI (y_tg (y_pf pr no) s K))) (some (nI 0)) o M else K_column_29 x1 x2 (nI s) (nI (y_tg (y_pf pr no) s K)) (nI (s + 1)) (some (nI (y_tg (y_lf no) s K))) (some (nI (y_tg (y_pf pr no) s K))) (some (nI 1)) o M)
  | 0, i, o9, h => by
    have hK := hQ.2.1
    refine ⟨o9, ?_⟩
    rw [K_column_51_eq, hQ.2.2.1, if_pos (by rw [y_le (by omega) (by omega)]; omega), y_add, show i = K by omega]
  | n + 1, i, o9, h => by
    obtain ⟨hKW, hK, h0, hk⟩ := id hQ
    obtain ⟨hds, hcd⟩ := hk i (by omega)
    have hp : 2 ^ K ≤ 2 ^ 6 := Nat.pow_le_pow_right (by decide) hK
    by_cases e : s / 2 ^ i % 2 = 1
    · obtain ⟨o, ih⟩ := k_cl51 hQ x1 x2 x3 x4 hs n (i + 1) (some (nI 1)) (by omega)
      refine ⟨o, ?_⟩
      rw [y_tg_s, y_tg_s, if_pos e, if_pos e] at ih
      rw [← ih, K_column_51_eq, h0, if_neg (by rw [y_le (by omega) (by omega)]; omega), y_bit1 s (by omega) i (by omega)]
      simp only [y_eq (show s / 2 ^ i % 2 < 2 ^ 31 by omega) (show 1 < 2 ^ 31 by decide), if_pos e, y_add, y_in2 (show 1 + i < 15 by omega) (show 15 < 2 ^ 31 by decide), y_clamp (show 1 + i < 2 ^ 31 by omega), hcd, k_long_ds hKW.1 hKW.2.1 hds, k_priceOf hKW hds, Option.bind_some]
      rfl
    · obtain ⟨o, ih⟩ := k_cl51 hQ x1 x2 x3 x4 hs n (i + 1) (some (nI 0)) (by omega)
      refine ⟨o, ?_⟩
      rw [y_tg_s, y_tg_s, if_neg e, if_neg e] at ih
      rw [← ih, K_column_51_eq, h0, if_neg (by rw [y_le (by omega) (by omega)]; omega), y_bit1 s (by omega) i (by omega)]
      simp only [y_eq (show s / 2 ^ i % 2 < 2 ^ 31 by omega) (show 1 < 2 ^ 31 by decide), if_neg e, y_add]
theorem k_cl29 {M : xM} (hQ : y_KQ M w pr me ta K no) (hl : l ≤ 30) (x : Int32) : ∀ (n s : Nat) (o6 o7 o8 o9 : Option Int32), s + n = 2 ^ K → K_column_29 (nI l) x (nI (y_col (y_pf pr no) (y_lf no) K l s).1) (nI (y_col (y_pf pr no) (y_lf no) K l s).2) (nI s) o6 o7 o8 o9 M = some (y_ca pr no K l x, M)
  | 0, s, o6, o7, o8, o9, h => by
    have hK := hQ.2.1
    have hp : 2 ^ K ≤ 2 ^ 6 := Nat.pow_le_pow_right (by decide) hK
    rw [K_column_29_eq, hQ.2.2.1, y_sh7 K (by omega), if_pos (by rw [y_le (by omega) (by omega)]; omega), show s = 2 ^ K by omega]
    unfold y_ca
    split <;> rfl
  | n + 1, s, o6, o7, o8, o9, h => by
    obtain ⟨hKW, hK, h0, hk⟩ := id hQ
    have hp2 : 2 ^ K ≤ 2 ^ 6 := Nat.pow_le_pow_right (by decide) hK
    have hp : ∀ k, k < K → y_pf pr no k ≤ 100 := fun k hkk => by have := y_price_50 (fun j hj => (hKW.2.2.2 j hj).1) (hk k hkk).1; unfold y_pf; omega
    have hf : ∀ k, k < K → y_lf no k ≤ 100 := fun k hkk => by have := (hk k hkk).1.2.1; unfold y_lf; omega
    have c1 := (y_col_le (lf := y_lf no) (l := l) hp s).1
    have c2 : 100 * K ≤ 100 * 6 := Nat.mul_le_mul (Nat.le_refl _) hK
    have t1 := y_tg_le (s := s) K hp
    have t2 := y_tg_le (s := s) K hf
    obtain ⟨o, e⟩ := k_cl51 hQ (nI l) x (nI (y_col (y_pf pr no) (y_lf no) K l s).1) (nI (y_col (y_pf pr no) (y_lf no) K l s).2) (show s < 2 ^ K by omega) K 0 o9 (by omega)
    rw [K_column_29_eq, h0, y_sh7 K (by omega), if_neg (by rw [y_le (by omega) (by omega)]; omega)]
    refine Eq.trans e ?_
    have ih := fun o6 o7 o8 => k_cl29 hQ hl x n (s + 1) o6 o7 o8 o (by omega)
    rw [y_col_s] at ih
    simp only [y_lt (show l < 2 ^ 31 by omega) (show y_tg (y_lf no) s K < 2 ^ 31 by omega), y_le (show y_tg (y_pf pr no) s K < 2 ^ 31 by omega) (show (y_col (y_pf pr no) (y_lf no) K l s).2 < 2 ^ 31 by omega)]
    by_cases e1 : l < y_tg (y_lf no) s K
    · rw [if_neg (by omega)] at ih
      rw [if_pos e1]
      exact ih _ _ _
    · rw [if_neg e1]
      by_cases e2 : y_tg (y_pf pr no) s K ≤ (y_col (y_pf pr no) (y_lf no) K l s).2
      · rw [if_neg (by omega)] at ih
        rw [if_pos e2]
        exact ih _ _ _
      · rw [if_pos (by omega)] at ih
        rw [if_neg e2]
        exact ih _ _ _
theorem k_cl0 {M : xM} (hQ : y_KQ M w pr me ta K no) (hl : l ≤ 30) (x : Int32) : K_column_29 (nI l) x (nI 0) (-1 : Int32) (nI 0) none none none none M = some (y_ca pr no K l x, M) := by
  obtain ⟨hKW, hK, h0, hk⟩ := id hQ
  have hp2 : 2 ^ K ≤ 2 ^ 6 := Nat.pow_le_pow_right (by decide) hK
  have hp1 : 1 ≤ 2 ^ K := Nat.two_pow_pos K
  obtain ⟨o, e⟩ := k_cl51 hQ (nI l) x (nI 0) (-1 : Int32) (show 0 < 2 ^ K by omega) K 0 none (by omega)
  rw [K_column_29_eq, h0, y_sh7 K (by omega), if_neg (by rw [y_le (by omega) (by omega)]; omega)]
  refine Eq.trans e ?_
  rw [y_tg_z, y_tg_z, if_neg (y_nn (by omega)), if_neg (show ¬ nI 0 ≤ (-1 : Int32) by decide)]
  have ih := k_cl29 hQ hl x (2 ^ K - 1) 1 (some (nI 0)) (some (nI 0)) (some (nI 1)) o (by omega)
  rw [y_col_1] at ih
  exact ih
end
theorem op_column {M : xM} (h : y_Inv M) (x y : Int32) : y_op (C_column x y) (K_column x y) M := by
  obtain ⟨w, pr, me, r, ki, wa, N, nt, tx, nc, ch, nk, kp, nh, th, hI⟩ := id h
  obtain ⟨hQ, hQ2⟩ := hI.CQ
  have hC := C_column_eq x y M
  have hK := fun M => K_column_eq x y M
  simp only [c_within0 (show 30 < 2 ^ 29 by decide), Option.bind_some, y_b0, c_either] at hC
  simp only [k_in0 (show 30 < 2 ^ 29 by decide), k_in0 (show 1 < 2 ^ 29 by decide), Option.bind_some, y_b0] at hK
  by_cases hx : y_inb x (30 + 1) = true
  · rw [if_pos hx] at hC
    simp only [if_pos hx] at hK
    by_cases hy : y_inb y 2 = true
    · rw [if_pos hy] at hC
      simp only [show y_inb y (1 + 1) = true from hy, if_true] at hK
      obtain ⟨l, hl, rfl⟩ := y_inb_t hx
      obtain ⟨M1, a1, a2⟩ := c_cl21 (show l ≤ 30 by omega) y N.1 0 M (by omega) hQ (fun k hk => by omega) (fun k hk => by omega)
      have a3 : y_but y_scr M M1 := a2.mono (by decide)
      have e := k_cl0 (hI.scr a3).CQ.2 (show l ≤ 30 by omega) y
      exact y_op.ro h (hC.trans a1) ((hK M1).trans e) a3 y_but.rf
    · rw [if_neg hy] at hC
      have hK := hK M
      rw [if_neg (show ¬ y_inb y (1 + 1) = true from hy)] at hK
      exact y_op.same h hC hK
  · rw [if_neg hx] at hC
    have hK := hK M
    rw [if_neg hx] at hK
    exact y_op.same h hC hK
