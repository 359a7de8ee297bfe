/-! matched, by the class -/
theorem y_who_ab {me ta ki wa : Nat → Nat} {no : Nat → List Nat} {k r i : Nat} (hi : i < r) : y_who me ta ki wa (no k) r / 2 ^ i % 2 = y_ab me ta ki wa no k i := by
  have h := y_who_bit me ta ki wa (no k) i r
  rw [Nat.testBit_eq_decide_div_mod_eq] at h
  have h2 := Nat.mod_lt (y_who me ta ki wa (no k) r / 2 ^ i) (show 0 < 2 by decide)
  unfold y_ab
  by_cases q : y_read me ta (ki i) (no k) = wa i
  · rw [if_pos q]
    simpa [q, hi] using h
  · rw [if_neg q]
    simp [q] at h
    omega
theorem y_xmax {a b : Nat} (ha : a < 2 ^ 31) (hb : b < 2 ^ 31) : x_max (nI a) (nI b) = nI (max a b) := by
  unfold x_max
  by_cases h : a < b
  · rw [if_pos (by rw [y_lt ha hb]; exact h), Nat.max_eq_right (by omega)]
  · rw [if_neg (by rw [y_lt ha hb]; exact h), Nat.max_eq_left (by omega)]
theorem y_or_r {g i r : Nat} (hg : g < 2 ^ r) (hi : i < r) : g ||| 2 ^ i < 2 ^ r := Nat.or_lt_two_pow hg (Nat.pow_lt_pow_right (by decide) hi)
section
variable {w : Nat} {pr me ta : Nat → Nat} {K r : Nat} {no : Nat → List Nat} {ki wa : Nat → Nat}
/-- who answers each notice -/
def y_A34 (M : xM) (me ta ki wa : Nat → Nat) (no : Nat → List Nat) (K r : Nat) : Prop := ∀ k, k < K → M 34 k = nI (y_who me ta ki wa (no k) r)
/-- the table, from the last n notices on -/
def y_T (M : xM) (ab : Nat → Nat → Nat) (K r n : Nat) : Prop := ∀ n', n' ≤ n → ∀ g, g < 2 ^ r → M 36 ((K - n') * 64 + g) = nI (y_mo ab K r n' g)
theorem m_free {M : xM} (hK : K ≤ 6) (hr : r ≤ 6) (hA : y_A34 M me ta ki wa no K r) {k i g : Nat} (hk : k < K) (hi : i < r) (hg : g < 64) : M_isFree_m (nI k) (nI i) (nI g) M = some (if y_ab me ta ki wa no k i = 1 ∧ g / 2 ^ i % 2 = 0 then nI 1 else nI 0, M) := by
  have hl := y_who_lt me ta ki wa (no k) r
  have hp : 2 ^ r ≤ 2 ^ 6 := Nat.pow_le_pow_right (by decide) hr
  rw [M_isFree_m_eq, y_in (show k < 6 by omega) (by decide), y_clamp (by omega), hA k hk, y_bit1 _ (by omega) _ (by omega), y_bit1 _ (by omega) _ (by omega), y_who_ab hi]
  have h1 : y_ab me ta ki wa no k i < 2 := by unfold y_ab; split <;> decide
  simp only [y_eq (show y_ab me ta ki wa no k i < 2 ^ 31 by omega) (show 1 < 2 ^ 31 by decide), y_eq (show g / 2 ^ i % 2 < 2 ^ 31 by omega) (show 0 < 2 ^ 31 by decide)]
  by_cases e1 : y_ab me ta ki wa no k i = 1
  · by_cases e2 : g / 2 ^ i % 2 = 0
    · rw [if_pos e1, if_pos e2, if_pos ⟨e1, e2⟩]
    · rw [if_pos e1, if_neg e2, if_neg (fun q => e2 q.2)]
  · rw [if_neg e1, if_neg (fun q => e1 q.1)]
theorem m_after {M : xM} {k g : Nat} (hk : k < 6) (hg : g < 64) : M_after_m (nI k) (nI g) M = some (M 36 ((k + 1) * 64 + g), M) := by
  rw [M_after_m_eq]
  simp only [y_add, y_mul, y_in2 (show (k + 1) * 64 + g < 448 by omega) (show 448 < 2 ^ 31 by decide), y_clamp (show (k + 1) * 64 + g < 2 ^ 31 by omega)]
theorem m_mf11 {M : xM} (hK : K ≤ 6) (hr : r ≤ 6) (hA : y_A34 M me ta ki wa no K r) {n : Nat} (hn : n < K) (hT : y_T M (y_ab me ta ki wa no) K r n) {g : Nat} (hg : g < 2 ^ r) : ∀ (d i : Nat), i + d = r → M_mostFrom_m_11 (nI (K - 1 - n)) (nI g) (nI r) (nI (y_mx (fun i => if y_ab me ta ki wa no (K - 1 - n) i = 1 ∧ g / 2 ^ i % 2 = 0 then 1 + y_mo (y_ab me ta ki wa no) K r n (g ||| 2 ^ i) else 0) i (y_mo (y_ab me ta ki wa no) K r n g))) (nI i) M = some (nI (y_mo (y_ab me ta ki wa no) K r (n + 1) g), M)
  | 0, i, h => by
    rw [M_mostFrom_m_11_eq, if_pos (by rw [y_le (by omega) (by omega)]; omega), show i = r by omega, y_mo_s]
  | d + 1, i, h => by
    have hp : 2 ^ r ≤ 2 ^ 6 := Nat.pow_le_pow_right (by decide) hr
    have hgi := y_or_r (i := i) hg (by omega)
    have ih := m_mf11 hK hr hA hn hT hg d (i + 1) (by omega)
    have hmx : y_mx (fun i => if y_ab me ta ki wa no (K - 1 - n) i = 1 ∧ g / 2 ^ i % 2 = 0 then 1 + y_mo (y_ab me ta ki wa no) K r n (g ||| 2 ^ i) else 0) i (y_mo (y_ab me ta ki wa no) K r n g) ≤ n + 1 := y_mx_le (by have := y_mo_le (y_ab me ta ki wa no) K r n g; omega) i (fun i _ => by
      split
      · have := y_mo_le (y_ab me ta ki wa no) K r n (g ||| 2 ^ i); omega
      · omega)
    rw [y_mx_s] at ih
    rw [M_mostFrom_m_11_eq, if_neg (by rw [y_le (by omega) (by omega)]; omega), m_free hK hr hA (show K - 1 - n < K by omega) (show i < r by omega) (by omega), Option.bind_some, y_add]
    by_cases e : y_ab me ta ki wa no (K - 1 - n) i = 1 ∧ g / 2 ^ i % 2 = 0
    · simp only [if_pos e] at ih
      have hl := y_mo_le (y_ab me ta ki wa no) K r n (g ||| 2 ^ i)
      rw [if_pos e, if_neg (show ¬ nI 1 = nI 0 by decide), y_bit_or6 _ (by omega) _ (by omega), m_after (by omega) (by omega), Option.bind_some]
      have hrow := hT n (Nat.le_refl _) _ hgi
      rw [show K - n = K - 1 - n + 1 by omega] at hrow
      simp only [hrow, y_add, y_xmax (show y_mx (fun i => if y_ab me ta ki wa no (K - 1 - n) i = 1 ∧ g / 2 ^ i % 2 = 0 then 1 + y_mo (y_ab me ta ki wa no) K r n (g ||| 2 ^ i) else 0) i (y_mo (y_ab me ta ki wa no) K r n g) < 2 ^ 31 by omega) (show 1 + y_mo (y_ab me ta ki wa no) K r n (g ||| 2 ^ i) < 2 ^ 31 by omega)]
      exact ih
    · simp only [if_neg e, Nat.max_eq_left (Nat.zero_le _)] at ih
      rw [if_neg e, if_pos rfl]
      exact ih
theorem m_mf {M : xM} (hK : K ≤ 6) (hr : r ≤ 6) (hA : y_A34 M me ta ki wa no K r) {n : Nat} (hn : n < K) (hT : y_T M (y_ab me ta ki wa no) K r n) {g : Nat} (hg : g < 2 ^ r) : M_mostFrom_m (nI (K - 1 - n)) (nI g) (nI r) M = some (nI (y_mo (y_ab me ta ki wa no) K r (n + 1) g), M) := by
  have hp : 2 ^ r ≤ 2 ^ 6 := Nat.pow_le_pow_right (by decide) hr
  have hrow := hT n (Nat.le_refl _) g hg
  rw [show K - n = K - 1 - n + 1 by omega] at hrow
  rw [M_mostFrom_m_eq, m_after (by omega) (by omega), Option.bind_some]
  simp only [hrow]
  exact m_mf11 hK hr hA hn hT hg r 0 (by omega)
theorem m_s66 (hK : K ≤ 6) (hr : r ≤ 6) {n : Nat} (hn : n < K) : ∀ (d g : Nat) (M : xM), g + d = 2 ^ r → y_A34 M me ta ki wa no K r → y_T M (y_ab me ta ki wa no) K r n → (∀ g', g' < g → M 36 ((K - 1 - n) * 64 + g') = nI (y_mo (y_ab me ta ki wa no) K r (n + 1) g')) → ∃ M', M_solve_m_66 (nI K) (nI r) (nI (2 ^ r)) (nI (K - 1 - n)) (nI g) M = M_solve_m_58 (nI K) (nI r) (nI (2 ^ r)) (y_x (K - 1 - n)) (some (nI (2 ^ r))) M' ∧ y_T M' (y_ab me ta ki wa no) K r (n + 1) ∧ y_but [36] M M'
  | 0, g, M, h, hA, hT, hd => by
    have hp : 2 ^ r ≤ 2 ^ 6 := Nat.pow_le_pow_right (by decide) hr
    have hg : g = 2 ^ r := by omega
    subst hg
    refine ⟨M, ?_, ?_, y_but.rf⟩
    · rw [M_solve_m_66_eq, if_pos (by rw [y_le (by omega) (by omega)]; omega), y_x_m1]
    · intro n' hn' g hg
      by_cases e : n' = n + 1
      · rw [e, show K - (n + 1) = K - 1 - n by omega]
        exact hd g hg
      · exact hT n' (by omega) g hg
  | d + 1, g, M, h, hA, hT, hd => by
    have hp : 2 ^ r ≤ 2 ^ 6 := Nat.pow_le_pow_right (by decide) hr
    have b1 : y_but [36] M (x_up M 36 ((K - 1 - n) * 64 + g) (nI (y_mo (y_ab me ta ki wa no) K r (n + 1) g))) := y_but.rf.up (by simp)
    obtain ⟨M', a1, a2, a3⟩ := m_s66 hK hr hn d (g + 1) (x_up M 36 ((K - 1 - n) * 64 + g) (nI (y_mo (y_ab me ta ki wa no) K r (n + 1) g))) (by omega) (fun k hk => by rw [b1 34 (by decide)]; exact hA k hk) (fun n' hn' g' hg' => by
      rw [y_up_at, if_neg (by omega)]
      exact hT n' hn' g' hg') (fun g' hg' => by
      rw [y_up_at]
      by_cases e : g' = g
      · rw [if_pos ⟨rfl, by omega⟩, e]
      · rw [if_neg (by omega)]
        exact hd g' (by omega))
    refine ⟨M', ?_, a2, b1.tr a3⟩
    rw [M_solve_m_66_eq, if_neg (by rw [y_le (by omega) (by omega)]; omega), m_mf hK hr hA hn hT (by omega), Option.bind_some]
    simp only [y_add, y_mul, y_in2 (show (K - 1 - n) * 64 + g < 448 by omega) (show 448 < 2 ^ 31 by decide), y_clamp (show (K - 1 - n) * 64 + g < 2 ^ 31 by omega)]
    exact a1
theorem m_s58 (hK : K ≤ 6) (hr : r ≤ 6) : ∀ (j n : Nat) (o : Option Int32) (M : xM), n + j = K → y_A34 M me ta ki wa no K r → y_T M (y_ab me ta ki wa no) K r n → ∃ M', M_solve_m_58 (nI K) (nI r) (nI (2 ^ r)) (y_x j) o M = ((M_handOut_m (nI K) (nI r) M').bind fun q1 => some (nI 0, q1.2)) ∧ y_T M' (y_ab me ta ki wa no) K r K ∧ y_but [36] M M'
  | 0, n, o, M, h, hA, hT => by
    refine ⟨M, ?_, ?_, y_but.rf⟩
    · rw [M_solve_m_58_eq, if_pos (show y_x 0 < nI 0 from y_m1lt)]
    · rw [show n = K by omega] at hT
      exact hT
  | j + 1, n, o, M, h, hA, hT => by
    have hp0 : 0 < 2 ^ r := Nat.two_pow_pos r
    obtain ⟨M1, a1, a2, a3⟩ := m_s66 hK hr (show n < K by omega) (2 ^ r) 0 M (by omega) hA hT (fun g' hg' => by omega)
    obtain ⟨M', b1, b2, b3⟩ := m_s58 hK hr j (n + 1) (some (nI (2 ^ r))) M1 (by omega) (fun k hk => by rw [a3 34 (by decide)]; exact hA k hk) a2
    refine ⟨M', ?_, b2, a3.tr b3⟩
    rw [M_solve_m_58_eq, if_neg (show ¬ y_x (j + 1) < nI 0 from y_nn (by omega)), show y_x (j + 1) = nI (K - 1 - n) by show nI j = _; congr 1; omega, a1, show K - 1 - n = j by omega]
    exact b1
theorem m_s28 (hK : K ≤ 6) (hr : r ≤ 6) (ab : Nat → Nat → Nat) (o : Option Int32) : ∀ (d g : Nat) (M : xM), g + d = 2 ^ r → (∀ g', g' < g → M 36 (K * 64 + g') = nI 0) → ∃ M', M_solve_m_28 (nI K) (nI r) (nI (2 ^ r)) (nI g) o M = M_solve_m_58 (nI K) (nI r) (nI (2 ^ r)) (y_x K) o M' ∧ y_T M' ab K r 0 ∧ y_but [36] M M'
  | 0, g, M, h, hd => by
    have hp : 2 ^ r ≤ 2 ^ 6 := Nat.pow_le_pow_right (by decide) hr
    refine ⟨M, ?_, ?_, y_but.rf⟩
    · rw [M_solve_m_28_eq, if_pos (by rw [y_le (by omega) (by omega)]; omega), y_x_K K]
    · intro n' hn' g' hg'
      rw [show n' = 0 by omega]
      exact hd g' (by omega)
  | d + 1, g, M, h, hd => by
    have hp : 2 ^ r ≤ 2 ^ 6 := Nat.pow_le_pow_right (by decide) hr
    have b1 : y_but [36] M (x_up M 36 (K * 64 + g) (nI 0)) := y_but.rf.up (by simp)
    obtain ⟨M', a1, a2, a3⟩ := m_s28 hK hr ab o d (g + 1) (x_up M 36 (K * 64 + g) (nI 0)) (by omega) (fun g' hg' => by
      rw [y_up_at]
      by_cases e : g' = g
      · rw [if_pos ⟨rfl, by omega⟩]
      · rw [if_neg (by omega)]
        exact hd g' (by omega))
    refine ⟨M', ?_, a2, b1.tr a3⟩
    rw [M_solve_m_28_eq, if_neg (by rw [y_le (by omega) (by omega)]; omega)]
    simp only [y_add, y_mul, y_in2 (show K * 64 + g < 448 by omega) (show 448 < 2 ^ 31 by decide), y_clamp (show K * 64 + g < 2 ^ 31 by omega)]
    exact a1
def y_ow (q : Nat) : Int32 := if q = 6 then -4 else nI q
theorem m_fo3 {M : xM} (hK : K ≤ 6) (hr : r ≤ 6) (hA : y_A34 M me ta ki wa no K r) (hT : y_T M (y_ab me ta ki wa no) K r K) {n : Nat} (hn : n < K) {g : Nat} (hg : g < 2 ^ r) : ∀ (d i : Nat), i + d = r → M_firstOwner_m_3 (nI (K - 1 - n)) (nI g) (nI r) (nI i) M = some (y_ow (y_ff (fun i => decide (y_ab me ta ki wa no (K - 1 - n) i = 1 ∧ g / 2 ^ i % 2 = 0 ∧ 1 + y_mo (y_ab me ta ki wa no) K r n (g ||| 2 ^ i) = y_mo (y_ab me ta ki wa no) K r (n + 1) g)) d i), M)
  | 0, i, h => by
    rw [M_firstOwner_m_3_eq, if_pos (by rw [y_le (by omega) (by omega)]; omega)]
    rfl
  | d + 1, i, h => by
    have hp : 2 ^ r ≤ 2 ^ 6 := Nat.pow_le_pow_right (by decide) hr
    have hgi := y_or_r (i := i) hg (by omega)
    have ih := m_fo3 hK hr hA hT hn hg d (i + 1) (by omega)
    rw [y_ff_s, M_firstOwner_m_3_eq, if_neg (by rw [y_le (by omega) (by omega)]; omega), m_free hK hr hA (show K - 1 - n < K by omega) (show i < r by omega) (by omega), Option.bind_some, y_add]
    by_cases e : y_ab me ta ki wa no (K - 1 - n) i = 1 ∧ g / 2 ^ i % 2 = 0
    · have hl := y_mo_le (y_ab me ta ki wa no) K r n (g ||| 2 ^ i)
      have hl2 := y_mo_le (y_ab me ta ki wa no) K r (n + 1) g
      rw [if_pos e, if_neg (show ¬ nI 1 = nI 0 by decide), y_bit_or6 _ (by omega) _ (by omega), m_after (by omega) (by omega), Option.bind_some]
      have hrow := hT n (by omega) _ hgi
      rw [show K - n = K - 1 - n + 1 by omega] at hrow
      have hrow2 := hT (n + 1) (by omega) g hg
      rw [show K - (n + 1) = K - 1 - n by omega] at hrow2
      simp only [hrow, y_add, y_mul, y_in2 (show (K - 1 - n) * 64 + g < 448 by omega) (show 448 < 2 ^ 31 by decide), y_clamp (show (K - 1 - n) * 64 + g < 2 ^ 31 by omega), hrow2, y_eq (show 1 + y_mo (y_ab me ta ki wa no) K r n (g ||| 2 ^ i) < 2 ^ 31 by omega) (show y_mo (y_ab me ta ki wa no) K r (n + 1) g < 2 ^ 31 by omega)]
      by_cases e2 : 1 + y_mo (y_ab me ta ki wa no) K r n (g ||| 2 ^ i) = y_mo (y_ab me ta ki wa no) K r (n + 1) g
      · rw [if_pos e2, if_pos (decide_eq_true ⟨e.1, e.2, e2⟩)]
        unfold y_ow
        rw [if_neg (by omega)]
      · rw [if_neg e2, if_neg (fun q => e2 (of_decide_eq_true q).2.2)]
        exact ih
    · rw [if_neg e, if_pos rfl, if_neg (fun q => e ⟨(of_decide_eq_true q).1, (of_decide_eq_true q).2.1⟩)]
      exact ih
theorem m_fo {M : xM} (hK : K ≤ 6) (hr : r ≤ 6) (hA : y_A34 M me ta ki wa no K r) (hT : y_T M (y_ab me ta ki wa no) K r K) {n : Nat} (hn : n < K) {g : Nat} (hg : g < 2 ^ r) : M_firstOwner_m (nI (K - 1 - n)) (nI g) (nI r) M = some (y_ow (y_fw (y_ab me ta ki wa no) K r n g), M) := by
  rw [M_firstOwner_m_eq]
  exact m_fo3 hK hr hA hT hn hg r 0 (by omega)
theorem y_ro_none (ab : Nat → Nat → Nat) {kk : Nat} (hK : K ≤ 6) : ∀ (n g : Nat), n + kk < K → y_ro ab K r (nI kk) n g = -4
  | 0, g, h => rfl
  | n + 1, g, h => by
    rw [y_ro_s, if_neg (show ¬ nI (K - 1 - n) = nI kk by rw [y_eq (by omega) (by omega)]; omega), y_ro_none ab hK n _ (by omega), y_ro_none ab hK n _ (by omega)]
    split <;> rfl
theorem m_ho5 (hK : K ≤ 6) (hr : r ≤ 6) : ∀ (n k g : Nat) (M : xM), k + n = K → g < 2 ^ r → y_A34 M me ta ki wa no K r → y_T M (y_ab me ta ki wa no) K r K → ∃ M', M_handOut_m_5 (nI K) (nI r) (nI g) (nI k) M = some (nI 0, M') ∧ (∀ kk, k ≤ kk → kk < K → M' 35 kk = y_ro (y_ab me ta ki wa no) K r (nI kk) n g) ∧ (∀ kk, kk < k → M' 35 kk = M 35 kk) ∧ y_but [35] M M'
  | 0, k, g, M, h, hg, hA, hT => by
    refine ⟨M, ?_, fun kk h1 h2 => by omega, fun _ _ => rfl, y_but.rf⟩
    rw [M_handOut_m_5_eq, if_pos (by rw [y_le (by omega) (by omega)]; omega)]
  | n + 1, k, g, M, h, hg, hA, hT => by
    have hp : 2 ^ r ≤ 2 ^ 6 := Nat.pow_le_pow_right (by decide) hr
    have hfo := m_fo hK hr hA hT (show n < K by omega) hg
    rw [show K - 1 - n = k by omega] at hfo
    have b1 : y_but [35] M (x_up M 35 k (y_ow (y_fw (y_ab me ta ki wa no) K r n g))) := y_but.rf.up (by simp)
    have hA1 : y_A34 (x_up M 35 k (y_ow (y_fw (y_ab me ta ki wa no) K r n g))) me ta ki wa no K r := fun k hk => by rw [b1 34 (by decide)]; exact hA k hk
    have hT1 : y_T (x_up M 35 k (y_ow (y_fw (y_ab me ta ki wa no) K r n g))) (y_ab me ta ki wa no) K r K := fun n' hn' g' hg' => by rw [b1 36 (by decide)]; exact hT n' hn' g' hg'
    rw [M_handOut_m_5_eq, if_neg (by rw [y_le (by omega) (by omega)]; omega), hfo, Option.bind_some]
    simp only [y_in2 (show k < 6 by omega) (show 6 < 2 ^ 31 by decide), y_clamp (show k < 2 ^ 31 by omega), y_up_eq, y_add]
    by_cases e : y_fw (y_ab me ta ki wa no) K r n g = 6
    · obtain ⟨M', a1, a2, a3, a4⟩ := m_ho5 hK hr n (k + 1) g _ (by omega) hg hA1 hT1
      refine ⟨M', ?_, fun kk h1 h2 => ?_, fun kk h1 => ?_, b1.tr a4⟩
      · rw [if_pos (show y_ow (y_fw (y_ab me ta ki wa no) K r n g) = -4 by unfold y_ow; rw [if_pos e])]
        exact a1
      · rw [y_ro_s, if_pos e]
        by_cases q : kk = k
        · rw [q, a3 k (by omega), y_up_eq, y_ro_none _ hK n g (by omega)]
          unfold y_ow
          rw [if_pos e]
        · exact a2 kk (by omega) h2
      · rw [a3 kk (by omega), y_up_ne2 (by omega)]
    · have hq : y_fw (y_ab me ta ki wa no) K r n g < r := by
        rcases y_fw_spec (y_ab me ta ki wa no) K r n g with ⟨f1, -⟩ | ⟨f1, -⟩
        · exact absurd f1 e
        · exact f1
      have how : y_ow (y_fw (y_ab me ta ki wa no) K r n g) = nI (y_fw (y_ab me ta ki wa no) K r n g) := by unfold y_ow; rw [if_neg e]
      obtain ⟨M', a1, a2, a3, a4⟩ := m_ho5 hK hr n (k + 1) (g ||| 2 ^ y_fw (y_ab me ta ki wa no) K r n g) _ (by omega) (y_or_r hg hq) hA1 hT1
      refine ⟨M', ?_, fun kk h1 h2 => ?_, fun kk h1 => ?_, b1.tr a4⟩
      · rw [if_neg (show ¬ y_ow (y_fw (y_ab me ta ki wa no) K r n g) = -4 by rw [how]; exact y_ne4 (by omega))]
        rw [how] at a1 ⊢
        rw [y_bit_or6 _ (by omega) _ (by omega)]
        exact a1
      · rw [y_ro_s, if_neg e]
        by_cases q : kk = k
        · rw [if_pos (show nI (K - 1 - n) = nI kk by rw [q]; congr 1; omega), q, a3 k (by omega), y_up_eq, how]
        · rw [if_neg (show ¬ nI (K - 1 - n) = nI kk by rw [y_eq (by omega) (by omega)]; omega)]
          exact a2 kk (by omega) h2
      · rw [a3 kk (by omega), y_up_ne2 (by omega)]
theorem m_solve {M : xM} (hK : K ≤ 6) (hr : r ≤ 6) (hA : y_A34 M me ta ki wa no K r) : ∃ M', M_solve_m (nI K) (nI r) M = some (nI 0, M') ∧ M' 36 0 = nI (y_mo (y_ab me ta ki wa no) K r K 0) ∧ (∀ kk, kk < K → M' 35 kk = y_ro (y_ab me ta ki wa no) K r (nI kk) K 0) ∧ y_but [35, 36] M M' := by
  have hp0 : 0 < 2 ^ r := Nat.two_pow_pos r
  obtain ⟨M1, a1, a2, a3⟩ := m_s28 hK hr (y_ab me ta ki wa no) none (2 ^ r) 0 M (by omega) (fun g' hg' => by omega)
  obtain ⟨M2, b1, b2, b3⟩ := m_s58 (me := me) (ta := ta) (ki := ki) (wa := wa) (no := no) hK hr K 0 none M1 (by omega) (fun k hk => by rw [a3 34 (by decide)]; exact hA k hk) a2
  obtain ⟨M3, c1, c2, c3, c4⟩ := m_ho5 (me := me) (ta := ta) (ki := ki) (wa := wa) (no := no) hK hr K 0 0 M2 (by omega) hp0 (fun k hk => by rw [b3 34 (by decide), a3 34 (by decide)]; exact hA k hk) b2
  refine ⟨M3, ?_, ?_, fun kk hk => c2 kk (by omega) hk, ((a3.mono (by decide)).tr (b3.mono (by decide))).tr (c4.mono (by decide))⟩
  · rw [M_solve_m_eq, c_within0 (by decide), Option.bind_some, y_b0, if_pos (by rw [y_inb_nI (by omega)]; simp; omega), c_within0 (by decide), Option.bind_some, y_b0, if_pos (by rw [y_inb_nI (by omega)]; simp; omega), y_sh7 r (by omega), a1, b1, M_handOut_m_eq, c1, Option.bind_some]
  · have h := b2 K (Nat.le_refl _) 0 hp0
    rw [Nat.sub_self, Nat.zero_mul, Nat.zero_add] at h
    rw [c4 36 (by decide)]
    exact h
theorem y_CQ.keep3 {M M' : xM} (h : y_CQ M w pr me ta K no) (hb : y_but [25, 34] M M') : y_CQ M' w pr me ta K no := by
  obtain ⟨h1, h2, h3, h4⟩ := h
  refine ⟨h1.keep (hb _ (by decide)) (hb _ (by decide)) (hb _ (by decide)) (hb _ (by decide)), h2, by rw [hb 3 (by decide)]; exact h3, fun k hk => by rw [hb 9 (by decide)]; exact h4 k hk⟩
theorem c_m20 (x : Int32) (hx : x = -1 ∨ ∃ kk, kk < K ∧ x = nI kk) : ∀ (n i : Nat) (M : xM), i + n = K → y_CQ M w pr me ta K no → y_CRp M r ki wa → (∀ k, k < i → M 34 k = nI (y_who me ta ki wa (no k) r)) → ∃ M', C_matched_20 x (nI i) M = some (if x = -1 then nI (y_mo (y_ab me ta ki wa no) K r K 0) else y_ro (y_ab me ta ki wa no) K r x K 0, M') ∧ y_but [25, 34, 35, 36] M M'
  | 0, i, M, h, hQ, hR, h4 => by
    obtain ⟨hCW, hK, h3, hk⟩ := id hQ
    have he : i = K := by omega
    subst he
    obtain ⟨M', a1, a2, a3, a4⟩ := m_solve hK hR.1 h4
    refine ⟨M', ?_, a4.mono (by decide)⟩
    rw [C_matched_20_eq, h3, if_pos (by rw [y_le (by omega) (by omega)]; omega), hR.2.1, a1, Option.bind_some]
    rcases hx with hx | ⟨kk, hkk, hx⟩
    · rw [if_pos hx, if_pos hx, M_howMany_m_eq, Option.bind_some]
      simp only [a2]
    · have hne : ¬ x = -1 := by rw [hx]; exact y_ne_neg (by omega)
      rw [if_neg hne, if_neg hne, hx, y_in (show kk < 6 by omega) (by decide), y_clamp (by omega)]
      simp only [a3 kk hkk]
  | n + 1, i, M, h, hQ, hR, h4 => by
    obtain ⟨hCW, hK, h3, hk⟩ := id hQ
    obtain ⟨hds, hcd⟩ := hk i (by omega)
    obtain ⟨M1, m1, m2, m3⟩ := c_measurep hCW hds
    have hCW1 := (hQ.keep m3).1
    have hR1 : y_CRp M1 r ki wa := hR.keep (m3 _ (by decide)) (m3 _ (by decide)) (m3 _ (by decide))
    have b1 : y_but [25, 34] M (x_up M1 34 i (nI (y_who me ta ki wa (no i) r))) := (m3.mono (by decide)).up (by simp)
    obtain ⟨M', a1, a2⟩ := c_m20 x hx n (i + 1) (x_up M1 34 i (nI (y_who me ta ki wa (no i) r))) (by omega) (hQ.keep3 b1) (hR.keep (b1 _ (by decide)) (b1 _ (by decide)) (b1 _ (by decide))) (fun k hkk => by
      rw [y_up_at]
      by_cases e : k = i
      · rw [if_pos ⟨rfl, e⟩, e]
      · rw [if_neg (fun q => e q.2), m3 34 (by decide)]
        exact h4 k (by omega))
    refine ⟨M', ?_, (b1.mono (by decide)).tr a2⟩
    rw [C_matched_20_eq, h3, if_neg (by rw [y_le (by omega) (by omega)]; omega)]
    simp only [y_in2 (show i < 6 by omega) (show 6 < 2 ^ 31 by decide), y_clamp (show i < 2 ^ 31 by omega), hcd, C_answerersOf_eq, m1, Option.bind_some, c_answ_r (fun j hj => (hCW1.2.2.2 j hj).2) hR1 hds m2, y_add]
    exact a1
end
theorem op_matched {M : xM} (h : y_Inv M) (x : Int32) : y_op (C_matched x) (K_matched x) M := by
  obtain ⟨w, pr, me, r, ki, wa, N, nt, tx, nc, ch, nk, kp, nh, th, hI⟩ := id h
  obtain ⟨⟨-, -, hCR, -, hKR⟩, -⟩ := id hI
  obtain ⟨hQ, hQ2⟩ := hI.CQ
  have hK6 := hQ.2.1
  have main : (x = -1 ∨ ∃ kk, kk < N.1 ∧ x = nI kk) → C_matched x M = C_matched_20 x (nI 0) M → (∀ M1, y_KQ M1 w pr me N.2.2 N.1 N.2.1 → K_matched x M1 = K_matched_19 x (nI 1) (nI 0) none none none none none none none none none M1) → y_op (C_matched x) (K_matched x) M := by
    intro hx hC hK
    obtain ⟨M1, a1, a2⟩ := c_m20 x hx N.1 0 M (by omega) hQ hCR (fun k hk => by omega)
    have a3 : y_but y_scr M M1 := a2.mono (by decide)
    have hI1 := hI.scr a3
    obtain ⟨⟨-, -, -, -, hKR1⟩, -⟩ := id hI1
    exact y_op.ro h (hC.trans a1) ((hK M1 hI1.CQ.2).trans (k_m hI1.CQ.2 hKR1 x)) a3 y_but.rf
  by_cases hx : x = -1
  · exact main (Or.inl hx) (by rw [C_matched_eq, if_pos hx]) (fun M1 _ => by rw [K_matched_eq, if_pos hx])
  · by_cases hi : y_inb x N.1 = true
    · obtain ⟨kk, hk, he⟩ := y_inb_t hi
      exact main (Or.inr ⟨kk, hk, he⟩) (by rw [C_matched_eq, if_neg hx, c_hasN (by omega) hQ.2.2.1, Option.bind_some, y_b0, if_pos hi]) (fun M1 h1 => by rw [K_matched_eq, if_neg hx, k_isNotice (by omega) h1.2.2.1, Option.bind_some, y_b0, if_pos hi])
    · refine y_op.same (v := -1) h ?_ ?_
      · rw [C_matched_eq, if_neg hx, c_hasN (by omega) hQ.2.2.1, Option.bind_some, y_b0, if_neg hi]
      · rw [K_matched_eq, if_neg hx, k_isNotice (by omega) hQ2.2.2.1, Option.bind_some, y_b0, if_neg hi]
