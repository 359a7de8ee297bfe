/-! near -/
theorem k_wb7 {M : xM} (o0 o1 : Option Int32) {k : Nat} (hk : k < 5) : ∀ (j c : Nat), k + j < 2 ^ 30 → c < 2 ^ 31 → K_wordAt_7 o0 o1 (nI k) (nI c) (nI (k + j)) M = some (nI (c / 10 ^ j % 10) - nI 1, M)
  | 0, c, hj, hc => by
    rw [K_wordAt_7_eq, if_pos (show nI (k + 0) ≤ nI k by rw [y_le (by omega) (by omega)]; omega), y_rem hc, show c / 10 ^ 0 = c from Nat.div_one _]
  | j + 1, c, hj, hc => by
    have h1 : c / 10 ≤ c := Nat.div_le_self _ _
    rw [K_wordAt_7_eq, if_neg (show ¬ nI (k + (j + 1)) ≤ nI k by rw [y_le (by omega) (by omega)]; omega), y_div hc (by decide) (by decide), show k + (j + 1) = (k + j) + 1 by omega, pk_m1, k_wb7 o0 o1 hk j (c / 10) (by omega) (by omega), Nat.div_div_eq_div_mul, Nat.pow_succ, Nat.mul_comm 10]
/-- wordAt at any length: the digit less one -/
theorem k_wa {M : xM} {L k c : Nat} (hL : L ≤ 5) (hk : k < L) (hc : c < 2 ^ 31) : K_wordAt (nI c) (nI L) (nI k) M = some (nI (c / 10 ^ (L - 1 - k) % 10) - nI 1, M) := by
  have h := k_wb7 (M := M) (some (nI c)) (some (nI L)) (show k < 5 by omega) (L - 1 - k) c (by omega) hc
  rw [show k + (L - 1 - k) = L - 1 by omega] at h
  rw [K_wordAt_eq, y_sub (by omega)]
  exact h
theorem y_dge : ∀ a, a < 10 → ∀ b, b < 10 → ((nI a - nI 1 = nI b - nI 1) = (a = b)) := by
  have : ∀ a, a < 10 → ∀ b, b < 10 → ((nI a - nI 1 = nI b - nI 1) ↔ (a = b)) := by decide +kernel
  exact fun a ha b hb => propext (this a ha b hb)
/-- in how many of the lowest n digits c and d differ -/
def y_df (c d : Nat) : Nat → Nat
  | 0 => 0
  | n + 1 => y_df c d n + (if c / 10 ^ n % 10 = d / 10 ^ n % 10 then 0 else 1)
theorem y_df_le (c d : Nat) : ∀ n, y_df c d n ≤ n
  | 0 => Nat.le_refl _
  | n + 1 => by
    have := y_df_le c d n
    show y_df c d n + (if c / 10 ^ n % 10 = d / 10 ^ n % 10 then 0 else 1) ≤ n + 1
    split <;> omega
/-- near, as the class walks: digits n-1 down to 0 -/
def y_cn (c d : Nat) : Nat → Nat → Nat
  | 0, t => if t = 1 then 1 else 0
  | n + 1, t => if c / 10 ^ n % 10 = 0 then (if d / 10 ^ n % 10 = 0 then y_cn c d n t else 0) else (if d / 10 ^ n % 10 = 0 then 0 else y_cn c d n (t + (if c / 10 ^ n % 10 = d / 10 ^ n % 10 then 0 else 1)))
theorem c_nr6 {M : xM} {c d : Nat} (hc : c < 2 ^ 31) (hd : d < 2 ^ 31) : ∀ (n t : Nat) (o4 o5 : Option Int32), n ≤ 5 → t + n < 100 → C_isNear_6 (nI c) (nI d) (nI t) (nI (y_pw n)) o4 o5 M = some (nI (y_cn c d n t), M)
  | 0, t, o4, o5, hn, ht => by
    rw [C_isNear_6_eq, show y_pw 0 = 0 from rfl, if_pos (show nI 0 ≤ nI 0 by decide), show y_cn c d 0 t = if t = 1 then 1 else 0 from rfl]
    by_cases e : t = 1
    · rw [if_pos e, if_pos (show nI t = nI 1 by rw [e])]
    · rw [if_neg e, if_neg (show ¬ nI t = nI 1 by rw [y_eq (by omega) (by omega)]; exact e)]
  | n + 1, t, o4, o5, hn, ht => by
    have hp : 0 < 10 ^ n := Nat.pow_pos (by decide)
    have hp2 : 10 ^ n ≤ 10 ^ 4 := Nat.pow_le_pow_right (by decide) (by omega)
    have h1 : c / 10 ^ n ≤ c := Nat.div_le_self _ _
    have h2 : d / 10 ^ n ≤ d := Nat.div_le_self _ _
    have hz : ¬ nI (10 ^ n) = nI 0 := by rw [y_eq (by omega) (by omega)]; omega
    have ih := fun t o4 o5 ht => c_nr6 (M := M) hc hd n t o4 o5 (by omega) ht
    rw [C_isNear_6_eq, y_pw_s, if_neg (show ¬ nI (10 ^ n) ≤ nI 0 by rw [y_le (by omega) (by omega)]; omega), if_neg hz, if_neg hz]
    simp only [y_div hc hp (show 10 ^ n < 2 ^ 31 by omega), y_div hd hp (show 10 ^ n < 2 ^ 31 by omega), y_rem (show c / 10 ^ n < 2 ^ 31 by omega), y_rem (show d / 10 ^ n < 2 ^ 31 by omega), y_div (show 10 ^ n < 2 ^ 31 by omega) (show 0 < 10 by decide) (show 10 < 2 ^ 31 by decide), y_pw_div, y_add, y_eq (show c / 10 ^ n % 10 < 2 ^ 31 by omega) (show 0 < 2 ^ 31 by decide), y_eq (show d / 10 ^ n % 10 < 2 ^ 31 by omega) (show 0 < 2 ^ 31 by decide), y_eq (show c / 10 ^ n % 10 < 2 ^ 31 by omega) (show d / 10 ^ n % 10 < 2 ^ 31 by omega), y_cn]
    by_cases e1 : c / 10 ^ n % 10 = 0
    · by_cases e2 : d / 10 ^ n % 10 = 0
      · rw [if_pos e1, if_pos e2, if_pos e1, if_pos e2, if_pos (show c / 10 ^ n % 10 = d / 10 ^ n % 10 by omega)]
        exact ih _ _ _ (by omega)
      · rw [if_pos e1, if_neg e2, if_pos e1, if_neg e2]
    · by_cases e2 : d / 10 ^ n % 10 = 0
      · rw [if_neg e1, if_pos e2, if_neg e1, if_pos e2]
      · rw [if_neg e1, if_neg e2, if_neg e1, if_neg e2]
        by_cases e3 : c / 10 ^ n % 10 = d / 10 ^ n % 10
        · rw [if_pos e3, if_pos e3]
          exact ih _ _ _ (by omega)
        · rw [if_neg e3, if_neg e3]
          exact ih _ _ _ (by omega)
theorem k_nr19 {M : xM} {w : Nat} {pr me ta : Nat → Nat} {K : Nat} {no : Nat → List Nat} (hQ : y_KQ M w pr me ta K no) {a b : Nat} (ha : a < K) (hb : b < K) : ∀ (n i t : Nat), i + n = (no a).length → t + n < 100 → K_isNear_19 (nI a) (nI b) (nI (no a).length) (nI t) (nI i) M = some (nI (if (no a).length = (no b).length then (if t + y_df (y_cd (no a)) (y_cd (no b)) n = 1 then 1 else 0) else 0), M)
  | 0, i, t, h, ht => by
    obtain ⟨hKW, hK, h0, hk⟩ := id hQ
    obtain ⟨hds, hcd⟩ := hk b hb
    have l1 := (hk a ha).1.2.1
    have l2 := hds.2.1
    rw [K_isNear_19_eq, if_pos (show nI (no a).length ≤ nI i by rw [y_le (by omega) (by omega)]; omega)]
    simp only [y_add, y_in2 (show 1 + b < 15 by omega) (show 15 < 2 ^ 31 by decide), y_clamp (show 1 + b < 2 ^ 31 by omega), hcd, k_long_ds hKW.1 hKW.2.1 hds, Option.bind_some, y_eq (show (no a).length < 2 ^ 31 by omega) (show (no b).length < 2 ^ 31 by omega), y_eq (show t < 2 ^ 31 by omega) (show 1 < 2 ^ 31 by decide)]
    rw [show t + y_df (y_cd (no a)) (y_cd (no b)) 0 = t from rfl]
    split
    · split <;> rfl
    · rfl
  | n + 1, i, t, h, ht => by
    obtain ⟨hKW, hK, h0, hk⟩ := id hQ
    obtain ⟨hds, hcd⟩ := hk b hb
    obtain ⟨has, hca⟩ := hk a ha
    have l1 := has.2.1
    have c1 := (y_cd_lt hKW.1 has).1
    have c2 := (y_cd_lt hKW.1 hds).1
    have ih := fun t ht => k_nr19 hQ ha hb n (i + 1) t (by omega) ht
    rw [K_isNear_19_eq, if_neg (show ¬ nI (no a).length ≤ nI i by rw [y_le (by omega) (by omega)]; omega)]
    simp only [y_add, y_in2 (show 1 + b < 15 by omega) (show 15 < 2 ^ 31 by decide), y_clamp (show 1 + b < 2 ^ 31 by omega), y_in2 (show 1 + a < 15 by omega) (show 15 < 2 ^ 31 by decide), y_clamp (show 1 + a < 2 ^ 31 by omega), hcd, hca, k_wa l1 (show i < (no a).length by omega) (show y_cd (no a) < 2 ^ 31 by omega), k_wa l1 (show i < (no a).length by omega) (show y_cd (no b) < 2 ^ 31 by omega), Option.bind_some, y_dge _ (Nat.mod_lt _ (show 0 < 10 by decide)) _ (Nat.mod_lt _ (show 0 < 10 by decide)), show (no a).length - 1 - i = n by omega]
    rw [show y_df (y_cd (no a)) (y_cd (no b)) (n + 1) = y_df (y_cd (no a)) (y_cd (no b)) n + (if y_cd (no a) / 10 ^ n % 10 = y_cd (no b) / 10 ^ n % 10 then 0 else 1) from rfl]
    by_cases e : y_cd (no a) / 10 ^ n % 10 = y_cd (no b) / 10 ^ n % 10
    · rw [if_pos e, if_pos e, ih _ (by omega)]
      rfl
    · rw [if_neg e, if_neg e, ih _ (by omega), show t + 1 + y_df (y_cd (no a)) (y_cd (no b)) n = t + (y_df (y_cd (no a)) (y_cd (no b)) n + 1) by omega]
theorem y_rv_dg {w : Nat} (hw : w ≤ 8) : ∀ (e : List Nat) (p : Nat), (∀ d ∈ e, d < w) → p < e.length → y_rv e / 10 ^ p % 10 ≠ 0
  | [], p, _, hp => absurd hp (by simp)
  | a :: e, 0, h, _ => by
    have ha := h a List.mem_cons_self
    rw [show y_rv (a :: e) = 10 * y_rv e + a + 1 from rfl, show (10 * y_rv e + a + 1) / 10 ^ 0 = 10 * y_rv e + a + 1 from Nat.div_one _]
    omega
  | a :: e, p + 1, h, hp => by
    have ha := h a List.mem_cons_self
    rw [show y_rv (a :: e) = 10 * y_rv e + a + 1 from rfl, Nat.pow_succ, Nat.mul_comm (10 ^ p) 10, ← Nat.div_div_eq_div_mul, show (10 * y_rv e + a + 1) / 10 = y_rv e by omega]
    exact y_rv_dg hw e p (fun d hd => h d (List.mem_cons_of_mem _ hd)) (by simpa using hp)
theorem y_cd_dg {w : Nat} (hw : w ≤ 8) {ds : List Nat} (h : y_no w ds) {p : Nat} (hp : p < ds.length) : y_cd ds / 10 ^ p % 10 ≠ 0 := by
  unfold y_cd
  exact y_rv_dg hw _ p (fun d hd => h.2.2 d (List.mem_reverse.mp hd)) (by rw [List.length_reverse]; exact hp)
theorem y_cd_dz {w : Nat} (hw : w ≤ 8) {ds : List Nat} (h : y_no w ds) {p : Nat} (hp : ds.length ≤ p) : y_cd ds / 10 ^ p % 10 = 0 := by
  have h1 := y_cd_lt10 hw h.2.2
  have h2 : 10 ^ ds.length ≤ 10 ^ p := Nat.pow_le_pow_right (by decide) hp
  rw [Nat.div_eq_of_lt (by omega)]
theorem y_cn_lo {w : Nat} (hw : w ≤ 8) {ds es : List Nat} (h : y_no w ds) (h' : y_no w es) : ∀ (n t : Nat), n ≤ ds.length → n ≤ es.length → y_cn (y_cd ds) (y_cd es) n t = if t + y_df (y_cd ds) (y_cd es) n = 1 then 1 else 0
  | 0, t, _, _ => rfl
  | n + 1, t, h1, h2 => by
    rw [y_cn, if_neg (y_cd_dg hw h (by omega)), if_neg (y_cd_dg hw h' (by omega)), y_cn_lo hw h h' n _ (by omega) (by omega), y_df]
    congr 2
    omega
theorem y_cn_hi {w : Nat} (hw : w ≤ 8) {ds es : List Nat} (h : y_no w ds) (h' : y_no w es) : ∀ (n t : Nat), ds.length ≤ n → es.length ≤ n → y_cn (y_cd ds) (y_cd es) n t = if ds.length = es.length then (if t + y_df (y_cd ds) (y_cd es) ds.length = 1 then 1 else 0) else 0
  | 0, t, h1, _ => by have := h.1; omega
  | n + 1, t, h1, h2 => by
    by_cases e1 : ds.length = n + 1
    · by_cases e2 : es.length = n + 1
      · rw [if_pos (by omega), y_cn_lo hw h h' (n + 1) t (by omega) (by omega), e1]
      · rw [if_neg (by omega), y_cn, if_neg (y_cd_dg hw h (by omega)), if_pos (y_cd_dz hw h' (by omega))]
    · by_cases e2 : es.length = n + 1
      · rw [if_neg (by omega), y_cn, if_pos (y_cd_dz hw h (by omega)), if_neg (y_cd_dg hw h' (by omega))]
      · rw [y_cn, if_pos (y_cd_dz hw h (by omega)), if_pos (y_cd_dz hw h' (by omega)), y_cn_hi hw h h' n t (by omega) (by omega)]
def y_nr (ds es : List Nat) : Nat := if ds.length = es.length then (if 0 + y_df (y_cd ds) (y_cd es) ds.length = 1 then 1 else 0) else 0
theorem y_df_sym (c d : Nat) : ∀ n, y_df c d n = y_df d c n
  | 0 => rfl
  | n + 1 => by
    rw [y_df, y_df, y_df_sym c d n]
    congr 1
    by_cases e : c / 10 ^ n % 10 = d / 10 ^ n % 10
    · rw [if_pos e, if_pos e.symm]
    · rw [if_neg e, if_neg (fun q => e q.symm)]
theorem y_df_self (c : Nat) : ∀ n, y_df c c n = 0
  | 0 => rfl
  | n + 1 => by rw [y_df, y_df_self c n, if_pos rfl]
theorem y_nr_sym (ds es : List Nat) : y_nr ds es = y_nr es ds := by
  unfold y_nr
  by_cases e : ds.length = es.length
  · rw [if_pos e, if_pos e.symm, y_df_sym, e]
  · rw [if_neg e, if_neg (fun q => e q.symm)]
theorem y_nr_self (ds : List Nat) : y_nr ds ds = 0 := by
  unfold y_nr
  rw [if_pos rfl, y_df_self]
  rfl
theorem c_isNear {M : xM} {w : Nat} (hw : w ≤ 8) {ds es : List Nat} (h : y_no w ds) (h' : y_no w es) : C_isNear (nI (y_cd ds)) (nI (y_cd es)) M = some (nI (y_nr ds es), M) := by
  have c1 := (y_cd_lt hw h).1
  have c2 := (y_cd_lt hw h').1
  rw [C_isNear_eq]
  have e := c_nr6 (M := M) (show y_cd ds < 2 ^ 31 by omega) (show y_cd es < 2 ^ 31 by omega) 5 0 none none (by omega) (by omega)
  rw [show y_pw 5 = 10000 from rfl, y_cn_hi hw h h' 5 0 h.2.1 h'.2.1] at e
  exact e
theorem k_isNear {M : xM} {w : Nat} {pr me ta : Nat → Nat} {K : Nat} {no : Nat → List Nat} (hQ : y_KQ M w pr me ta K no) {a b : Nat} (ha : a < K) (hb : b < K) : K_isNear (nI a) (nI b) M = some (nI (y_nr (no a) (no b)), M) := by
  obtain ⟨hKW, hK, h0, hk⟩ := id hQ
  obtain ⟨has, hca⟩ := hk a ha
  have l1 := has.2.1
  rw [K_isNear_eq]
  simp only [y_add, y_in2 (show 1 + a < 15 by omega) (show 15 < 2 ^ 31 by decide), y_clamp (show 1 + a < 2 ^ 31 by omega), hca, k_long_ds hKW.1 hKW.2.1 has, Option.bind_some]
  exact k_nr19 hQ ha hb (no a).length 0 0 (by omega) (by omega)
