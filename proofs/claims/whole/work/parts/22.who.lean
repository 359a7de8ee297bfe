/-! who answers, by the class: printed from wip/whole/tpl -/
theorem y_rv_max {w : Nat} (hw : w ≤ 8) : ∀ (e : List Nat), (∀ d ∈ e, d < w) → 9 * y_rv e + 8 ≤ 8 * 10 ^ e.length
  | [], _ => by decide
  | d :: r, hd => by
    have h1 := hd d List.mem_cons_self
    have h2 := y_rv_max hw r (fun q hq => hd q (List.mem_cons_of_mem _ hq))
    show 9 * (10 * y_rv r + d + 1) + 8 ≤ 8 * 10 ^ (r.length + 1)
    rw [Nat.pow_succ]
    omega
theorem y_par_max {w n : Nat} (hw : w ≤ 8) {e : List Nat} (h : y_par w 5 n = some e) : n ≤ 88888 := by
  obtain ⟨a1, a2, a3⟩ := y_par_spec _ _ _ h
  have h1 := y_rv_max hw e a3
  have h2 : 10 ^ e.length ≤ 10 ^ 5 := Nat.pow_le_pow_right (by decide) a2
  omega
theorem c_isCode16 {M : xM} {w : Nat} {pr me ta : Nat → Nat} (hC : y_CWp M w pr me ta) (o : Option Int32) : ∀ (f n i : Nat), i + f = 5 → n < 10 ^ f → P_isCode_p_16 o (nI n) (nI i) M = some (if (y_par w f n).isSome = true then nI 1 else nI 0, M)
  | 0, n, i, hi, hn => by
    have h0 : n = 0 := by simpa using hn
    subst h0
    rw [P_isCode_p_16_eq, if_pos (by rw [y_le (by omega) (by omega)]; omega), y_par_0]
    rfl
  | f + 1, n, i, hi, hn => by
    have hw := hC.1
    have hp : 10 ^ (f + 1) ≤ 10 ^ 5 := Nat.pow_le_pow_right (by decide) (by omega)
    rw [P_isCode_p_16_eq, if_neg (by rw [y_le (by omega) (by omega)]; omega)]
    by_cases h : n = 0
    · subst h
      rw [if_pos (by decide), y_par_0]
      rfl
    · rw [if_neg (by rw [y_le (by omega) (by omega)]; omega), y_rem (by omega), y_div (by omega) (by decide) (by decide), y_add, y_par_s, if_neg h]
      rw [Nat.pow_succ] at hn
      by_cases h10 : n % 10 = 0
      · rw [h10, y_m1, c_hasWordp_neg y_m1lt, Option.bind_some, if_pos (show nI 0 = nI 0 from rfl), if_neg (show ¬ (1 ≤ 0 ∧ 0 ≤ w) by omega)]
        rfl
      · rw [y_sub (by omega), c_hasWordp hC (by omega), Option.bind_some]
        by_cases h2 : n % 10 ≤ w
        · rw [if_pos (show n % 10 - 1 < w by omega), if_neg (show ¬ nI 1 = nI 0 by decide), if_pos (show 1 ≤ n % 10 ∧ n % 10 ≤ w by omega)]
          show P_isCode_p_16 o (nI (n / 10)) (nI (i + 1)) M = _
          rw [c_isCode16 hC o f (n / 10) (i + 1) (by omega) (by omega), Option.isSome_map]
        · rw [if_neg (show ¬ n % 10 - 1 < w by omega), if_pos (show nI 0 = nI 0 from rfl), if_neg (show ¬ (1 ≤ n % 10 ∧ n % 10 ≤ w) by omega)]
          rfl
/-- isCode -/
theorem c_isCode {M : xM} {w : Nat} {pr me ta : Nat → Nat} (hC : y_CWp M w pr me ta) (x : Int32) : P_isCode_p x M = some (if (y_code w x).isSome = true then nI 1 else nI 0, M) := by
  have hw := hC.1
  rw [P_isCode_p_eq, C_isWithin_eq]
  unfold y_code
  rcases y_cases x with hx | ⟨n, hn, rfl⟩
  · rw [if_pos (y_neg_lt hx (by omega)), Option.bind_some, if_pos (show nI 0 = nI 0 from rfl), if_neg (show ¬ nI 0 < x from fun q => by rw [Int32.lt_iff_toInt_lt] at q hx; omega)]
    rfl
  · by_cases h1 : n < 1
    · rw [if_pos (by rw [y_lt hn (by omega)]; exact h1), Option.bind_some, if_pos (show nI 0 = nI 0 from rfl), if_neg (show ¬ nI 0 < nI n by rw [y_lt (by omega) hn]; omega)]
      rfl
    · rw [if_neg (by rw [y_lt hn (by omega)]; exact h1), if_pos (show nI 0 < nI n by rw [y_lt (by omega) hn]; omega), y_clamp hn, Option.isSome_map]
      by_cases h2 : 88888 < n
      · rw [if_pos (by rw [y_lt (by omega) hn]; exact h2), Option.bind_some, if_pos (show nI 0 = nI 0 from rfl)]
        cases hp : y_par w 5 n with
        | none => rfl
        | some e => exact absurd (y_par_max hw hp) (by omega)
      · rw [if_neg (by rw [y_lt (by omega) hn]; exact h2), Option.bind_some, if_neg (show ¬ nI 1 = nI 0 by decide)]
        exact c_isCode16 hC _ 5 n 0 (by omega) (by omega)
theorem y_sum_9 {w : Nat} {f : Nat → Nat} {ds : List Nat} (hf : ∀ j, j < w → f j ≤ 9) (hds : y_no w ds) : y_sum f ds ≤ 45 := by
  have h := y_sum_le (f := f) (b := 9) ds (fun d hd => hf d (hds.2.2 d hd))
  have := hds.2.1
  omega
theorem y_fd_9 {w : Nat} {f : Nat → Nat} {ds : List Nat} (hf : ∀ j, j < w → f j ≤ 9) (hds : y_no w ds) : y_fd f 0 ds ≤ 225 := by
  have h5 := hds.2.1
  have h := y_fd_le (f := f) (b := 9) ds 0 5 (fun d hd => hf d (hds.2.2 d hd)) (by omega)
  omega
theorem c_byKind_r {M : xM} {w : Nat} {pr me ta : Nat → Nat} (hb : ∀ j, j < w → me j ≤ 9 ∧ ta j ≤ 9) {ds : List Nat} (hds : y_no w ds) (hR : y_Rd 25 M pr me ta ds) {kd : Nat} (hkd : kd ≤ 3) : R_byKind_r (nI kd) M = some (nI (y_read me ta kd ds), M) := by
  obtain ⟨h0, h1, h2, h3, h4, h5, h6⟩ := hR
  have b1 := y_sum_9 (fun j hj => (hb j hj).1) hds
  have b2 := y_sum_9 (fun j hj => (hb j hj).2) hds
  have b3 := y_fd_9 (fun j hj => (hb j hj).2) hds
  rw [R_byKind_r_eq, h4, h5, h6]
  simp only [y_eq (show kd < 2 ^ 31 by omega) (show 0 < 2 ^ 31 by decide), y_eq (show kd < 2 ^ 31 by omega) (show 1 < 2 ^ 31 by decide), y_eq (show kd < 2 ^ 31 by omega) (show 2 < 2 ^ 31 by decide), y_add, y_rem (show y_sum me ds < 2 ^ 31 by omega), y_rem (show y_sum ta ds < 2 ^ 31 by omega), y_rem (show y_fd ta 0 ds < 2 ^ 31 by omega), y_rem (show y_sum me ds + y_sum ta ds < 2 ^ 31 by omega)]
  unfold y_read
  split
  · rfl
  · split
    · rfl
    · split <;> rfl
theorem c_isAns_p_r {M : xM} {w r : Nat} {pr me ta ki wa : Nat → Nat} (hb : ∀ j, j < w → me j ≤ 9 ∧ ta j ≤ 9) (hC : y_CRp M r ki wa) {ds : List Nat} (hds : y_no w ds) (hR : y_Rd 25 M pr me ta ds) {i : Nat} (hi : i < r) : P_isAnsweredBy_p_r (nI i) M = some (if y_read me ta (ki i) ds = wa i then nI 1 else nI 0, M) := by
  obtain ⟨hr6, h1, hv, hbb⟩ := hC
  obtain ⟨v1, v2⟩ := hv i hi
  obtain ⟨b1, b2⟩ := hbb i hi
  have hl := y_read_lt me ta (ki i) ds
  rw [P_isAnsweredBy_p_r_eq, P_hasReader_p_eq, h1, if_neg (y_nn (by omega)), if_neg (by rw [y_le (by omega) (by omega)]; omega), Option.bind_some, if_neg (show ¬ nI 1 = nI 0 by decide)]
  simp only [y_in2 (show i < 6 by omega) (show 6 < 2 ^ 31 by decide), y_clamp (show i < 2 ^ 31 by omega), v1, c_byKind_r hb hds hR b1, Option.bind_some, v2, y_eq (show y_read me ta (ki i) ds < 2 ^ 31 by omega) (show wa i < 2 ^ 31 by omega)]
  split <;> rfl
theorem c_answ4_r {M : xM} {w r : Nat} {pr me ta ki wa : Nat → Nat} (hb : ∀ j, j < w → me j ≤ 9 ∧ ta j ≤ 9) (hC : y_CRp M r ki wa) {ds : List Nat} (hds : y_no w ds) (hR : y_Rd 25 M pr me ta ds) : ∀ (n i : Nat), i + n = r → P_answerers_p_r_4 (nI (y_who me ta ki wa ds i)) (nI i) M = some (nI (y_who me ta ki wa ds r), M)
  | 0, i, h => by
    have hr := hC.1
    rw [P_answerers_p_r_4_eq, hC.2.1, if_pos (by rw [y_le (by omega) (by omega)]; omega), show i = r by omega]
  | n + 1, i, h => by
    have hr := hC.1
    have hs := y_who_lt me ta ki wa ds i
    have hp : 2 ^ i ≤ 2 ^ 6 := Nat.pow_le_pow_right (by decide) (by omega)
    rw [P_answerers_p_r_4_eq, hC.2.1, if_neg (by rw [y_le (by omega) (by omega)]; omega), c_isAns_p_r hb hC hds hR (by omega), Option.bind_some, y_bit_or6 _ (by omega) _ (by omega), y_add]
    have ih := c_answ4_r hb hC hds hR n (i + 1) (by omega)
    rw [show y_who me ta ki wa ds (i + 1) = y_who me ta ki wa ds i ||| (if y_read me ta (ki i) ds = wa i then 2 ^ i else 0) from rfl] at ih
    by_cases hd : y_read me ta (ki i) ds = wa i
    · rw [if_pos hd] at ih ⊢
      rw [if_neg (show ¬ nI 1 = nI 0 by decide)]
      exact ih
    · rw [if_neg hd, Nat.or_zero] at ih
      rw [if_neg hd, if_pos (show nI 0 = nI 0 from rfl)]
      exact ih
theorem c_answ_r {M : xM} {w r : Nat} {pr me ta ki wa : Nat → Nat} (hb : ∀ j, j < w → me j ≤ 9 ∧ ta j ≤ 9) (hC : y_CRp M r ki wa) {ds : List Nat} (hds : y_no w ds) (hR : y_Rd 25 M pr me ta ds) : P_answerers_p_r M = some (nI (y_who me ta ki wa ds r), M) := by
  rw [P_answerers_p_r_eq]
  exact c_answ4_r hb hC hds hR r 0 (by omega)
theorem c_byKind_r1 {M : xM} {w : Nat} {pr me ta : Nat → Nat} (hb : ∀ j, j < w → me j ≤ 9 ∧ ta j ≤ 9) {ds : List Nat} (hds : y_no w ds) (hR : y_Rd 29 M pr me ta ds) {kd : Nat} (hkd : kd ≤ 3) : R_byKind_r1 (nI kd) M = some (nI (y_read me ta kd ds), M) := by
  obtain ⟨h0, h1, h2, h3, h4, h5, h6⟩ := hR
  have b1 := y_sum_9 (fun j hj => (hb j hj).1) hds
  have b2 := y_sum_9 (fun j hj => (hb j hj).2) hds
  have b3 := y_fd_9 (fun j hj => (hb j hj).2) hds
  rw [R_byKind_r1_eq, h4, h5, h6]
  simp only [y_eq (show kd < 2 ^ 31 by omega) (show 0 < 2 ^ 31 by decide), y_eq (show kd < 2 ^ 31 by omega) (show 1 < 2 ^ 31 by decide), y_eq (show kd < 2 ^ 31 by omega) (show 2 < 2 ^ 31 by decide), y_add, y_rem (show y_sum me ds < 2 ^ 31 by omega), y_rem (show y_sum ta ds < 2 ^ 31 by omega), y_rem (show y_fd ta 0 ds < 2 ^ 31 by omega), y_rem (show y_sum me ds + y_sum ta ds < 2 ^ 31 by omega)]
  unfold y_read
  split
  · rfl
  · split
    · rfl
    · split <;> rfl
theorem c_isAns_p_r1 {M : xM} {w r : Nat} {pr me ta ki wa : Nat → Nat} (hb : ∀ j, j < w → me j ≤ 9 ∧ ta j ≤ 9) (hC : y_CRp M r ki wa) {ds : List Nat} (hds : y_no w ds) (hR : y_Rd 29 M pr me ta ds) {i : Nat} (hi : i < r) : P_isAnsweredBy_p_r1 (nI i) M = some (if y_read me ta (ki i) ds = wa i then nI 1 else nI 0, M) := by
  obtain ⟨hr6, h1, hv, hbb⟩ := hC
  obtain ⟨v1, v2⟩ := hv i hi
  obtain ⟨b1, b2⟩ := hbb i hi
  have hl := y_read_lt me ta (ki i) ds
  rw [P_isAnsweredBy_p_r1_eq, P_hasReader_p_eq, h1, if_neg (y_nn (by omega)), if_neg (by rw [y_le (by omega) (by omega)]; omega), Option.bind_some, if_neg (show ¬ nI 1 = nI 0 by decide)]
  simp only [y_in2 (show i < 6 by omega) (show 6 < 2 ^ 31 by decide), y_clamp (show i < 2 ^ 31 by omega), v1, c_byKind_r1 hb hds hR b1, Option.bind_some, v2, y_eq (show y_read me ta (ki i) ds < 2 ^ 31 by omega) (show wa i < 2 ^ 31 by omega)]
  split <;> rfl
theorem c_answ4_r1 {M : xM} {w r : Nat} {pr me ta ki wa : Nat → Nat} (hb : ∀ j, j < w → me j ≤ 9 ∧ ta j ≤ 9) (hC : y_CRp M r ki wa) {ds : List Nat} (hds : y_no w ds) (hR : y_Rd 29 M pr me ta ds) : ∀ (n i : Nat), i + n = r → P_answerers_p_r1_4 (nI (y_who me ta ki wa ds i)) (nI i) M = some (nI (y_who me ta ki wa ds r), M)
  | 0, i, h => by
    have hr := hC.1
    rw [P_answerers_p_r1_4_eq, hC.2.1, if_pos (by rw [y_le (by omega) (by omega)]; omega), show i = r by omega]
  | n + 1, i, h => by
    have hr := hC.1
    have hs := y_who_lt me ta ki wa ds i
    have hp : 2 ^ i ≤ 2 ^ 6 := Nat.pow_le_pow_right (by decide) (by omega)
    rw [P_answerers_p_r1_4_eq, hC.2.1, if_neg (by rw [y_le (by omega) (by omega)]; omega), c_isAns_p_r1 hb hC hds hR (by omega), Option.bind_some, y_bit_or6 _ (by omega) _ (by omega), y_add]
    have ih := c_answ4_r1 hb hC hds hR n (i + 1) (by omega)
    rw [show y_who me ta ki wa ds (i + 1) = y_who me ta ki wa ds i ||| (if y_read me ta (ki i) ds = wa i then 2 ^ i else 0) from rfl] at ih
    by_cases hd : y_read me ta (ki i) ds = wa i
    · rw [if_pos hd] at ih ⊢
      rw [if_neg (show ¬ nI 1 = nI 0 by decide)]
      exact ih
    · rw [if_neg hd, Nat.or_zero] at ih
      rw [if_neg hd, if_pos (show nI 0 = nI 0 from rfl)]
      exact ih
theorem c_answ_r1 {M : xM} {w r : Nat} {pr me ta ki wa : Nat → Nat} (hb : ∀ j, j < w → me j ≤ 9 ∧ ta j ≤ 9) (hC : y_CRp M r ki wa) {ds : List Nat} (hds : y_no w ds) (hR : y_Rd 29 M pr me ta ds) : P_answerers_p_r1 M = some (nI (y_who me ta ki wa ds r), M) := by
  rw [P_answerers_p_r1_eq]
  exact c_answ4_r1 hb hC hds hR r 0 (by omega)
theorem c_byKind_r2 {M : xM} {w : Nat} {pr me ta : Nat → Nat} (hb : ∀ j, j < w → me j ≤ 9 ∧ ta j ≤ 9) {ds : List Nat} (hds : y_no w ds) (hR : y_Rd 30 M pr me ta ds) {kd : Nat} (hkd : kd ≤ 3) : R_byKind_r2 (nI kd) M = some (nI (y_read me ta kd ds), M) := by
  obtain ⟨h0, h1, h2, h3, h4, h5, h6⟩ := hR
  have b1 := y_sum_9 (fun j hj => (hb j hj).1) hds
  have b2 := y_sum_9 (fun j hj => (hb j hj).2) hds
  have b3 := y_fd_9 (fun j hj => (hb j hj).2) hds
  rw [R_byKind_r2_eq, h4, h5, h6]
  simp only [y_eq (show kd < 2 ^ 31 by omega) (show 0 < 2 ^ 31 by decide), y_eq (show kd < 2 ^ 31 by omega) (show 1 < 2 ^ 31 by decide), y_eq (show kd < 2 ^ 31 by omega) (show 2 < 2 ^ 31 by decide), y_add, y_rem (show y_sum me ds < 2 ^ 31 by omega), y_rem (show y_sum ta ds < 2 ^ 31 by omega), y_rem (show y_fd ta 0 ds < 2 ^ 31 by omega), y_rem (show y_sum me ds + y_sum ta ds < 2 ^ 31 by omega)]
  unfold y_read
  split
  · rfl
  · split
    · rfl
    · split <;> rfl
theorem c_isAns_p_r2 {M : xM} {w r : Nat} {pr me ta ki wa : Nat → Nat} (hb : ∀ j, j < w → me j ≤ 9 ∧ ta j ≤ 9) (hC : y_CRp M r ki wa) {ds : List Nat} (hds : y_no w ds) (hR : y_Rd 30 M pr me ta ds) {i : Nat} (hi : i < r) : P_isAnsweredBy_p_r2 (nI i) M = some (if y_read me ta (ki i) ds = wa i then nI 1 else nI 0, M) := by
  obtain ⟨hr6, h1, hv, hbb⟩ := hC
  obtain ⟨v1, v2⟩ := hv i hi
  obtain ⟨b1, b2⟩ := hbb i hi
  have hl := y_read_lt me ta (ki i) ds
  rw [P_isAnsweredBy_p_r2_eq, P_hasReader_p_eq, h1, if_neg (y_nn (by omega)), if_neg (by rw [y_le (by omega) (by omega)]; omega), Option.bind_some, if_neg (show ¬ nI 1 = nI 0 by decide)]
  simp only [y_in2 (show i < 6 by omega) (show 6 < 2 ^ 31 by decide), y_clamp (show i < 2 ^ 31 by omega), v1, c_byKind_r2 hb hds hR b1, Option.bind_some, v2, y_eq (show y_read me ta (ki i) ds < 2 ^ 31 by omega) (show wa i < 2 ^ 31 by omega)]
  split <;> rfl
theorem c_answ4_r2 {M : xM} {w r : Nat} {pr me ta ki wa : Nat → Nat} (hb : ∀ j, j < w → me j ≤ 9 ∧ ta j ≤ 9) (hC : y_CRp M r ki wa) {ds : List Nat} (hds : y_no w ds) (hR : y_Rd 30 M pr me ta ds) : ∀ (n i : Nat), i + n = r → P_answerers_p_r2_4 (nI (y_who me ta ki wa ds i)) (nI i) M = some (nI (y_who me ta ki wa ds r), M)
  | 0, i, h => by
    have hr := hC.1
    rw [P_answerers_p_r2_4_eq, hC.2.1, if_pos (by rw [y_le (by omega) (by omega)]; omega), show i = r by omega]
  | n + 1, i, h => by
    have hr := hC.1
    have hs := y_who_lt me ta ki wa ds i
    have hp : 2 ^ i ≤ 2 ^ 6 := Nat.pow_le_pow_right (by decide) (by omega)
    rw [P_answerers_p_r2_4_eq, hC.2.1, if_neg (by rw [y_le (by omega) (by omega)]; omega), c_isAns_p_r2 hb hC hds hR (by omega), Option.bind_some, y_bit_or6 _ (by omega) _ (by omega), y_add]
    have ih := c_answ4_r2 hb hC hds hR n (i + 1) (by omega)
    rw [show y_who me ta ki wa ds (i + 1) = y_who me ta ki wa ds i ||| (if y_read me ta (ki i) ds = wa i then 2 ^ i else 0) from rfl] at ih
    by_cases hd : y_read me ta (ki i) ds = wa i
    · rw [if_pos hd] at ih ⊢
      rw [if_neg (show ¬ nI 1 = nI 0 by decide)]
      exact ih
    · rw [if_neg hd, Nat.or_zero] at ih
      rw [if_neg hd, if_pos (show nI 0 = nI 0 from rfl)]
      exact ih
theorem c_answ_r2 {M : xM} {w r : Nat} {pr me ta ki wa : Nat → Nat} (hb : ∀ j, j < w → me j ≤ 9 ∧ ta j ≤ 9) (hC : y_CRp M r ki wa) {ds : List Nat} (hds : y_no w ds) (hR : y_Rd 30 M pr me ta ds) : P_answerers_p_r2 M = some (nI (y_who me ta ki wa ds r), M) := by
  rw [P_answerers_p_r2_eq]
  exact c_answ4_r2 hb hC hds hR r 0 (by omega)
theorem c_byKind_r3 {M : xM} {w : Nat} {pr me ta : Nat → Nat} (hb : ∀ j, j < w → me j ≤ 9 ∧ ta j ≤ 9) {ds : List Nat} (hds : y_no w ds) (hR : y_Rd 31 M pr me ta ds) {kd : Nat} (hkd : kd ≤ 3) : R_byKind_r3 (nI kd) M = some (nI (y_read me ta kd ds), M) := by
  obtain ⟨h0, h1, h2, h3, h4, h5, h6⟩ := hR
  have b1 := y_sum_9 (fun j hj => (hb j hj).1) hds
  have b2 := y_sum_9 (fun j hj => (hb j hj).2) hds
  have b3 := y_fd_9 (fun j hj => (hb j hj).2) hds
  rw [R_byKind_r3_eq, h4, h5, h6]
  simp only [y_eq (show kd < 2 ^ 31 by omega) (show 0 < 2 ^ 31 by decide), y_eq (show kd < 2 ^ 31 by omega) (show 1 < 2 ^ 31 by decide), y_eq (show kd < 2 ^ 31 by omega) (show 2 < 2 ^ 31 by decide), y_add, y_rem (show y_sum me ds < 2 ^ 31 by omega), y_rem (show y_sum ta ds < 2 ^ 31 by omega), y_rem (show y_fd ta 0 ds < 2 ^ 31 by omega), y_rem (show y_sum me ds + y_sum ta ds < 2 ^ 31 by omega)]
  unfold y_read
  split
  · rfl
  · split
    · rfl
    · split <;> rfl
theorem c_isAns_p_r3 {M : xM} {w r : Nat} {pr me ta ki wa : Nat → Nat} (hb : ∀ j, j < w → me j ≤ 9 ∧ ta j ≤ 9) (hC : y_CRp M r ki wa) {ds : List Nat} (hds : y_no w ds) (hR : y_Rd 31 M pr me ta ds) {i : Nat} (hi : i < r) : P_isAnsweredBy_p_r3 (nI i) M = some (if y_read me ta (ki i) ds = wa i then nI 1 else nI 0, M) := by
  obtain ⟨hr6, h1, hv, hbb⟩ := hC
  obtain ⟨v1, v2⟩ := hv i hi
  obtain ⟨b1, b2⟩ := hbb i hi
  have hl := y_read_lt me ta (ki i) ds
  rw [P_isAnsweredBy_p_r3_eq, P_hasReader_p_eq, h1, if_neg (y_nn (by omega)), if_neg (by rw [y_le (by omega) (by omega)]; omega), Option.bind_some, if_neg (show ¬ nI 1 = nI 0 by decide)]
  simp only [y_in2 (show i < 6 by omega) (show 6 < 2 ^ 31 by decide), y_clamp (show i < 2 ^ 31 by omega), v1, c_byKind_r3 hb hds hR b1, Option.bind_some, v2, y_eq (show y_read me ta (ki i) ds < 2 ^ 31 by omega) (show wa i < 2 ^ 31 by omega)]
  split <;> rfl
theorem c_answ4_r3 {M : xM} {w r : Nat} {pr me ta ki wa : Nat → Nat} (hb : ∀ j, j < w → me j ≤ 9 ∧ ta j ≤ 9) (hC : y_CRp M r ki wa) {ds : List Nat} (hds : y_no w ds) (hR : y_Rd 31 M pr me ta ds) : ∀ (n i : Nat), i + n = r → P_answerers_p_r3_4 (nI (y_who me ta ki wa ds i)) (nI i) M = some (nI (y_who me ta ki wa ds r), M)
  | 0, i, h => by
    have hr := hC.1
    rw [P_answerers_p_r3_4_eq, hC.2.1, if_pos (by rw [y_le (by omega) (by omega)]; omega), show i = r by omega]
  | n + 1, i, h => by
    have hr := hC.1
    have hs := y_who_lt me ta ki wa ds i
    have hp : 2 ^ i ≤ 2 ^ 6 := Nat.pow_le_pow_right (by decide) (by omega)
    rw [P_answerers_p_r3_4_eq, hC.2.1, if_neg (by rw [y_le (by omega) (by omega)]; omega), c_isAns_p_r3 hb hC hds hR (by omega), Option.bind_some, y_bit_or6 _ (by omega) _ (by omega), y_add]
    have ih := c_answ4_r3 hb hC hds hR n (i + 1) (by omega)
    rw [show y_who me ta ki wa ds (i + 1) = y_who me ta ki wa ds i ||| (if y_read me ta (ki i) ds = wa i then 2 ^ i else 0) from rfl] at ih
    by_cases hd : y_read me ta (ki i) ds = wa i
    · rw [if_pos hd] at ih ⊢
      rw [if_neg (show ¬ nI 1 = nI 0 by decide)]
      exact ih
    · rw [if_neg hd, Nat.or_zero] at ih
      rw [if_neg hd, if_pos (show nI 0 = nI 0 from rfl)]
      exact ih
theorem c_answ_r3 {M : xM} {w r : Nat} {pr me ta ki wa : Nat → Nat} (hb : ∀ j, j < w → me j ≤ 9 ∧ ta j ≤ 9) (hC : y_CRp M r ki wa) {ds : List Nat} (hds : y_no w ds) (hR : y_Rd 31 M pr me ta ds) : P_answerers_p_r3 M = some (nI (y_who me ta ki wa ds r), M) := by
  rw [P_answerers_p_r3_eq]
  exact c_answ4_r3 hb hC hds hR r 0 (by omega)
theorem c_byKind_r4 {M : xM} {w : Nat} {pr me ta : Nat → Nat} (hb : ∀ j, j < w → me j ≤ 9 ∧ ta j ≤ 9) {ds : List Nat} (hds : y_no w ds) (hR : y_Rd 32 M pr me ta ds) {kd : Nat} (hkd : kd ≤ 3) : R_byKind_r4 (nI kd) M = some (nI (y_read me ta kd ds), M) := by
  obtain ⟨h0, h1, h2, h3, h4, h5, h6⟩ := hR
  have b1 := y_sum_9 (fun j hj => (hb j hj).1) hds
  have b2 := y_sum_9 (fun j hj => (hb j hj).2) hds
  have b3 := y_fd_9 (fun j hj => (hb j hj).2) hds
  rw [R_byKind_r4_eq, h4, h5, h6]
  simp only [y_eq (show kd < 2 ^ 31 by omega) (show 0 < 2 ^ 31 by decide), y_eq (show kd < 2 ^ 31 by omega) (show 1 < 2 ^ 31 by decide), y_eq (show kd < 2 ^ 31 by omega) (show 2 < 2 ^ 31 by decide), y_add, y_rem (show y_sum me ds < 2 ^ 31 by omega), y_rem (show y_sum ta ds < 2 ^ 31 by omega), y_rem (show y_fd ta 0 ds < 2 ^ 31 by omega), y_rem (show y_sum me ds + y_sum ta ds < 2 ^ 31 by omega)]
  unfold y_read
  split
  · rfl
  · split
    · rfl
    · split <;> rfl
theorem c_isAns_p_r4 {M : xM} {w r : Nat} {pr me ta ki wa : Nat → Nat} (hb : ∀ j, j < w → me j ≤ 9 ∧ ta j ≤ 9) (hC : y_CRp M r ki wa) {ds : List Nat} (hds : y_no w ds) (hR : y_Rd 32 M pr me ta ds) {i : Nat} (hi : i < r) : P_isAnsweredBy_p_r4 (nI i) M = some (if y_read me ta (ki i) ds = wa i then nI 1 else nI 0, M) := by
  obtain ⟨hr6, h1, hv, hbb⟩ := hC
  obtain ⟨v1, v2⟩ := hv i hi
  obtain ⟨b1, b2⟩ := hbb i hi
  have hl := y_read_lt me ta (ki i) ds
  rw [P_isAnsweredBy_p_r4_eq, P_hasReader_p_eq, h1, if_neg (y_nn (by omega)), if_neg (by rw [y_le (by omega) (by omega)]; omega), Option.bind_some, if_neg (show ¬ nI 1 = nI 0 by decide)]
  simp only [y_in2 (show i < 6 by omega) (show 6 < 2 ^ 31 by decide), y_clamp (show i < 2 ^ 31 by omega), v1, c_byKind_r4 hb hds hR b1, Option.bind_some, v2, y_eq (show y_read me ta (ki i) ds < 2 ^ 31 by omega) (show wa i < 2 ^ 31 by omega)]
  split <;> rfl
theorem c_answ4_r4 {M : xM} {w r : Nat} {pr me ta ki wa : Nat → Nat} (hb : ∀ j, j < w → me j ≤ 9 ∧ ta j ≤ 9) (hC : y_CRp M r ki wa) {ds : List Nat} (hds : y_no w ds) (hR : y_Rd 32 M pr me ta ds) : ∀ (n i : Nat), i + n = r → P_answerers_p_r4_4 (nI (y_who me ta ki wa ds i)) (nI i) M = some (nI (y_who me ta ki wa ds r), M)
  | 0, i, h => by
    have hr := hC.1
    rw [P_answerers_p_r4_4_eq, hC.2.1, if_pos (by rw [y_le (by omega) (by omega)]; omega), show i = r by omega]
  | n + 1, i, h => by
    have hr := hC.1
    have hs := y_who_lt me ta ki wa ds i
    have hp : 2 ^ i ≤ 2 ^ 6 := Nat.pow_le_pow_right (by decide) (by omega)
    rw [P_answerers_p_r4_4_eq, hC.2.1, if_neg (by rw [y_le (by omega) (by omega)]; omega), c_isAns_p_r4 hb hC hds hR (by omega), Option.bind_some, y_bit_or6 _ (by omega) _ (by omega), y_add]
    have ih := c_answ4_r4 hb hC hds hR n (i + 1) (by omega)
    rw [show y_who me ta ki wa ds (i + 1) = y_who me ta ki wa ds i ||| (if y_read me ta (ki i) ds = wa i then 2 ^ i else 0) from rfl] at ih
    by_cases hd : y_read me ta (ki i) ds = wa i
    · rw [if_pos hd] at ih ⊢
      rw [if_neg (show ¬ nI 1 = nI 0 by decide)]
      exact ih
    · rw [if_neg hd, Nat.or_zero] at ih
      rw [if_neg hd, if_pos (show nI 0 = nI 0 from rfl)]
      exact ih
theorem c_answ_r4 {M : xM} {w r : Nat} {pr me ta ki wa : Nat → Nat} (hb : ∀ j, j < w → me j ≤ 9 ∧ ta j ≤ 9) (hC : y_CRp M r ki wa) {ds : List Nat} (hds : y_no w ds) (hR : y_Rd 32 M pr me ta ds) : P_answerers_p_r4 M = some (nI (y_who me ta ki wa ds r), M) := by
  rw [P_answerers_p_r4_eq]
  exact c_answ4_r4 hb hC hds hR r 0 (by omega)
theorem c_isAns_d_r {M : xM} {w r : Nat} {pr me ta ki wa : Nat → Nat} (hb : ∀ j, j < w → me j ≤ 9 ∧ ta j ≤ 9) (hC : y_CRd M r ki wa) {ds : List Nat} (hds : y_no w ds) (hR : y_Rd 25 M pr me ta ds) {i : Nat} (hi : i < r) : P_isAnsweredBy_d_r (nI i) M = some (if y_read me ta (ki i) ds = wa i then nI 1 else nI 0, M) := by
  obtain ⟨hr6, h1, hv, hbb⟩ := hC
  obtain ⟨v1, v2⟩ := hv i hi
  obtain ⟨b1, b2⟩ := hbb i hi
  have hl := y_read_lt me ta (ki i) ds
  rw [P_isAnsweredBy_d_r_eq, P_hasReader_d_eq, h1, if_neg (y_nn (by omega)), if_neg (by rw [y_le (by omega) (by omega)]; omega), Option.bind_some, if_neg (show ¬ nI 1 = nI 0 by decide)]
  simp only [y_in2 (show i < 6 by omega) (show 6 < 2 ^ 31 by decide), y_clamp (show i < 2 ^ 31 by omega), v1, c_byKind_r hb hds hR b1, Option.bind_some, v2, y_eq (show y_read me ta (ki i) ds < 2 ^ 31 by omega) (show wa i < 2 ^ 31 by omega)]
  split <;> rfl
