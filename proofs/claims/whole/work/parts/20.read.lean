/-! what a notice says: in numbers; the reference's readings -/
theorem y_in2 {α : Type} {j N : Nat} (h : j < N) (hN : N < 2 ^ 31) (a b : α) : (if nI j < nI 0 ∨ N ≤ j then a else b) = b := if_neg (fun q => by
  rcases q with q | q
  · exact nI_pos (by omega) q
  · omega)
def y_sum (f : Nat → Nat) : List Nat → Nat
  | [] => 0
  | d :: r => f d + y_sum f r
/-- the words' numbers times their places -/
def y_fd (f : Nat → Nat) : Nat → List Nat → Nat
  | _, [] => 0
  | k, d :: r => f d * (k + 1) + y_fd f (k + 1) r
/-- the set of words, upon a set -/
def y_sb : Nat → List Nat → Nat
  | s, [] => s
  | s, d :: r => y_sb (s ||| 2 ^ d) r
def y_on (s : Nat) : Nat → Nat
  | 0 => 0
  | n + 1 => y_on s n + s / 2 ^ n % 2
def y_ones (s : Nat) : Nat := y_on s 10
def y_price (pr : Nat → Nat) (ds : List Nat) : Nat := ds.length - y_ones (y_sb 0 ds) + y_sum pr ds
def y_read (me ta : Nat → Nat) (kind : Nat) (ds : List Nat) : Nat := (if kind = 0 then y_sum me ds else if kind = 1 then y_sum ta ds else if kind = 2 then y_fd ta 0 ds else y_sum me ds + y_sum ta ds) % 10
def y_does (me ta ki wa : Nat → Nat) (i : Nat) (ds : List Nat) : Prop := y_read me ta (ki i) ds = wa i
def y_who (me ta ki wa : Nat → Nat) (ds : List Nat) : Nat → Nat
  | 0 => 0
  | n + 1 => y_who me ta ki wa ds n ||| (if y_read me ta (ki n) ds = wa n then 2 ^ n else 0)
theorem y_sum_le {f : Nat → Nat} {b : Nat} : ∀ (ds : List Nat), (∀ d ∈ ds, f d ≤ b) → y_sum f ds ≤ b * ds.length
  | [], _ => Nat.zero_le _
  | d :: r, h => by
    have h1 := h d List.mem_cons_self
    have h2 := y_sum_le r (fun q hq => h q (List.mem_cons_of_mem _ hq))
    show f d + y_sum f r ≤ b * (r.length + 1)
    rw [Nat.mul_succ]
    omega
theorem y_fd_le {f : Nat → Nat} {b : Nat} : ∀ (ds : List Nat) (k n : Nat), (∀ d ∈ ds, f d ≤ b) → k + ds.length ≤ n → y_fd f k ds ≤ b * n * ds.length
  | [], _, _, _, _ => Nat.zero_le _
  | d :: r, k, n, h, hn => by
    have h1 := h d List.mem_cons_self
    have h2 := y_fd_le r (k + 1) n (fun q hq => h q (List.mem_cons_of_mem _ hq)) (by simp at hn; omega)
    have h3 : f d * (k + 1) ≤ b * n := Nat.mul_le_mul h1 (by simp at hn; omega)
    show f d * (k + 1) + y_fd f (k + 1) r ≤ b * n * (r.length + 1)
    rw [Nat.mul_succ (b * n) r.length]
    omega
theorem y_bit_or : ∀ s, s < 256 → ∀ d, d < 8 → (nI s ||| ((nI 1) <<< (nI d &&& nI 31))) = nI (s ||| 2 ^ d) := by decide +kernel
theorem y_or_lt {s d : Nat} (hs : s < 256) (hd : d < 8) : s ||| 2 ^ d < 256 := Nat.or_lt_two_pow (n := 8) hs (Nat.pow_lt_pow_right (by decide) hd)
theorem y_sb_lt : ∀ (ds : List Nat) (s : Nat), s < 256 → (∀ d ∈ ds, d < 8) → y_sb s ds < 256
  | [], _, h, _ => h
  | d :: r, s, h, hd => y_sb_lt r _ (y_or_lt h (hd d List.mem_cons_self)) (fun q hq => hd q (List.mem_cons_of_mem _ hq))
theorem y_ones_le (s : Nat) : y_ones s ≤ 10 := by
  have key : ∀ n, y_on s n ≤ n := by
    intro n
    induction n with
    | zero => exact Nat.le_refl _
    | succ n ih =>
      show y_on s n + s / 2 ^ n % 2 ≤ n + 1
      have := Nat.mod_lt (s / 2 ^ n) (by decide : 0 < 2)
      omega
  exact key 10
theorem y_par_s (w f n : Nat) : y_par w (f + 1) n = if n = 0 then some [] else if 1 ≤ n % 10 ∧ n % 10 ≤ w then (y_par w f (n / 10)).map (fun r => (n % 10 - 1) :: r) else none := rfl
/-! the reference -/
theorem k_in {a b c : Nat} {M : xM} (ha : a < 2 ^ 31) (hb : b < 2 ^ 31) (hc : c < 2 ^ 31) : K_in (nI a) (nI b) (nI c) M = some (if b ≤ a ∧ a ≤ c then nI 1 else nI 0, M) := by
  rw [K_in_eq]
  simp only [y_lt ha hb, y_lt hc ha]
  by_cases h1 : a < b
  · rw [if_pos h1, if_neg (by omega)]
  · by_cases h2 : c < a
    · rw [if_neg h1, if_pos h2, if_neg (by omega)]
    · rw [if_neg h1, if_neg h2, if_pos (by omega)]
theorem y_rem {a : Nat} (ha : a < 2 ^ 31) : nI a - nI a / nI 10 * nI 10 = nI (a % 10) := pk_rem ha (by decide) (by decide)
theorem k_long0 (M : xM) (o : Option Int32) : ∀ (n : Nat) (x : Int32), n < 2 ^ 31 → K_longOf_15 o x (nI 0) (nI n) M = some (nI 0, M) := by
  intro n
  induction n using Nat.strongRecOn with
  | ind n ih =>
    intro x hn
    rw [K_longOf_15_eq]
    by_cases h : n = 0
    · subst h
      rw [if_pos (by decide), if_pos rfl]
    · rw [if_neg (by rw [y_le hn (by omega)]; omega), if_pos rfl, y_div hn (by decide) (by decide)]
      exact ih (n / 10) (by omega) _ (by omega)
theorem k_long1 {M : xM} {w : Nat} (hw : w ≤ 8) (hM : M 42 0 = nI w) (o : Option Int32) : ∀ (f n c : Nat), c + f = 5 → n < 2 ^ 31 → K_longOf_15 o (nI c) (nI 1) (nI n) M = some (match y_par w f n with
    | some e => nI (c + e.length)
    | none => nI 0, M) := by
  intro f
  induction f with
  | zero =>
    intro n c hc hn
    rw [K_longOf_15_eq]
    by_cases h : n = 0
    · subst h
      rw [if_pos (by decide), if_neg (by decide), y_par_0]
      rfl
    · rw [if_neg (by rw [y_le hn (by omega)]; omega), if_neg (by decide), y_rem hn, hM, k_in (by omega) (by omega) (by omega), Option.bind_some, y_div hn (by decide) (by decide), k_long0 _ _ _ _ (by omega)]
      rw [if_pos (show nI 5 ≤ nI c by rw [y_le (by omega) (by omega)]; omega)]
      rw [show y_par w 0 n = if n = 0 then some [] else none from rfl, if_neg h]
      split <;> rfl
  | succ f ih =>
    intro n c hc hn
    rw [K_longOf_15_eq]
    by_cases h : n = 0
    · subst h
      rw [if_pos (by decide), if_neg (by decide), y_par_0]
      rfl
    · rw [if_neg (by rw [y_le hn (by omega)]; omega), if_neg (by decide), y_rem hn, hM, k_in (by omega) (by omega) (by omega), Option.bind_some, y_div hn (by decide) (by decide), k_long0 _ _ _ _ (by omega)]
      rw [if_neg (show ¬ nI 5 ≤ nI c by rw [y_le (by omega) (by omega)]; omega), y_add, ih (n / 10) (c + 1) (by omega) (by omega)]
      rw [y_par_s, if_neg h]
      by_cases h2 : 1 ≤ n % 10 ∧ n % 10 ≤ w
      · rw [if_pos h2, if_pos h2, if_neg (by show ¬ nI 1 = nI 0; decide)]
        cases y_par w f (n / 10) with
        | none => rfl
        | some e =>
          show some (nI (c + 1 + e.length), M) = some (nI (c + (e.length + 1)), M)
          rw [show c + 1 + e.length = c + (e.length + 1) by omega]
      · rw [if_neg h2, if_neg h2, if_pos (show nI 0 = nI 0 from rfl)]
/-- how many words -/
def y_cl (o : Option (List Nat)) : Int32 := match o with
  | some ds => nI ds.length
  | none => nI 0
/-- longOf -/
theorem k_longOf {M : xM} {w : Nat} (hw : w ≤ 8) (hM : M 42 0 = nI w) (x : Int32) : K_longOf x M = some (y_cl (y_code w x), M) := by
  rw [K_longOf_eq]
  rcases y_cases x with hx | ⟨n, hn, rfl⟩
  · rw [if_pos (y_neg_le hx (by omega))]
    unfold y_code
    rw [if_neg (fun q => by rw [Int32.lt_iff_toInt_lt] at q hx; omega)]
    have key : ∀ o x1, K_longOf_15 o x1 (nI 0) x M = some (nI 0, M) := by
      intro o x1
      rw [K_longOf_15_eq, if_pos (y_neg_le hx (by omega)), if_pos rfl]
    exact key _ _
  · unfold y_code
    by_cases h : n ≤ 0
    · rw [if_pos (by rw [y_le hn (by omega)]; exact h), if_neg (by rw [y_lt (by omega) hn]; omega)]
      exact k_long0 M _ n _ hn
    · rw [if_neg (by rw [y_le hn (by omega)]; exact h), if_pos (by rw [y_lt (by omega) hn]; omega), k_long1 hw hM _ 5 n 0 (by omega) hn, y_clamp hn]
      cases y_par w 5 n with
      | none => rfl
      | some e => simp [y_cl]
theorem k_long_ds {M : xM} {w : Nat} (hw : w ≤ 8) (hM : M 42 0 = nI w) {ds : List Nat} (h : y_no w ds) : K_longOf (nI (y_cd ds)) M = some (nI ds.length, M) := by
  rw [k_longOf hw hM, y_code_cd hw h]
  rfl
theorem k_wa7 {M : xM} {w : Nat} (hw : w ≤ 8) (o0 o1 : Option Int32) : ∀ (j k : Nat) (d : Nat) (e1 e2 : List Nat), e1.length = j → (∀ q ∈ e1 ++ d :: e2, q < w) → (e1 ++ d :: e2).length ≤ 5 → k + j ≤ 5 → K_wordAt_7 o0 o1 (nI k) (nI (y_rv (e1 ++ d :: e2))) (nI (k + j)) M = some (nI d, M) := by
  intro j
  induction j with
  | zero =>
    intro k d e1 e2 h1 h2 h3 hk
    have he : e1 = [] := List.length_eq_zero_iff.mp h1
    subst he
    have hl := y_rv_lt hw _ h2
    have hp : 10 ^ (([] : List Nat) ++ d :: e2).length ≤ 10 ^ 5 := Nat.pow_le_pow_right (by decide) h3
    have hd : d < w := h2 d (by simp)
    have hrv : y_rv ([] ++ d :: e2) = 10 * y_rv e2 + d + 1 := rfl
    rw [K_wordAt_7_eq, if_pos (by rw [Nat.add_zero]; exact nI_le (Nat.le_refl _) (by omega)), y_rem (by omega), y_sub (by omega), show y_rv ([] ++ d :: e2) % 10 - 1 = d by omega]
  | succ j ih =>
    intro k d e1 e2 h1 h2 h3 hk
    cases e1 with
    | nil => simp at h1
    | cons a e1 =>
      have hl := y_rv_lt hw _ h2
      have hp : 10 ^ (a :: e1 ++ d :: e2).length ≤ 10 ^ 5 := Nat.pow_le_pow_right (by decide) h3
      have ha : a < w := h2 a (by simp)
      have hrv : y_rv (a :: e1 ++ d :: e2) = 10 * y_rv (e1 ++ d :: e2) + a + 1 := rfl
      rw [K_wordAt_7_eq, if_neg (by rw [y_le (by omega) (by omega)]; omega), y_div (by omega) (by decide) (by decide), show y_rv (a :: e1 ++ d :: e2) / 10 = y_rv (e1 ++ d :: e2) by omega, show k + (j + 1) = (k + j) + 1 by omega, pk_m1]
      exact ih k d e1 e2 (by simpa using h1) (fun q hq => h2 q (List.mem_cons_of_mem _ hq)) (by simp at h3 ⊢; omega) (by omega)
/-- wordAt: the k-th word -/
theorem k_wordAt {M : xM} {w : Nat} (hw : w ≤ 8) {ds : List Nat} (h : y_no w ds) {k d : Nat} (hk : ds[k]? = some d) : K_wordAt (nI (y_cd ds)) (nI ds.length) (nI k) M = some (nI d, M) := by
  have hkl : k < ds.length := (List.getElem?_eq_some_iff.mp hk).1
  have h5 := h.2.1
  have hsp : ds = ds.take k ++ d :: ds.drop (k + 1) := by
    have h2 : ds[k] = d := (List.getElem?_eq_some_iff.mp hk).2
    rw [← h2, List.getElem_cons_drop, List.take_append_drop]
  have hrev : ds.reverse = (ds.drop (k + 1)).reverse ++ d :: (ds.take k).reverse := by
    conv => lhs; rw [hsp]
    simp
  rw [K_wordAt_eq, y_sub (by omega)]
  have h1 := k_wa7 (M := M) hw (some (nI (y_cd ds))) (some (nI ds.length)) (ds.length - (k + 1)) k d (ds.drop (k + 1)).reverse (ds.take k).reverse (by simp) (fun q hq => by rw [← hrev] at hq; exact h.2.2 q (List.mem_reverse.mp hq)) (by rw [← hrev, List.length_reverse]; exact h5) (by omega)
  rw [← hrev, show k + (ds.length - (k + 1)) = ds.length - 1 by omega] at h1
  exact h1

section
variable {M : xM} {w : Nat} {pr me ta : Nat → Nat}
/-- the reference holds words, and what they are taken for -/
def y_KW (M : xM) (w : Nat) (pr me ta : Nat → Nat) : Prop := w ≤ 8 ∧ M 42 0 = nI w ∧ (∀ j, j < w → M 42 (2 + j) = nI (pr j) ∧ M 42 (10 + j) = nI (me j) ∧ M 45 (7 + j) = nI (ta j)) ∧ ∀ j, j < w → pr j ≤ 9 ∧ me j ≤ 9 ∧ ta j ≤ 9
/-- the reference holds readers -/
def y_KR (M : xM) (r : Nat) (ki wa : Nat → Nat) : Prop := r ≤ 6 ∧ M 42 1 = nI r ∧ (∀ i, i < r → M 42 (18 + i) = nI (ki i) ∧ M 42 (24 + i) = nI (wa i)) ∧ ∀ i, i < r → ki i ≤ 3 ∧ wa i ≤ 9
theorem k_rb (hK : y_KW M w pr me ta) {ds : List Nat} (hds : y_no w ds) {kd : Nat} (hkd : kd ≤ 3) : ∀ (e : List Nat) (k a b c : Nat) (o : Option Int32), ds.drop k = e → k + e.length = ds.length → a + b + c + 1000 * e.length ≤ 10000 → K_readBy_18 (nI kd) (nI (y_cd ds)) (nI ds.length) (nI a) (nI b) (nI c) (nI k) o M = some (nI ((if kd = 0 then a + y_sum me e else if kd = 1 then b + y_sum ta e else if kd = 2 then c + y_fd ta k e else (a + y_sum me e) + (b + y_sum ta e)) % 10), M)
  | [], k, a, b, c, o, he, hk, hb => by
    have h5 := hds.2.1
    simp only [List.length_nil, Nat.add_zero] at hk hb
    rw [K_readBy_18_eq, if_pos (by rw [y_le (by omega) (by omega)]; omega)]
    simp only [y_eq (show kd < 2 ^ 31 by omega) (show 0 < 2 ^ 31 by decide), y_eq (show kd < 2 ^ 31 by omega) (show 1 < 2 ^ 31 by decide), y_eq (show kd < 2 ^ 31 by omega) (show 2 < 2 ^ 31 by decide), y_add, y_rem (show a < 2 ^ 31 by omega), y_rem (show b < 2 ^ 31 by omega), y_rem (show c < 2 ^ 31 by omega), y_rem (show a + b < 2 ^ 31 by omega), y_sum, y_fd, Nat.add_zero]
    split
    · rfl
    · split
      · rfl
      · split <;> rfl
  | d :: e, k, a, b, c, o, he, hk, hb => by
    obtain ⟨hw, h0, hv, hr⟩ := hK
    have h5 := hds.2.1
    simp only [List.length_cons] at hk hb
    have hg : ds[k]? = some d := by rw [← List.head?_drop, he]; rfl
    have hd : d < w := hds.2.2 d (List.mem_of_getElem? hg)
    obtain ⟨v1, v2, v3⟩ := hv d hd
    obtain ⟨r1, r2, r3⟩ := hr d hd
    have h45 : ta d * (k + 1) ≤ 9 * 5 := Nat.mul_le_mul r3 (by omega)
    have hdr : ds.drop (k + 1) = e := by rw [← List.drop_drop, he]; rfl
    rw [K_readBy_18_eq, if_neg (by rw [y_le (by omega) (by omega)]; omega), k_wordAt hw hds hg, Option.bind_some]
    simp only [y_add, y_mul, y_in2 (show 10 + d < 30 by omega) (by decide), y_in2 (show 7 + d < 15 by omega) (by decide), y_clamp (show 10 + d < 2 ^ 31 by omega), y_clamp (show 7 + d < 2 ^ 31 by omega), v2, v3]
    rw [k_rb ⟨hw, h0, hv, hr⟩ hds hkd e (k + 1) (a + me d) (b + ta d) (c + ta d * (k + 1)) _ hdr (by omega) (by omega)]
    simp only [y_sum, y_fd, Nat.add_assoc]
theorem k_readBy (hK : y_KW M w pr me ta) {ds : List Nat} (hds : y_no w ds) {kd : Nat} (hkd : kd ≤ 3) : K_readBy (nI kd) (nI (y_cd ds)) M = some (nI (y_read me ta kd ds), M) := by
  have h5 := hds.2.1
  rw [K_readBy_eq, k_long_ds hK.1 hK.2.1 hds, Option.bind_some, k_rb hK hds hkd ds 0 0 0 0 _ rfl (by omega) (by omega)]
  simp only [y_read, Nat.zero_add]
theorem y_read_lt (me ta : Nat → Nat) (kd : Nat) (ds : List Nat) : y_read me ta kd ds < 10 := Nat.mod_lt _ (by decide)
theorem k_does {r : Nat} {ki wa : Nat → Nat} (hK : y_KW M w pr me ta) (hR : y_KR M r ki wa) {ds : List Nat} (hds : y_no w ds) {i : Nat} (hi : i < r) : K_does (nI i) (nI (y_cd ds)) M = some (if y_read me ta (ki i) ds = wa i then nI 1 else nI 0, M) := by
  obtain ⟨hr6, h1, hv, hb⟩ := hR
  obtain ⟨v1, v2⟩ := hv i hi
  obtain ⟨b1, b2⟩ := hb i hi
  have hl := y_read_lt me ta (ki i) ds
  rw [K_does_eq]
  simp only [y_add, y_in2 (show 18 + i < 30 by omega) (by decide), y_clamp (show 18 + i < 2 ^ 31 by omega), v1, k_readBy hK hds b1, Option.bind_some, y_in2 (show 24 + i < 30 by omega) (by decide), y_clamp (show 24 + i < 2 ^ 31 by omega), v2, y_eq (show y_read me ta (ki i) ds < 2 ^ 31 by omega) (show wa i < 2 ^ 31 by omega)]
  split <;> rfl
theorem y_bit_or6 : ∀ s, s < 64 → ∀ d, d < 6 → (nI s ||| ((nI 1) <<< (nI d &&& nI 31))) = nI (s ||| 2 ^ d) := by decide +kernel
theorem y_or0 (s : Nat) : nI s ||| nI 0 = nI s := by
  rw [show nI 0 = (0 : Int32) from rfl]
  simp
theorem y_who_lt (me ta ki wa : Nat → Nat) (ds : List Nat) : ∀ n, y_who me ta ki wa ds n < 2 ^ n
  | 0 => by show 0 < 1; decide
  | n + 1 => by
    have h := y_who_lt me ta ki wa ds n
    have hp : 2 ^ n < 2 ^ (n + 1) := Nat.pow_lt_pow_right (by decide) (by omega)
    refine Nat.or_lt_two_pow (by omega) ?_
    split
    · exact hp
    · exact Nat.two_pow_pos _
theorem k_who4 {r : Nat} {ki wa : Nat → Nat} (hK : y_KW M w pr me ta) (hR : y_KR M r ki wa) {ds : List Nat} (hds : y_no w ds) : ∀ (n i : Nat), i + n = r → K_whoDoes_4 (nI (y_cd ds)) (nI (y_who me ta ki wa ds i)) (nI i) M = some (nI (y_who me ta ki wa ds r), M)
  | 0, i, h => by
    have hr := hR.1
    rw [K_whoDoes_4_eq, hR.2.1, if_pos (by rw [y_le (by omega) (by omega)]; omega), show i = r by omega]
  | n + 1, i, h => by
    have hr := hR.1
    have hs := y_who_lt me ta ki wa ds i
    have hp : 2 ^ i ≤ 2 ^ 6 := Nat.pow_le_pow_right (by decide) (by omega)
    rw [K_whoDoes_4_eq, hR.2.1, if_neg (by rw [y_le (by omega) (by omega)]; omega), k_does hK hR hds (by omega), Option.bind_some, y_or0, y_bit_or6 _ (by omega) _ (by omega), y_add]
    have ih := k_who4 hK hR hds n (i + 1) (by omega)
    rw [show y_who me ta ki wa ds (i + 1) = y_who me ta ki wa ds i ||| (if y_read me ta (ki i) ds = wa i then 2 ^ i else 0) from rfl] at ih
    by_cases hd : y_read me ta (ki i) ds = wa i
    · rw [if_pos hd] at ih ⊢
      rw [if_neg (show ¬ nI 1 = nI 0 by decide)]
      exact ih
    · rw [if_neg hd, Nat.or_zero] at ih
      rw [if_neg hd, if_pos (show nI 0 = nI 0 from rfl)]
      exact ih
theorem k_whoDoes {r : Nat} {ki wa : Nat → Nat} (hK : y_KW M w pr me ta) (hR : y_KR M r ki wa) {ds : List Nat} (hds : y_no w ds) : K_whoDoes (nI (y_cd ds)) M = some (nI (y_who me ta ki wa ds r), M) := by
  rw [K_whoDoes_eq]
  exact k_who4 hK hR hds r 0 (by omega)
theorem k_wo11 (hw : w ≤ 8) {ds : List Nat} (hds : y_no w ds) : ∀ (e : List Nat) (k s : Nat), ds.drop k = e → k + e.length = ds.length → s < 256 → K_wordsOf_11 (nI (y_cd ds)) (nI ds.length) (nI s) (nI k) M = some (nI (y_sb s e), M)
  | [], k, s, he, hk, hs => by
    have h5 := hds.2.1
    simp only [List.length_nil, Nat.add_zero] at hk
    rw [K_wordsOf_11_eq, if_pos (by rw [y_le (by omega) (by omega)]; omega)]
    rfl
  | d :: e, k, s, he, hk, hs => by
    have h5 := hds.2.1
    simp only [List.length_cons] at hk
    have hg : ds[k]? = some d := by rw [← List.head?_drop, he]; rfl
    have hd : d < w := hds.2.2 d (List.mem_of_getElem? hg)
    have hdr : ds.drop (k + 1) = e := by rw [← List.drop_drop, he]; rfl
    rw [K_wordsOf_11_eq, if_neg (by rw [y_le (by omega) (by omega)]; omega), k_wordAt hw hds hg, Option.bind_some]
    simp only [y_add, y_bit_or s hs d (by omega)]
    exact k_wo11 hw hds e (k + 1) _ hdr (by omega) (y_or_lt hs (by omega))
theorem k_wordsOf (hw : w ≤ 8) (hM : M 42 0 = nI w) {ds : List Nat} (hds : y_no w ds) : K_wordsOf (nI (y_cd ds)) M = some (nI (y_sb 0 ds), M) := by
  rw [K_wordsOf_eq, k_long_ds hw hM hds, Option.bind_some]
  exact k_wo11 hw hds ds 0 0 rfl (by omega) (by omega)
theorem y_bit1 : ∀ s, s < 1024 → ∀ k, k < 10 → ((nI s >>> (nI k &&& nI 31)) &&& nI 1) = nI (s / 2 ^ k % 2) := by decide +kernel
theorem k_ones4 {s : Nat} (hs : s < 1024) : ∀ (n k : Nat), k + n = 10 → K_ones_4 (nI s) (nI (y_on s k)) (nI k) M = some (nI (y_ones s), M)
  | 0, k, h => by
    have h10 : k = 10 := by omega
    subst h10
    rw [K_ones_4_eq, if_pos (by rw [y_le (by omega) (by omega)]; omega)]
    rfl
  | n + 1, k, h => by
    rw [K_ones_4_eq, if_neg (by rw [y_le (by omega) (by omega)]; omega), y_bit1 s hs k (by omega), y_add, y_add]
    exact k_ones4 hs n (k + 1) (by omega)
theorem k_ones {s : Nat} (hs : s < 1024) : K_ones (nI s) M = some (nI (y_ones s), M) := by
  rw [K_ones_eq]
  exact k_ones4 hs 10 0 (by omega)
theorem y_on_or : ∀ s, s < 256 → ∀ d, d < 8 → y_ones (s ||| 2 ^ d) + s / 2 ^ d % 2 = y_ones s + 1 := by decide +kernel
theorem y_sb_len : ∀ (ds : List Nat) (s : Nat), s < 256 → (∀ d ∈ ds, d < 8) → y_ones (y_sb s ds) ≤ y_ones s + ds.length
  | [], _, _, _ => Nat.le_refl _
  | d :: r, s, hs, hd => by
    have h1 := y_sb_len r (s ||| 2 ^ d) (y_or_lt hs (hd d List.mem_cons_self)) (fun q hq => hd q (List.mem_cons_of_mem _ hq))
    have h2 := y_on_or s hs d (hd d List.mem_cons_self)
    show y_ones (y_sb (s ||| 2 ^ d) r) ≤ y_ones s + (r.length + 1)
    omega
theorem y_ones_ds {ds : List Nat} (hw : w ≤ 8) (hds : y_no w ds) : y_ones (y_sb 0 ds) ≤ ds.length := by
  have h := y_sb_len ds 0 (by omega) (fun d hd => by have := hds.2.2 d hd; omega)
  have h0 : y_ones 0 = 0 := by decide
  omega
theorem k_pr20 (hK : y_KW M w pr me ta) {ds : List Nat} (hds : y_no w ds) : ∀ (e : List Nat) (k a : Nat), ds.drop k = e → k + e.length = ds.length → a + 100 * e.length ≤ 10000 → K_priceOf_20 (nI (y_cd ds)) (nI ds.length) (nI a) (nI k) M = some (nI (a + y_sum pr e), M)
  | [], k, a, he, hk, hb => by
    have h5 := hds.2.1
    simp only [List.length_nil, Nat.add_zero] at hk
    rw [K_priceOf_20_eq, if_pos (by rw [y_le (by omega) (by omega)]; omega)]
    rfl
  | d :: e, k, a, he, hk, hb => by
    obtain ⟨hw, h0, hv, hr⟩ := hK
    have h5 := hds.2.1
    simp only [List.length_cons] at hk hb
    have hg : ds[k]? = some d := by rw [← List.head?_drop, he]; rfl
    have hd : d < w := hds.2.2 d (List.mem_of_getElem? hg)
    obtain ⟨v1, v2, v3⟩ := hv d hd
    obtain ⟨r1, r2, r3⟩ := hr d hd
    have hdr : ds.drop (k + 1) = e := by rw [← List.drop_drop, he]; rfl
    rw [K_priceOf_20_eq, if_neg (by rw [y_le (by omega) (by omega)]; omega), k_wordAt hw hds hg, Option.bind_some]
    simp only [y_add, y_in2 (show 2 + d < 30 by omega) (by decide), y_clamp (show 2 + d < 2 ^ 31 by omega), v1]
    rw [k_pr20 ⟨hw, h0, hv, hr⟩ hds e (k + 1) (a + pr d) hdr (by omega) (by omega), show y_sum pr (d :: e) = pr d + y_sum pr e from rfl, Nat.add_assoc]
theorem k_priceOf (hK : y_KW M w pr me ta) {ds : List Nat} (hds : y_no w ds) : K_priceOf (nI (y_cd ds)) M = some (nI (y_price pr ds), M) := by
  have hw := hK.1
  have h5 := hds.2.1
  have hs := y_sb_lt ds 0 (by omega) (fun d hd => by have := hds.2.2 d hd; omega)
  have ho := y_ones_ds hw hds
  rw [K_priceOf_eq, k_long_ds hw hK.2.1 hds, Option.bind_some, k_wordsOf hw hK.2.1 hds, Option.bind_some, k_ones (by omega), Option.bind_some]
  show K_priceOf_20 (nI (y_cd ds)) (nI ds.length) (nI ds.length - nI (y_ones (y_sb 0 ds))) (nI 0) M = _
  rw [y_sub ho, k_pr20 hK hds ds 0 _ rfl (by omega) (by omega)]
  rfl
end
