/-! cheapest: the order of the notices -/
def y_fo {α : Type} (f : Nat → α → α) : Nat → α → α
  | 0, b => b
  | n + 1, b => f n (y_fo f n b)
theorem y_fo_s {α : Type} (f : Nat → α → α) (n : Nat) (b : α) : y_fo f (n + 1) b = f n (y_fo f n b) := rfl
theorem y_fo_add {α : Type} (f : Nat → α → α) (m : Nat) (b : α) : ∀ n, y_fo f (m + n) b = y_fo (fun k => f (m + k)) n (y_fo f m b)
  | 0 => rfl
  | n + 1 => by rw [← Nat.add_assoc, y_fo_s, y_fo_s, y_fo_add f m b n]
theorem y_fo_skip {α : Type} {f : Nat → α → α} (b : α) : ∀ n, (∀ k, k < n → f k b = b) → y_fo f n b = b
  | 0, _ => rfl
  | n + 1, h => by rw [y_fo_s, y_fo_skip b n (fun k hk => h k (by omega)), h n (by omega)]
theorem y_fo_ext {α : Type} {f g : Nat → α → α} (b : α) : ∀ n, (∀ k, k < n → ∀ b, f k b = g k b) → y_fo f n b = y_fo g n b
  | 0, _ => rfl
  | n + 1, h => by rw [y_fo_s, y_fo_s, y_fo_ext b n (fun k hk => h k (by omega)), h n (by omega)]
/-- all notices that begin with e and have n words more, in their order -/
def y_H {α : Type} (st : α → List Nat → α) (w : Nat) : Nat → List Nat → α → α
  | 0 => fun e b => st b e
  | n + 1 => fun e b => y_fo (fun d b => y_H st w n (e ++ [d]) b) w b
theorem y_H_0 {α : Type} (st : α → List Nat → α) (w : Nat) (e : List Nat) (b : α) : y_H st w 0 e b = st b e := rfl
theorem y_H_s {α : Type} (st : α → List Nat → α) (w n : Nat) (e : List Nat) (b : α) : y_H st w (n + 1) e b = y_fo (fun d b => y_H st w n (e ++ [d]) b) w b := rfl
/-- numbers one after another -/
def y_G {α : Type} (F : Nat → α → α) : Nat → Nat → α → α
  | _, 0, b => b
  | c, n + 1, b => y_G F (c + 1) n (F c b)
theorem y_G_s {α : Type} (F : Nat → α → α) (c n : Nat) (b : α) : y_G F c (n + 1) b = y_G F (c + 1) n (F c b) := rfl
theorem y_G_add {α : Type} (F : Nat → α → α) (n : Nat) : ∀ (m c : Nat) (b : α), y_G F c (m + n) b = y_G F (c + m) n (y_G F c m b)
  | 0, c, b => by rw [Nat.zero_add]; rfl
  | m + 1, c, b => by
    rw [show m + 1 + n = (m + n) + 1 by omega, y_G_s, y_G_add F n m, y_G_s, show c + 1 + m = c + (m + 1) by omega]
theorem y_G_skip {α : Type} {F : Nat → α → α} (b : α) : ∀ (n c : Nat), (∀ k, c ≤ k → k < c + n → F k b = b) → y_G F c n b = b
  | 0, _, _ => rfl
  | n + 1, c, h => by rw [y_G_s, h c (by omega) (by omega), y_G_skip b n (c + 1) (fun k h1 h2 => h k (by omega) (by omega))]
theorem y_G_sub {α : Type} (F : Nat → α → α) (c s : Nat) (b : α) : ∀ m, y_G F c (m * s) b = y_fo (fun q b => y_G F (c + q * s) s b) m b
  | 0 => by rw [Nat.zero_mul]; rfl
  | m + 1 => by rw [Nat.succ_mul, y_G_add, y_G_sub F c s b m, y_fo_s]
theorem y_rv_dw {w : Nat} (hw : w ≤ 8) : ∀ (e : List Nat) (p : Nat), (∀ d ∈ e, d < w) → y_rv e / 10 ^ p % 10 ≤ w
  | [], p, _ => by show 0 / 10 ^ p % 10 ≤ w; simp
  | a :: e, 0, h => by
    have ha := h a List.mem_cons_self
    rw [show y_rv (a :: e) = 10 * y_rv e + a + 1 from rfl, show (10 * y_rv e + a + 1) / 10 ^ 0 = 10 * y_rv e + a + 1 from Nat.div_one _]
    omega
  | a :: e, p + 1, h => by
    have ha := h a List.mem_cons_self
    rw [show y_rv (a :: e) = 10 * y_rv e + a + 1 from rfl, Nat.pow_succ, Nat.mul_comm (10 ^ p) 10, ← Nat.div_div_eq_div_mul, show (10 * y_rv e + a + 1) / 10 = y_rv e by omega]
    exact y_rv_dw hw e p (fun d hd => h d (List.mem_cons_of_mem _ hd))
theorem y_code_bad {w c n : Nat} (hw : w ≤ 8) (hc : c < 2 ^ 31) (h : w < c / 10 ^ n % 10 ∨ (c / 10 ^ n % 10 = 0 ∧ 10 ^ (n + 1) ≤ c)) : y_code w (nI c) = none := by
  cases hcd : y_code w (nI c) with
  | none => rfl
  | some ds =>
    exfalso
    obtain ⟨hds, he⟩ := y_code_some hw hcd
    have hl := y_cd_lt hw hds
    rw [y_eq hc (by omega)] at he
    subst he
    rcases h with h | ⟨h1, h2⟩
    · have := y_rv_dw hw ds.reverse n (fun d hd => hds.2.2 d (List.mem_reverse.mp hd))
      unfold y_cd at h
      omega
    · by_cases q : n < ds.length
      · exact y_cd_dg hw hds q h1
      · have h3 := y_cd_lt10 hw hds.2.2
        have h4 : 10 ^ ds.length ≤ 10 ^ (n + 1) := Nat.pow_le_pow_right (by decide) (by omega)
        omega
theorem y_blk {A t n : Nat} (ht : t < 10 ^ n) : (A * 10 ^ n + t) / 10 ^ n = A := by
  rw [Nat.add_comm, Nat.add_mul_div_right _ _ (Nat.pow_pos (by decide)), Nat.div_eq_of_lt ht, Nat.zero_add]
/-- what a number does: nothing where it is no notice -/
def y_F {α : Type} (st : α → List Nat → α) (w c : Nat) (b : α) : α := match y_code w (nI c) with
  | some ds => st b ds
  | none => b
theorem y_F_bad {α : Type} {st : α → List Nat → α} {w c n : Nat} (b : α) (hw : w ≤ 8) (hc : c < 2 ^ 31) (h : w < c / 10 ^ n % 10 ∨ (c / 10 ^ n % 10 = 0 ∧ 10 ^ (n + 1) ≤ c)) : y_F st w c b = b := by
  unfold y_F
  rw [y_code_bad hw hc h]
theorem y_F_cd {α : Type} {st : α → List Nat → α} {w : Nat} {ds : List Nat} (b : α) (hw : w ≤ 8) (hds : y_no w ds) : y_F st w (y_cd ds) b = st b ds := by
  unfold y_F
  rw [y_code_cd hw hds]
section
variable {α : Type} {st : α → List Nat → α} {w : Nat}
theorem y_G_bad (hw : w ≤ 8) {A n : Nat} (hA : (A + 1) * 10 ^ n < 2 ^ 31) (h : w < A % 10 ∨ (A % 10 = 0 ∧ 1 ≤ A)) (b : α) : y_G (y_F st w) (A * 10 ^ n) (10 ^ n) b = b := by
  refine y_G_skip b _ _ (fun k h1 h2 => ?_)
  obtain ⟨t, rfl⟩ : ∃ t, k = A * 10 ^ n + t := ⟨k - A * 10 ^ n, by omega⟩
  have ht : t < 10 ^ n := by omega
  rw [Nat.add_mul] at hA
  refine y_F_bad (n := n) b hw (by omega) ?_
  rw [y_blk ht]
  rcases h with h | ⟨h3, h4⟩
  · exact Or.inl h
  · refine Or.inr ⟨h3, ?_⟩
    have h5 : 10 * 10 ^ n ≤ A * 10 ^ n := Nat.mul_le_mul (by omega) (Nat.le_refl _)
    rw [Nat.pow_succ]
    omega
theorem y_cd_pos {a : Nat} {e : List Nat} : 0 < y_cd (a :: e) := by
  rw [y_cd_cons]
  have h : 0 < 10 ^ e.length := Nat.pow_pos (by decide)
  have h2 : 1 * 10 ^ e.length ≤ (a + 1) * 10 ^ e.length := Nat.mul_le_mul (by omega) (Nat.le_refl _)
  omega
theorem y_G_blk (hw : w ≤ 8) : ∀ (n : Nat) (e : List Nat) (b : α), y_no w e → e.length + n ≤ 5 → y_G (y_F st w) (y_cd e * 10 ^ n) (10 ^ n) b = y_H st w n e b
  | 0, e, b, he, hl => by
    rw [show y_cd e * 10 ^ 0 = y_cd e by omega, show 10 ^ 0 = 0 + 1 from rfl, y_G_s, y_F_cd b hw he]
    rfl
  | n + 1, e, b, he, hl => by
    have hcl := y_cd_lt10 hw he.2.2
    have hp0 : 0 < 10 ^ n := Nat.pow_pos (by decide)
    have hbig : ∀ q, q ≤ 9 → (10 * y_cd e + q + 1) * 10 ^ n < 2 ^ 31 := by
      intro q hq
      have h1 : (10 * y_cd e + q + 1) * 10 ^ n ≤ (10 * 10 ^ e.length) * 10 ^ n := Nat.mul_le_mul (by omega) (Nat.le_refl _)
      have h2 : (10 * 10 ^ e.length) * 10 ^ n = 10 ^ (e.length + n + 1) := by
        rw [Nat.mul_assoc, ← Nat.pow_add, Nat.pow_succ, Nat.mul_comm]
      have h3 : 10 ^ (e.length + n + 1) ≤ 10 ^ 5 := Nat.pow_le_pow_right (by decide) (by omega)
      omega
    have hc0 : 1 ≤ y_cd e := (y_cd_lt hw he).2
    have e1 : ∀ q, y_cd e * 10 ^ (n + 1) + q * 10 ^ n = (10 * y_cd e + q) * 10 ^ n := by
      intro q
      rw [Nat.pow_succ, Nat.add_mul, Nat.mul_comm 10, Nat.mul_assoc, Nat.mul_comm 10]
    rw [show (10 : Nat) ^ (n + 1) = 10 * 10 ^ n by rw [Nat.pow_succ, Nat.mul_comm], y_G_sub]
    rw [show y_cd e * (10 * 10 ^ n) = y_cd e * 10 ^ (n + 1) by rw [Nat.pow_succ, Nat.mul_comm 10]]
    simp only [e1]
    have s0 : ∀ b, y_G (y_F st w) ((10 * y_cd e + 0) * 10 ^ n) (10 ^ n) b = b := fun b => y_G_bad hw (hbig 0 (by omega)) (Or.inr ⟨by omega, by omega⟩) b
    have s1 : ∀ k, k < w → ∀ b, y_G (y_F st w) ((10 * y_cd e + (1 + k)) * 10 ^ n) (10 ^ n) b = y_H st w n (e ++ [k]) b := by
      intro k hk b
      have ih := y_G_blk hw n (e ++ [k]) b ⟨by simp, by simp; omega, fun d hd => by
        rcases List.mem_append.mp hd with h | h
        · exact he.2.2 d h
        · simp at h; omega⟩ (by simp; omega)
      rw [y_cd_snoc] at ih
      rw [show 10 * y_cd e + (1 + k) = 10 * y_cd e + k + 1 by omega]
      exact ih
    have s2 : ∀ k, k < 9 - w → ∀ b, y_G (y_F st w) ((10 * y_cd e + (1 + w + k)) * 10 ^ n) (10 ^ n) b = b := fun k hk b => y_G_bad hw (hbig (1 + w + k) (by omega)) (Or.inl (by omega)) b
    have f1 := y_fo_add (fun q b => y_G (y_F st w) ((10 * y_cd e + q) * 10 ^ n) (10 ^ n) b) (1 + w) b (9 - w)
    rw [show 1 + w + (9 - w) = 10 by omega] at f1
    rw [f1, y_fo_skip _ _ (fun k hk => s2 k hk _), y_fo_add, y_H_s]
    rw [show y_fo (fun q b => y_G (y_F st w) ((10 * y_cd e + q) * 10 ^ n) (10 ^ n) b) 1 b = b from s0 b]
    exact y_fo_ext b w s1
/-- all notices of n + 1 words -/
theorem y_G_len (hw : w ≤ 8) {n : Nat} (hn : n ≤ 3) (b : α) : y_G (y_F st w) (10 ^ n) (9 * 10 ^ n) b = y_H st w (n + 1) [] b := by
  have hp0 : 0 < 10 ^ n := Nat.pow_pos (by decide)
  have hp3 : 10 ^ n ≤ 10 ^ 3 := Nat.pow_le_pow_right (by decide) hn
  have e1 : ∀ q, 10 ^ n + q * 10 ^ n = (q + 1) * 10 ^ n := by
    intro q
    rw [Nat.add_mul, Nat.one_mul, Nat.add_comm]
  rw [y_G_sub]
  simp only [e1]
  have s1 : ∀ k, k < w → ∀ b, y_G (y_F st w) ((k + 1) * 10 ^ n) (10 ^ n) b = y_H st w n ([] ++ [k]) b := fun k hk b => by
    have h := y_G_blk (st := st) hw n [k] b ⟨by simp, by simp, fun d hd => by simp at hd; omega⟩ (by simp; omega)
    rw [show y_cd [k] = k + 1 by show 10 * 0 + k + 1 = k + 1; omega] at h
    exact h
  have s2 : ∀ k, k < 9 - w → ∀ b, y_G (y_F st w) ((w + k + 1) * 10 ^ n) (10 ^ n) b = b := fun k hk b => y_G_bad hw (by
    have h1 : (w + k + 1 + 1) * 10 ^ n ≤ 10 * 10 ^ n := Nat.mul_le_mul (by omega) (Nat.le_refl _)
    omega) (Or.inl (by omega)) b
  have f1 := y_fo_add (fun q b => y_G (y_F st w) ((q + 1) * 10 ^ n) (10 ^ n) b) w b (9 - w)
  rw [show w + (9 - w) = 9 by omega] at f1
  rw [f1, y_fo_skip _ _ (fun k hk => s2 k hk _), y_H_s]
  exact y_fo_ext b w s1
theorem y_F_hi (hw : w ≤ 8) {c : Nat} (h1 : 8889 ≤ c) (h2 : c < 10000) (b : α) : y_F st w c b = b := by
  unfold y_F
  cases hcd : y_code w (nI c) with
  | none => rfl
  | some ds =>
    exfalso
    obtain ⟨hds, he⟩ := y_code_some hw hcd
    have hl := y_cd_lt hw hds
    rw [y_eq (by omega) (by omega)] at he
    by_cases q : ds.length ≤ 4
    · have h3 := y_rv_max hw ds.reverse (fun d hd => hds.2.2 d (List.mem_reverse.mp hd))
      rw [List.length_reverse] at h3
      have h4 : 10 ^ ds.length ≤ 10 ^ 4 := Nat.pow_le_pow_right (by decide) q
      unfold y_cd at he
      omega
    · have h5 := y_cd_dg hw hds (show 4 < ds.length by omega)
      rw [← he, Nat.div_eq_of_lt (by omega)] at h5
      exact h5 rfl
/-- all numbers up to 8888 -/
theorem y_G_all (hw : w ≤ 8) (b : α) : y_G (y_F st w) 1 8888 b = y_H st w 4 [] (y_H st w 3 [] (y_H st w 2 [] (y_H st w 1 [] b))) := by
  rw [← y_G_len hw (show 0 ≤ 3 by omega), ← y_G_len hw (show 1 ≤ 3 by omega), ← y_G_len hw (show 2 ≤ 3 by omega), ← y_G_len hw (show 3 ≤ 3 by omega)]
  rw [show (8888 : Nat) = 9 + (90 + (900 + 7889)) from rfl, y_G_add, y_G_add, y_G_add]
  show y_G (y_F st w) 1000 7889 _ = y_G (y_F st w) 1000 (7889 + 1111) _
  rw [y_G_add]
  exact (y_G_skip _ _ _ (fun k h1 h2 => y_F_hi hw (by omega) (by omega) _)).symm
end
