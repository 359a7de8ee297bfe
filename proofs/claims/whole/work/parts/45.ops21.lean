/-! matched: the first best of all, by parts -/
def y_mx (f : Nat → Nat) : Nat → Nat → Nat
  | 0, z => z
  | n + 1, z => max (y_mx f n z) (f n)
theorem y_mx_s (f : Nat → Nat) (n z : Nat) : y_mx f (n + 1) z = max (y_mx f n z) (f n) := rfl
theorem y_mx_0 (f : Nat → Nat) (z : Nat) : ∀ n, z ≤ y_mx f n z
  | 0 => Nat.le_refl _
  | n + 1 => Nat.le_trans (y_mx_0 f z n) (Nat.le_max_left _ _)
theorem y_mx_i (f : Nat → Nat) (z : Nat) : ∀ n i, i < n → f i ≤ y_mx f n z
  | 0, i, h => by omega
  | n + 1, i, h => by
    rw [y_mx_s]
    by_cases e : i = n
    · rw [e]; exact Nat.le_max_right _ _
    · exact Nat.le_trans (y_mx_i f z n i (by omega)) (Nat.le_max_left _ _)
theorem y_mx_or (f : Nat → Nat) (z : Nat) : ∀ n, y_mx f n z = z ∨ ∃ i, i < n ∧ y_mx f n z = f i
  | 0 => Or.inl rfl
  | n + 1 => by
    rw [y_mx_s]
    rcases Nat.le_total (y_mx f n z) (f n) with h | h
    · rw [Nat.max_eq_right h]; exact Or.inr ⟨n, by omega, rfl⟩
    · rw [Nat.max_eq_left h]
      rcases y_mx_or f z n with q | ⟨i, h1, h2⟩
      · exact Or.inl q
      · exact Or.inr ⟨i, by omega, h2⟩
theorem y_mx_le {f : Nat → Nat} {z B : Nat} (hz : z ≤ B) : ∀ n, (∀ i, i < n → f i ≤ B) → y_mx f n z ≤ B
  | 0, _ => hz
  | n + 1, h => by
    rw [y_mx_s]
    exact Nat.max_le.mpr ⟨y_mx_le hz n (fun i hi => h i (by omega)), h n (by omega)⟩
/-- the first that p tells, 6 where none -/
def y_ff (p : Nat → Bool) : Nat → Nat → Nat
  | 0, _ => 6
  | n + 1, i => if p i = true then i else y_ff p n (i + 1)
theorem y_ff_s (p : Nat → Bool) (n i : Nat) : y_ff p (n + 1) i = if p i = true then i else y_ff p n (i + 1) := rfl
theorem y_ff_spec (p : Nat → Bool) : ∀ n i, (y_ff p n i = 6 ∧ ∀ j, i ≤ j → j < i + n → ¬ p j = true) ∨ (i ≤ y_ff p n i ∧ y_ff p n i < i + n ∧ p (y_ff p n i) = true ∧ ∀ j, i ≤ j → j < y_ff p n i → ¬ p j = true)
  | 0, i => Or.inl ⟨rfl, fun j h1 h2 => by omega⟩
  | n + 1, i => by
    rw [y_ff_s]
    by_cases e : p i = true
    · rw [if_pos e]
      exact Or.inr ⟨Nat.le_refl _, by omega, e, fun j h1 h2 => by omega⟩
    · rw [if_neg e]
      rcases y_ff_spec p n (i + 1) with ⟨h1, h2⟩ | ⟨h1, h2, h3, h4⟩
      · refine Or.inl ⟨h1, fun j h3 h4 => ?_⟩
        by_cases q : j = i
        · rw [q]; exact e
        · exact h2 j (by omega) (by omega)
      · refine Or.inr ⟨by omega, by omega, h3, fun j h5 h6 => ?_⟩
        by_cases q : j = i
        · rw [q]; exact e
        · exact h4 j (by omega) h6
section
variable (ab : Nat → Nat → Nat) (K r : Nat)
/-- how many of the last n notices can be matched where g is gone -/
def y_mo : Nat → Nat → Nat
  | 0 => fun _ => 0
  | n + 1 => fun g => y_mx (fun i => if ab (K - 1 - n) i = 1 ∧ g / 2 ^ i % 2 = 0 then 1 + y_mo n (g ||| 2 ^ i) else 0) r (y_mo n g)
theorem y_mo_s (n g : Nat) : y_mo ab K r (n + 1) g = y_mx (fun i => if ab (K - 1 - n) i = 1 ∧ g / 2 ^ i % 2 = 0 then 1 + y_mo ab K r n (g ||| 2 ^ i) else 0) r (y_mo ab K r n g) := rfl
theorem y_mo_le : ∀ n g, y_mo ab K r n g ≤ n
  | 0, g => Nat.le_refl _
  | n + 1, g => by
    rw [y_mo_s]
    refine y_mx_le (by have := y_mo_le n g; omega) r (fun i _ => ?_)
    split
    · have := y_mo_le n (g ||| 2 ^ i); omega
    · omega
/-- whom the first of the last n + 1 notices gets -/
def y_fw (n g : Nat) : Nat := y_ff (fun i => decide (ab (K - 1 - n) i = 1 ∧ g / 2 ^ i % 2 = 0 ∧ 1 + y_mo ab K r n (g ||| 2 ^ i) = y_mo ab K r (n + 1) g)) r 0
theorem y_fw_spec (n g : Nat) : (y_fw ab K r n g = 6 ∧ y_mo ab K r (n + 1) g = y_mo ab K r n g ∧ ∀ i, i < r → ab (K - 1 - n) i = 1 → g / 2 ^ i % 2 = 0 → 1 + y_mo ab K r n (g ||| 2 ^ i) < y_mo ab K r (n + 1) g) ∨ (y_fw ab K r n g < r ∧ (ab (K - 1 - n) (y_fw ab K r n g) = 1 ∧ g / 2 ^ (y_fw ab K r n g) % 2 = 0) ∧ 1 + y_mo ab K r n (g ||| 2 ^ (y_fw ab K r n g)) = y_mo ab K r (n + 1) g ∧ ∀ i, i < y_fw ab K r n g → ab (K - 1 - n) i = 1 → g / 2 ^ i % 2 = 0 → 1 + y_mo ab K r n (g ||| 2 ^ i) < y_mo ab K r (n + 1) g) := by
  have hge : ∀ i, i < r → ab (K - 1 - n) i = 1 → g / 2 ^ i % 2 = 0 → 1 + y_mo ab K r n (g ||| 2 ^ i) ≤ y_mo ab K r (n + 1) g := by
    intro i hi h1 h2
    have h := y_mx_i (fun i => if ab (K - 1 - n) i = 1 ∧ g / 2 ^ i % 2 = 0 then 1 + y_mo ab K r n (g ||| 2 ^ i) else 0) (y_mo ab K r n g) r i hi
    simp only [if_pos (And.intro h1 h2)] at h
    rw [y_mo_s]
    exact h
  rcases y_ff_spec (fun i => decide (ab (K - 1 - n) i = 1 ∧ g / 2 ^ i % 2 = 0 ∧ 1 + y_mo ab K r n (g ||| 2 ^ i) = y_mo ab K r (n + 1) g)) r 0 with ⟨h1, h2⟩ | ⟨h1, h2, h3, h4⟩
  · refine Or.inl ⟨h1, ?_, fun i hi q1 q2 => ?_⟩
    · rcases y_mx_or (fun i => if ab (K - 1 - n) i = 1 ∧ g / 2 ^ i % 2 = 0 then 1 + y_mo ab K r n (g ||| 2 ^ i) else 0) (y_mo ab K r n g) r with q | ⟨i, hi, q⟩
      · rw [y_mo_s]; exact q
      · by_cases e : ab (K - 1 - n) i = 1 ∧ g / 2 ^ i % 2 = 0
        · exfalso
          simp only [if_pos e] at q
          exact h2 i (by omega) (by omega) (decide_eq_true ⟨e.1, e.2, by rw [y_mo_s, q]⟩)
        · simp only [if_neg e] at q
          have h0 := y_mx_0 (fun i => if ab (K - 1 - n) i = 1 ∧ g / 2 ^ i % 2 = 0 then 1 + y_mo ab K r n (g ||| 2 ^ i) else 0) (y_mo ab K r n g) r
          rw [y_mo_s]
          omega
    · have h3 := hge i hi q1 q2
      have h4 : ¬ 1 + y_mo ab K r n (g ||| 2 ^ i) = y_mo ab K r (n + 1) g := fun q => h2 i (by omega) (by omega) (decide_eq_true ⟨q1, q2, q⟩)
      omega
  · have h5 := of_decide_eq_true h3
    refine Or.inr ⟨by have : y_fw ab K r n g < 0 + r := h2; omega, ⟨h5.1, h5.2.1⟩, h5.2.2, fun i hi q1 q2 => ?_⟩
    have hi' : i < r := by
      have : y_fw ab K r n g < 0 + r := h2
      omega
    have h6 := hge i hi' q1 q2
    have h7 : ¬ 1 + y_mo ab K r n (g ||| 2 ^ i) = y_mo ab K r (n + 1) g := fun q => h4 i (by omega) hi (decide_eq_true ⟨q1, q2, q⟩)
    omega
/-- whom the notice asked for gets -/
def y_ro (x : Int32) : Nat → Nat → Int32
  | 0 => fun _ => -4
  | n + 1 => fun g => if y_fw ab K r n g = 6 then y_ro x n g else if nI (K - 1 - n) = x then nI (y_fw ab K r n g) else y_ro x n (g ||| 2 ^ y_fw ab K r n g)
theorem y_ro_s (x : Int32) (n g : Nat) : y_ro ab K r x (n + 1) g = if y_fw ab K r n g = 6 then y_ro ab K r x n g else if nI (K - 1 - n) = x then nI (y_fw ab K r n g) else y_ro ab K r x n (g ||| 2 ^ y_fw ab K r n g) := rfl
/-- a number's digits, the last notice's first -/
def y_D (c t : Nat) : Nat := c / 7 ^ t % 7
def y_bm (c : Nat) : Nat → Nat
  | 0 => 0
  | t + 1 => if y_D c t < 6 then y_bm c t ||| 2 ^ y_D c t else y_bm c t
def y_bn (c : Nat) : Nat → Nat
  | 0 => 0
  | t + 1 => if y_D c t < 6 then y_bn c t + 1 else y_bn c t
def y_bo (x : Int32) (c : Nat) : Nat → Int32
  | 0 => -4
  | t + 1 => if y_D c t < 6 then (if nI (K - 1 - t) = x then nI (y_D c t) else y_bo x c t) else y_bo x c t
def y_bv (g c : Nat) : Nat → Nat
  | 0 => 1
  | t + 1 => if y_bv g c t = 1 ∧ (y_D c t < 6 → (y_D c t < r ∧ y_bm c t / 2 ^ y_D c t % 2 = 0 ∧ g / 2 ^ y_D c t % 2 = 0 ∧ ab (K - 1 - t) (y_D c t) = 1)) then 1 else 0
theorem y_bm_s (c t : Nat) : y_bm c (t + 1) = if y_D c t < 6 then y_bm c t ||| 2 ^ y_D c t else y_bm c t := rfl
theorem y_bn_s (c t : Nat) : y_bn c (t + 1) = if y_D c t < 6 then y_bn c t + 1 else y_bn c t := rfl
theorem y_bo_s (x : Int32) (c t : Nat) : y_bo K x c (t + 1) = if y_D c t < 6 then (if nI (K - 1 - t) = x then nI (y_D c t) else y_bo K x c t) else y_bo K x c t := rfl
theorem y_bv_d (g c t : Nat) : y_bv ab K r g c (t + 1) = if y_bv ab K r g c t = 1 ∧ (y_D c t < 6 → (y_D c t < r ∧ y_bm c t / 2 ^ y_D c t % 2 = 0 ∧ g / 2 ^ y_D c t % 2 = 0 ∧ ab (K - 1 - t) (y_D c t) = 1)) then 1 else 0 := rfl
theorem y_bv_s (g c t : Nat) : y_bv ab K r g c (t + 1) = 1 ↔ y_bv ab K r g c t = 1 ∧ (y_D c t < 6 → (y_D c t < r ∧ y_bm c t / 2 ^ y_D c t % 2 = 0 ∧ g / 2 ^ y_D c t % 2 = 0 ∧ ab (K - 1 - t) (y_D c t) = 1)) := by
  rw [y_bv_d]
  split
  · next h => exact ⟨fun _ => h, fun _ => rfl⟩
  · next h => exact ⟨fun q => absurd q (by decide), fun q => absurd q h⟩
theorem y_bv01 (g c : Nat) : ∀ t, y_bv ab K r g c t = 0 ∨ y_bv ab K r g c t = 1
  | 0 => Or.inr rfl
  | t + 1 => by
    rw [y_bv_d]
    split
    · exact Or.inr rfl
    · exact Or.inl rfl
theorem y_bm_lt (c : Nat) : ∀ t, y_bm c t < 64
  | 0 => by show 0 < 64; decide
  | t + 1 => by
    rw [y_bm_s]
    split
    · next h => exact y_or6 (y_bm_lt c t) h
    · exact y_bm_lt c t
theorem y_bn_le (c : Nat) : ∀ t, y_bn c t ≤ t
  | 0 => Nat.le_refl _
  | t + 1 => by
    have := y_bn_le c t
    rw [y_bn_s]
    split <;> omega
/-- to keep off x, too -/
theorem y_bv_or {g x : Nat} (hg : g < 64) (hx : x < 6) (c : Nat) : ∀ t, y_bv ab K r (g ||| 2 ^ x) c t = 1 ↔ y_bv ab K r g c t = 1 ∧ y_bm c t / 2 ^ x % 2 = 0
  | 0 => by
    show 1 = 1 ↔ 1 = 1 ∧ 0 / 2 ^ x % 2 = 0
    simp
  | t + 1 => by
    have ih := y_bv_or hg hx c t
    have hm := y_bm_lt c t
    rw [y_bv_s, y_bv_s, ih, y_bm_s]
    by_cases h : y_D c t < 6
    · rw [if_pos h, y_orb g hg x hx _ h, y_orb _ hm _ h x hx]
      by_cases e : x = y_D c t
      · subst e
        simp [h]
      · simp only [if_neg e, if_neg (fun q => e (Eq.symm q)), h, true_implies]
        constructor
        · rintro ⟨⟨a, b⟩, cc⟩; exact ⟨⟨a, cc⟩, b⟩
        · rintro ⟨⟨a, cc⟩, b⟩; exact ⟨⟨a, b⟩, cc⟩
    · rw [if_neg h]
      simp only [h, false_implies, and_true]
/-- the first digit apart -/
theorem y_bv_top {g : Nat} (hg : g < 64) (c t : Nat) (h : y_D c t < 6) : y_bv ab K r g c (t + 1) = 1 ↔ (y_D c t < r ∧ ab (K - 1 - t) (y_D c t) = 1 ∧ g / 2 ^ y_D c t % 2 = 0) ∧ y_bv ab K r (g ||| 2 ^ y_D c t) c t = 1 := by
  rw [y_bv_s, y_bv_or ab K r hg h]
  constructor
  · rintro ⟨a, b⟩
    obtain ⟨b1, b2, b3, b4⟩ := b h
    exact ⟨⟨b1, b4, b3⟩, a, b2⟩
  · rintro ⟨⟨b1, b4, b3⟩, a, b2⟩
    exact ⟨a, fun _ => ⟨b1, b2, b3, b4⟩⟩
theorem y_bv_top6 (g c t : Nat) (h : ¬ y_D c t < 6) : y_bv ab K r g c (t + 1) = 1 ↔ y_bv ab K r g c t = 1 := by
  rw [y_bv_s]
  exact ⟨fun q => q.1, fun q => ⟨q, fun z => absurd z h⟩⟩
/-- one number looked at -/
def y_mF (x : Int32) (n g m : Nat) (h : Int32 → Int32) (c : Nat) (b : Nat × Int32) : Nat × Int32 := if y_bv ab K r g c n = 1 ∧ b.1 < m + y_bn c n then (m + y_bn c n, h (y_bo K x c n)) else b
theorem y_fm {s : Nat → Nat × Int32 → Nat × Int32} {ok : Nat → Prop} {v : Nat → Nat} {o : Nat → Int32} (hs1 : ∀ q, q < 7 → ok q → ∀ b, s q b = if b.1 < v q then (v q, o q) else b) (hs0 : ∀ q, q < 7 → ¬ ok q → ∀ b, s q b = b) {q : Nat} (hq : q < 7) (hok : ok q) (hlt : ∀ j, j < q → ok j → v j < v q) (hle : ∀ j, j < 7 → ok j → v j ≤ v q) (b : Nat × Int32) : y_fo s 7 b = if b.1 < v q then (v q, o q) else b := by
  by_cases hb : b.1 < v q
  · rw [if_pos hb]
    have key : ∀ j, j ≤ q → (y_fo s j b).1 < v q := by
      intro j
      induction j with
      | zero => exact fun _ => hb
      | succ j ih =>
        intro hj
        have ih := ih (by omega)
        rw [y_fo_s]
        by_cases e : ok j
        · rw [hs1 j (by omega) e]
          split
          · exact hlt j (by omega) e
          · exact ih
        · rw [hs0 j (by omega) e]
          exact ih
    have e1 := y_fo_add s (q + 1) b (6 - q)
    rw [show q + 1 + (6 - q) = 7 by omega] at e1
    rw [e1, y_fo_s, hs1 q hq hok, if_pos (key q (Nat.le_refl _))]
    refine y_fo_skip _ _ (fun k hk => ?_)
    by_cases e : ok (q + 1 + k)
    · rw [hs1 _ (by omega) e, if_neg (by have := hle (q + 1 + k) (by omega) e; show ¬ v q < _; omega)]
    · rw [hs0 _ (by omega) e]
  · rw [if_neg hb]
    refine y_fo_skip _ _ (fun k hk => ?_)
    by_cases e : ok k
    · rw [hs1 _ (by omega) e, if_neg (by have := hle k (by omega) e; omega)]
    · rw [hs0 _ (by omega) e]
theorem y_G_ext {α : Type} {F F' : Nat → α → α} : ∀ (n c : Nat) (b : α), (∀ k, c ≤ k → k < c + n → ∀ b, F k b = F' k b) → y_G F c n b = y_G F' c n b
  | 0, _, _, _ => rfl
  | n + 1, c, b, h => by rw [y_G_s, y_G_s, h c (by omega) (by omega), y_G_ext n (c + 1) _ (fun k h1 h2 => h k (by omega) (by omega))]
theorem y_D_blk {A q n k : Nat} (hq : q < 7) (h1 : (7 * A + q) * 7 ^ n ≤ k) (h2 : k < (7 * A + q) * 7 ^ n + 7 ^ n) : y_D k n = q := by
  obtain ⟨t, rfl⟩ : ∃ t, k = (7 * A + q) * 7 ^ n + t := ⟨k - (7 * A + q) * 7 ^ n, by omega⟩
  unfold y_D
  rw [Nat.add_comm, Nat.add_mul_div_right _ _ (Nat.pow_pos (by decide)), Nat.div_eq_of_lt (by omega)]
  omega
/-- a whole block of numbers -/
theorem y_mG (x : Int32) (hr : r ≤ 6) : ∀ (n g m A : Nat) (h : Int32 → Int32) (b : Nat × Int32), g < 64 → y_G (y_mF ab K r x n g m h) (A * 7 ^ n) (7 ^ n) b = if b.1 < m + y_mo ab K r n g then (m + y_mo ab K r n g, h (y_ro ab K r x n g)) else b
  | 0, g, m, A, h, b, hg => by
    show (if y_bv ab K r g (A * 7 ^ 0) 0 = 1 ∧ b.1 < m + y_bn (A * 7 ^ 0) 0 then (m + y_bn (A * 7 ^ 0) 0, h (y_bo K x (A * 7 ^ 0) 0)) else b) = if b.1 < m + y_mo ab K r 0 g then (m + y_mo ab K r 0 g, h (y_ro ab K r x 0 g)) else b
    by_cases e : b.1 < m + y_mo ab K r 0 g
    · rw [if_pos e, if_pos (show y_bv ab K r g (A * 7 ^ 0) 0 = 1 ∧ b.1 < m + y_bn (A * 7 ^ 0) 0 from ⟨rfl, e⟩)]
      rfl
    · rw [if_neg e, if_neg (show ¬ (y_bv ab K r g (A * 7 ^ 0) 0 = 1 ∧ b.1 < m + y_bn (A * 7 ^ 0) 0) from fun q => e q.2)]
  | n + 1, g, m, A, h, b, hg => by
    have ih := y_mG x hr n
    have e1 : ∀ q, A * 7 ^ (n + 1) + q * 7 ^ n = (7 * A + q) * 7 ^ n := by
      intro q
      rw [Nat.pow_succ, Nat.add_mul, Nat.mul_comm 7, Nat.mul_assoc, Nat.mul_comm 7]
    rw [show (7 : Nat) ^ (n + 1) = 7 * 7 ^ n by rw [Nat.pow_succ, Nat.mul_comm], y_G_sub]
    rw [show A * (7 * 7 ^ n) = A * 7 ^ (n + 1) by rw [Nat.pow_succ, Nat.mul_comm 7]]
    simp only [e1]
    have s6 : ∀ b, y_G (y_mF ab K r x (n + 1) g m h) ((7 * A + 6) * 7 ^ n) (7 ^ n) b = if b.1 < m + y_mo ab K r n g then (m + y_mo ab K r n g, h (y_ro ab K r x n g)) else b := by
      intro b
      rw [← ih g m (7 * A + 6) h b hg]
      refine y_G_ext _ _ _ (fun k h1 h2 b => ?_)
      have hD := y_D_blk (show 6 < 7 by decide) h1 h2
      have hbn : y_bn k (n + 1) = y_bn k n := by rw [y_bn_s, if_neg (show ¬ y_D k n < 6 by omega)]
      have hbo : y_bo K x k (n + 1) = y_bo K x k n := by rw [y_bo_s, if_neg (show ¬ y_D k n < 6 by omega)]
      unfold y_mF
      rw [hbn, hbo]
      simp only [y_bv_top6 ab K r g k n (show ¬ y_D k n < 6 by omega)]
    have s1 : ∀ q, q < 6 → (q < r ∧ ab (K - 1 - n) q = 1 ∧ g / 2 ^ q % 2 = 0) → ∀ b, y_G (y_mF ab K r x (n + 1) g m h) ((7 * A + q) * 7 ^ n) (7 ^ n) b = if b.1 < m + (1 + y_mo ab K r n (g ||| 2 ^ q)) then (m + (1 + y_mo ab K r n (g ||| 2 ^ q)), if nI (K - 1 - n) = x then h (nI q) else h (y_ro ab K r x n (g ||| 2 ^ q))) else b := by
      intro q hq hok b
      have hI := ih (g ||| 2 ^ q) (m + 1) (7 * A + q) (fun z => if nI (K - 1 - n) = x then h (nI q) else h z) b (y_or6 hg hq)
      rw [show m + (1 + y_mo ab K r n (g ||| 2 ^ q)) = m + 1 + y_mo ab K r n (g ||| 2 ^ q) by omega, ← hI]
      refine y_G_ext _ _ _ (fun k h1 h2 b => ?_)
      have hD := y_D_blk (show q < 7 by omega) h1 h2
      have hT := y_bv_top ab K r hg k n (by omega)
      rw [hD] at hT
      have hbn : y_bn k (n + 1) = y_bn k n + 1 := by rw [y_bn_s, if_pos (show y_D k n < 6 by omega)]
      have hbo : y_bo K x k (n + 1) = if nI (K - 1 - n) = x then nI q else y_bo K x k n := by rw [y_bo_s, if_pos (show y_D k n < 6 by omega), hD]
      unfold y_mF
      rw [hbn, hbo]
      simp only [hT, hok, and_self, true_and, show m + (y_bn k n + 1) = m + 1 + y_bn k n by omega]
      by_cases e : nI (K - 1 - n) = x
      · simp only [if_pos e]
      · simp only [if_neg e]
    have s0 : ∀ q, q < 6 → ¬ (q < r ∧ ab (K - 1 - n) q = 1 ∧ g / 2 ^ q % 2 = 0) → ∀ b, y_G (y_mF ab K r x (n + 1) g m h) ((7 * A + q) * 7 ^ n) (7 ^ n) b = b := by
      intro q hq hno b
      refine y_G_skip _ _ _ (fun k h1 h2 => ?_)
      have hD := y_D_blk (show q < 7 by omega) h1 h2
      have hT := y_bv_top ab K r hg k n (by omega)
      rw [hD] at hT
      unfold y_mF
      rw [if_neg (fun z => hno (hT.mp z.1).1)]
    have key := fun q hq hok hlt hle => y_fm (s := fun q b => y_G (y_mF ab K r x (n + 1) g m h) ((7 * A + q) * 7 ^ n) (7 ^ n) b) (ok := fun q => q = 6 ∨ (q < r ∧ ab (K - 1 - n) q = 1 ∧ g / 2 ^ q % 2 = 0)) (v := fun q => if q = 6 then m + y_mo ab K r n g else m + (1 + y_mo ab K r n (g ||| 2 ^ q))) (o := fun q => if q = 6 then h (y_ro ab K r x n g) else if nI (K - 1 - n) = x then h (nI q) else h (y_ro ab K r x n (g ||| 2 ^ q))) (by
      intro q hq ho b
      by_cases e : q = 6
      · subst e
        exact s6 b
      · simp only [if_neg e]
        exact s1 q (by omega) (by rcases ho with ho | ho; exact absurd ho e; exact ho) b) (by
      intro q hq ho b
      exact s0 q (by
        by_cases e : q = 6
        · exact absurd (Or.inl e) ho
        · omega) (fun z => ho (Or.inr z)) b) (q := q) hq hok hlt hle b
    have hmo := y_mx_0 (fun i => if ab (K - 1 - n) i = 1 ∧ g / 2 ^ i % 2 = 0 then 1 + y_mo ab K r n (g ||| 2 ^ i) else 0) (y_mo ab K r n g) r
    rw [← y_mo_s] at hmo
    have hmi : ∀ i, i < r → ab (K - 1 - n) i = 1 → g / 2 ^ i % 2 = 0 → 1 + y_mo ab K r n (g ||| 2 ^ i) ≤ y_mo ab K r (n + 1) g := by
      intro i hi h1 h2
      have h := y_mx_i (fun i => if ab (K - 1 - n) i = 1 ∧ g / 2 ^ i % 2 = 0 then 1 + y_mo ab K r n (g ||| 2 ^ i) else 0) (y_mo ab K r n g) r i hi
      simp only [if_pos (And.intro h1 h2)] at h
      rw [y_mo_s]
      exact h
    rw [y_ro_s]
    rcases y_fw_spec ab K r n g with ⟨f1, f2, f3⟩ | ⟨f1, ⟨f2, f3⟩, f4, f5⟩
    · have k6 := key 6 (by decide) (Or.inl rfl) (fun j hj ho => by
        rcases ho with ho | ⟨o1, o2, o3⟩
        · omega
        · have := f3 j o1 o2 o3
          show (if j = 6 then _ else _) < m + y_mo ab K r n g
          rw [if_neg (by omega)]
          omega) (fun j hj ho => by
        show (if j = 6 then _ else _) ≤ m + y_mo ab K r n g
        by_cases e : j = 6
        · rw [if_pos e]; exact Nat.le_refl _
        · rw [if_neg e]
          rcases ho with ho | ⟨o1, o2, o3⟩
          · omega
          · have := f3 j o1 o2 o3
            omega)
      rw [if_pos f1, f2]
      exact k6
    · have hq6 : y_fw ab K r n g ≠ 6 := by omega
      have kq := key (y_fw ab K r n g) (by omega) (Or.inr ⟨f1, f2, f3⟩) (fun j hj ho => by
        show (if j = 6 then _ else _) < (if y_fw ab K r n g = 6 then _ else _)
        rw [if_neg (by omega), if_neg hq6]
        rcases ho with ho | ⟨o1, o2, o3⟩
        · omega
        · have := f5 j hj o2 o3
          omega) (fun j hj ho => by
        show (if j = 6 then _ else _) ≤ (if y_fw ab K r n g = 6 then _ else _)
        rw [if_neg hq6]
        by_cases e : j = 6
        · rw [if_pos e]; omega
        · rw [if_neg e]
          rcases ho with ho | ⟨o1, o2, o3⟩
          · omega
          · have := hmi j o1 o2 o3
            omega)
      rw [if_neg hq6]
      rw [kq]
      simp only [if_neg hq6, f4]
      by_cases e : nI (K - 1 - n) = x
      · simp only [if_pos e]
      · simp only [if_neg e]
end
