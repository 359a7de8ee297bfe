/-! numbers: all that the programs compute stays small; conditions on numbers nI n as conditions on n; the memory -/
theorem y_lt {a b : Nat} (ha : a < 2 ^ 31) (hb : b < 2 ^ 31) : (nI a < nI b) = (a < b) := propext (nI_ltI ha hb)
theorem y_le {a b : Nat} (ha : a < 2 ^ 31) (hb : b < 2 ^ 31) : (nI a ≤ nI b) = (a ≤ b) := propext (nI_leI ha hb)
theorem y_eq {a b : Nat} (ha : a < 2 ^ 31) (hb : b < 2 ^ 31) : (nI a = nI b) = (a = b) := propext (nI_eq ha hb)
theorem y_add (a b : Nat) : nI a + nI b = nI (a + b) := nI_add a b
theorem y_mul (a b : Nat) : nI a * nI b = nI (a * b) := pk_mul a b
theorem y_sub {a b : Nat} (h : b ≤ a) : nI a - nI b = nI (a - b) := pk_sub h
theorem y_div {a d : Nat} (ha : a < 2 ^ 31) (h0 : 0 < d) (hd : d < 2 ^ 31) : nI a / nI d = nI (a / d) := pk_div ha h0 hd
theorem y_clamp {n : Nat} (h : n < 2 ^ 31) : (nI n).toNatClampNeg = n := nI_clamp h
theorem y_in {α : Type} {j N : Nat} (h : j < N) (hN : N < 2 ^ 31) (a b : α) : (if nI j < nI 0 ∨ N ≤ (nI j).toNatClampNeg then a else b) = b := if_neg (nI_in h hN)
theorem y_n10 : ¬ nI 10 = nI 0 := by decide
/-- an int is below 0, or a number -/
theorem y_cases (x : Int32) : x < nI 0 ∨ ∃ n : Nat, n < 2 ^ 31 ∧ x = nI n := by
  by_cases h : x < nI 0
  · exact Or.inl h
  · obtain ⟨j, h1, h2⟩ := nI_of (x := x) h
    exact Or.inr ⟨j, h1, h2⟩
theorem y_neg_lt {x : Int32} {n : Nat} (h : x < nI 0) (hn : n < 2 ^ 31) : x < nI n := by
  rw [Int32.lt_iff_toInt_lt] at h ⊢
  have h0 : (nI 0).toInt = 0 := nI_toInt (by omega)
  have h1 : (nI n).toInt = n := nI_toInt hn
  omega
theorem y_neg_nle {x : Int32} {n : Nat} (h : x < nI 0) (hn : n < 2 ^ 31) : ¬ nI n ≤ x := by
  rw [Int32.le_iff_toInt_le]
  rw [Int32.lt_iff_toInt_lt] at h
  have h0 : (nI 0).toInt = 0 := nI_toInt (by omega)
  have h1 : (nI n).toInt = n := nI_toInt hn
  omega
theorem y_neg_le {x : Int32} {n : Nat} (h : x < nI 0) (hn : n < 2 ^ 31) : x ≤ nI n := by
  rw [Int32.le_iff_toInt_le]
  rw [Int32.lt_iff_toInt_lt] at h
  have h0 : (nI 0).toInt = 0 := nI_toInt (by omega)
  have h1 : (nI n).toInt = n := nI_toInt hn
  omega
theorem y_neg_ne {x : Int32} {n : Nat} (h : x < nI 0) (hn : n < 2 ^ 31) : ¬ x = nI n := fun e => by
  have := y_neg_nle h hn
  rw [e] at this
  exact this (nI_le (Nat.le_refl _) hn)
theorem y_ne_neg {n : Nat} (hn : n < 2 ^ 31) : ¬ nI n = -1 := by
  intro e
  have h : (-1 : Int32) < nI 0 := by decide
  rw [← e] at h
  exact absurd h (nI_pos hn)
/-- the memory -/
theorem y_set_eq {M : xM} {a : Nat} {f : Nat → Int32} : x_set M a f a = f := if_pos rfl
theorem y_set_ne {M : xM} {a b : Nat} {f : Nat → Int32} (h : b ≠ a) : x_set M a f b = M b := if_neg h
theorem y_up_ne {M : xM} {a b k : Nat} {v : Int32} (h : b ≠ a) : x_up M a k v b = M b := if_neg h
theorem y_up_eq {M : xM} {a k : Nat} {v : Int32} : x_up M a k v a k = v := by unfold x_up; rw [y_set_eq]; exact if_pos rfl
theorem y_up_ne2 {M : xM} {a k j : Nat} {v : Int32} (h : j ≠ k) : x_up M a k v a j = M a j := by unfold x_up; rw [y_set_eq]; exact if_neg h
theorem y_up_at (M : xM) (a k : Nat) (v : Int32) (b j : Nat) : x_up M a k v b j = if b = a ∧ j = k then v else M b j := by
  by_cases h : b = a
  · subst h
    by_cases h2 : j = k
    · subst h2; rw [y_up_eq, if_pos ⟨rfl, rfl⟩]
    · rw [y_up_ne2 h2, if_neg (fun q => h2 q.2)]
  · rw [y_up_ne h, if_neg (fun q => h q.1)]
/-- the cells of the reference are as they were -/
def y_KM (M M' : xM) : Prop := ∀ a, 40 ≤ a → M' a = M a
/-- the cells of the class (and the script) are as they were -/
def y_KC (M M' : xM) : Prop := ∀ a, a < 40 ∨ 49 ≤ a → M' a = M a
theorem y_KM.rf {M : xM} : y_KM M M := fun _ _ => rfl
theorem y_KC.rf {M : xM} : y_KC M M := fun _ _ => rfl
theorem y_KM.tr {M M1 M2 : xM} (h : y_KM M M1) (h2 : y_KM M1 M2) : y_KM M M2 := fun a ha => (h2 a ha).trans (h a ha)
theorem y_KC.tr {M M1 M2 : xM} (h : y_KC M M1) (h2 : y_KC M1 M2) : y_KC M M2 := fun a ha => (h2 a ha).trans (h a ha)
/-- all but the listed cells are as they were -/
def y_but (l : List Nat) (M M' : xM) : Prop := ∀ a, a ∉ l → M' a = M a
theorem y_but.rf {l : List Nat} {M : xM} : y_but l M M := fun _ _ => rfl
theorem y_but.tr {l : List Nat} {M M1 M2 : xM} (h : y_but l M M1) (h2 : y_but l M1 M2) : y_but l M M2 := fun a ha => (h2 a ha).trans (h a ha)
theorem y_but.mono {l l2 : List Nat} {M M' : xM} (h : y_but l M M') (hs : ∀ a ∈ l, a ∈ l2) : y_but l2 M M' := fun a ha => h a (fun q => ha (hs a q))
theorem y_but.up {l : List Nat} {M M1 : xM} {a k : Nat} {v : Int32} (h : y_but l M M1) (ha : a ∈ l) : y_but l M (x_up M1 a k v) := fun b hb => (y_up_ne (fun q : b = a => hb (by rw [q]; exact ha))).trans (h b hb)
theorem y_but.set {l : List Nat} {M M1 : xM} {a : Nat} {f : Nat → Int32} (h : y_but l M M1) (ha : a ∈ l) : y_but l M (x_set M1 a f) := fun b hb => (y_set_ne (fun q : b = a => hb (by rw [q]; exact ha))).trans (h b hb)
theorem y_but.KM {l : List Nat} {M M' : xM} (h : y_but l M M') (hl : ∀ a ∈ l, a < 40) : y_KM M M' := fun a ha => h a (fun q => by have := hl a q; omega)
theorem y_but.KC {l : List Nat} {M M' : xM} (h : y_but l M M') (hl : ∀ a ∈ l, 40 ≤ a ∧ a < 49) : y_KC M M' := fun a ha => h a (fun q => by have := hl a q; omega)
/-! digits: a notice's words, the last ahead -/
def y_rv : List Nat → Nat
  | [] => 0
  | d :: r => 10 * y_rv r + d + 1
/-- the words of a number: the last ahead, at most f of them -/
def y_par (w : Nat) : Nat → Nat → Option (List Nat)
  | 0, n => if n = 0 then some [] else none
  | f + 1, n => if n = 0 then some [] else if 1 ≤ n % 10 ∧ n % 10 ≤ w then (y_par w f (n / 10)).map (fun r => (n % 10 - 1) :: r) else none
theorem y_par_0 (w f : Nat) : y_par w f 0 = some [] := by cases f <;> rfl
theorem y_par_spec {w : Nat} : ∀ (f n : Nat) (e : List Nat), y_par w f n = some e → n = y_rv e ∧ e.length ≤ f ∧ ∀ d ∈ e, d < w
  | 0, n, e, h => by
    unfold y_par at h
    split at h
    · next h0 => cases h; exact ⟨h0, Nat.le_refl _, fun d hd => by cases hd⟩
    · cases h
  | f + 1, n, e, h => by
    unfold y_par at h
    split at h
    · next h0 => cases h; exact ⟨h0, Nat.zero_le _, fun d hd => by cases hd⟩
    · split at h
      · next h0 h1 =>
        cases hp : y_par w f (n / 10) with
        | none => rw [hp] at h; cases h
        | some r =>
          rw [hp] at h
          cases h
          obtain ⟨a1, a2, a3⟩ := y_par_spec f (n / 10) r hp
          refine ⟨?_, by simp; omega, fun d hd => ?_⟩
          · show n = 10 * y_rv r + (n % 10 - 1) + 1
            omega
          · rcases List.mem_cons.mp hd with rfl | hd
            · omega
            · exact a3 d hd
      · cases h
theorem y_rv_pos {d : Nat} {r : List Nat} : 0 < y_rv (d :: r) := by show 0 < 10 * y_rv r + d + 1; omega
theorem y_par_rv {w : Nat} (hw : w ≤ 8) : ∀ (e : List Nat) (f : Nat), e.length ≤ f → (∀ d ∈ e, d < w) → y_par w f (y_rv e) = some e
  | [], f, _, _ => y_par_0 w f
  | d :: r, 0, h, _ => by simp at h
  | d :: r, f + 1, h, hd => by
    have h1 := hd d List.mem_cons_self
    have hn : y_rv (d :: r) = 10 * y_rv r + d + 1 := rfl
    unfold y_par
    rw [if_neg (by omega), if_pos (by omega), show y_rv (d :: r) / 10 = y_rv r by omega, y_par_rv hw r f (by simpa using h) (fun q hq => hd q (List.mem_cons_of_mem _ hq))]
    show some ((y_rv (d :: r) % 10 - 1) :: r) = some (d :: r)
    rw [show y_rv (d :: r) % 10 - 1 = d by omega]
theorem y_rv_lt {w : Nat} (hw : w ≤ 8) : ∀ (e : List Nat), (∀ d ∈ e, d < w) → y_rv e < 10 ^ e.length
  | [], _ => by decide
  | d :: r, hd => by
    have h1 := hd d List.mem_cons_self
    have h2 := y_rv_lt hw r (fun q hq => hd q (List.mem_cons_of_mem _ hq))
    show 10 * y_rv r + d + 1 < 10 ^ (r.length + 1)
    rw [Nat.pow_succ]
    omega
/-- a notice of words ds, the first ahead: its code -/
def y_cd (ds : List Nat) : Nat := y_rv ds.reverse
/-- a notice: one to five words -/
def y_no (w : Nat) (ds : List Nat) : Prop := 1 ≤ ds.length ∧ ds.length ≤ 5 ∧ ∀ d ∈ ds, d < w
/-- what notice an int tells -/
def y_code (w : Nat) (x : Int32) : Option (List Nat) := if nI 0 < x then (y_par w 5 x.toNatClampNeg).map List.reverse else none
theorem y_cd_lt {w : Nat} (hw : w ≤ 8) {ds : List Nat} (h : y_no w ds) : y_cd ds < 100000 ∧ 0 < y_cd ds := by
  have h1 := y_rv_lt hw ds.reverse (fun d hd => h.2.2 d (List.mem_reverse.mp hd))
  rw [List.length_reverse] at h1
  have h2 : 10 ^ ds.length ≤ 10 ^ 5 := Nat.pow_le_pow_right (by decide) h.2.1
  refine ⟨by unfold y_cd; omega, ?_⟩
  unfold y_cd
  cases hr : ds.reverse with
  | nil =>
    have h3 : ds.reverse.length = 0 := by rw [hr]; rfl
    rw [List.length_reverse] at h3
    have := h.1
    omega
  | cons d r => exact y_rv_pos
theorem y_code_cd {w : Nat} (hw : w ≤ 8) {ds : List Nat} (h : y_no w ds) : y_code w (nI (y_cd ds)) = some ds := by
  obtain ⟨h1, h2⟩ := y_cd_lt hw h
  unfold y_code
  rw [if_pos (by rw [y_lt (by omega) (by omega)]; exact h2), y_clamp (by omega)]
  unfold y_cd
  rw [y_par_rv hw _ 5 (by rw [List.length_reverse]; exact h.2.1) (fun d hd => h.2.2 d (List.mem_reverse.mp hd))]
  simp
theorem y_code_some {w : Nat} (hw : w ≤ 8) {x : Int32} {ds : List Nat} (h : y_code w x = some ds) : y_no w ds ∧ x = nI (y_cd ds) := by
  unfold y_code at h
  split at h
  · next hx =>
    rcases y_cases x with hn | ⟨n, hn, rfl⟩
    · exact absurd hx (fun q => by rw [Int32.lt_iff_toInt_lt] at q hn; omega)
    · rw [y_clamp hn] at h
      rw [y_lt (by omega) hn] at hx
      cases hp : y_par w 5 n with
      | none => rw [hp] at h; cases h
      | some e =>
        rw [hp] at h
        cases h
        obtain ⟨a1, a2, a3⟩ := y_par_spec _ _ _ hp
        refine ⟨⟨?_, by rw [List.length_reverse]; exact a2, fun d hd => a3 d (List.mem_reverse.mp hd)⟩, by unfold y_cd; rw [List.reverse_reverse, ← a1]⟩
        rw [List.length_reverse]
        cases e with
        | nil => exact absurd a1 (by show ¬ n = 0; omega)
        | cons d r => simp
  · cases h
