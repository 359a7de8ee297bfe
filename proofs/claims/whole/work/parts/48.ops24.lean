/-! the text's reading: what it says -/
abbrev yD : Type := (Nat × (Nat → Nat) × (Nat → Nat) × (Nat → Nat)) × (Nat × (Nat → Nat) × (Nat → Nat)) × Nat × (Nat → List Nat)
def y_tl (no : Nat → List Nat) (k : Nat) (ds : List Nat) (j : Nat) : List Nat := if j = k then ds else no j
def y_aw (D : yD) (a b c : Nat) : yD := ((D.1.1 + 1, y_tb D.1.2.1 D.1.1 a, y_tb D.1.2.2.1 D.1.1 b, y_tb D.1.2.2.2 D.1.1 c), D.2)
def y_ar (D : yD) (a b : Nat) : yD := (D.1, (D.2.1.1 + 1, y_tb D.2.1.2.1 D.2.1.1 a, y_tb D.2.1.2.2 D.2.1.1 b), D.2.2)
def y_an (D : yD) (ds : List Nat) : yD := (D.1, D.2.1, (D.2.2.1 + 1, y_tl D.2.2.2 D.2.2.1 ds))
def y_D0 : yD := ((0, fun _ => 0, fun _ => 0, fun _ => 0), (0, fun _ => 0, fun _ => 0), (0, fun _ => []))
def y_Dok (D : yD) : Prop := D.1.1 ≤ 8 ∧ D.2.1.1 ≤ 6 ∧ D.2.2.1 ≤ 6 ∧ (∀ j, j < D.1.1 → (1 ≤ D.1.2.1 j ∧ D.1.2.1 j ≤ 9) ∧ D.1.2.2.1 j ≤ 9 ∧ D.1.2.2.2 j ≤ 9) ∧ (∀ i, i < D.2.1.1 → D.2.1.2.1 i ≤ 3 ∧ D.2.1.2.2 i ≤ 9) ∧ ∀ k, k < D.2.2.1 → y_no D.1.1 (D.2.2.2 k)
/-- the class's draft, the reference's -/
def y_DC (M : xM) (D : yD) : Prop := M 10 6 = nI D.1.1 ∧ M 10 7 = nI D.2.1.1 ∧ M 10 8 = nI D.2.2.1 ∧ (∀ j, j < D.1.1 → M 11 j = nI (D.1.2.1 j) ∧ M 12 j = nI (D.1.2.2.1 j) ∧ M 13 j = nI (D.1.2.2.2 j)) ∧ (∀ i, i < D.2.1.1 → M 14 i = nI (D.2.1.2.1 i) ∧ M 15 i = nI (D.2.1.2.2 i)) ∧ ∀ k, k < D.2.2.1 → M 16 k = nI (y_cd (D.2.2.2 k))
def y_DK (M : xM) (D : yD) : Prop := M 43 0 = nI D.1.1 ∧ M 43 1 = nI D.2.1.1 ∧ M 44 0 = nI D.2.2.1 ∧ (∀ j, j < D.1.1 → M 43 (2 + j) = nI (D.1.2.1 j) ∧ M 43 (10 + j) = nI (D.1.2.2.1 j) ∧ M 44 (7 + j) = nI (D.1.2.2.2 j)) ∧ (∀ i, i < D.2.1.1 → M 43 (18 + i) = nI (D.2.1.2.1 i) ∧ M 43 (24 + i) = nI (D.2.1.2.2 i)) ∧ ∀ k, k < D.2.2.1 → M 44 (1 + k) = nI (y_cd (D.2.2.2 k))
section
variable (nt : Nat) (tx : Nat → Nat)
def y_ch (p : Nat) : Nat := if p < nt then tx p else 0
def y_fg (p : Nat) : Nat := if 48 ≤ y_ch nt tx p ∧ y_ch nt tx p ≤ 57 then y_ch nt tx p - 48 else 10
/-- words one after another, at most f: they, and where they end -/
def y_sc (w : Nat) : Nat → Nat → List Nat → List Nat × Nat
  | 0, p, ds => (ds, p)
  | f + 1, p, ds => if y_fg nt tx p < w then y_sc w f (p + 1) (ds ++ [y_fg nt tx p]) else (ds, p)
/-- an item at p: where it ends, the draft with it -/
def y_it (D : yD) (p : Nat) : Option (Nat × yD) :=
  if y_ch nt tx p = 119 then
    (if ((1 ≤ y_fg nt tx (p + 1) ∧ y_fg nt tx (p + 1) < 10) ∧ y_ch nt tx (p + 2) = 44) ∧ (y_fg nt tx (p + 3) < 10 ∧ y_ch nt tx (p + 4) = 44) ∧ (y_fg nt tx (p + 5) < 10 ∧ y_ch nt tx (p + 6) = 59) ∧ D.1.1 < 8 then some (p + 7, y_aw D (y_fg nt tx (p + 1)) (y_fg nt tx (p + 3)) (y_fg nt tx (p + 5))) else none)
  else if y_ch nt tx p = 114 then
    (if (y_fg nt tx (p + 1) < 4 ∧ y_ch nt tx (p + 2) = 44) ∧ (y_fg nt tx (p + 3) < 10 ∧ y_ch nt tx (p + 4) = 59) ∧ D.2.1.1 < 6 then some (p + 5, y_ar D (y_fg nt tx (p + 1)) (y_fg nt tx (p + 3))) else none)
  else if y_ch nt tx p = 110 then
    (if (y_sc nt tx D.1.1 5 (p + 1) []).1.length ≠ 0 ∧ y_ch nt tx (y_sc nt tx D.1.1 5 (p + 1) []).2 = 59 ∧ D.2.2.1 < 6 then some ((y_sc nt tx D.1.1 5 (p + 1) []).2 + 1, y_an D (y_sc nt tx D.1.1 5 (p + 1) []).1) else none)
  else none
/-- all items: where the first fault is, the draft -/
def y_pa : Nat → Nat → yD → Option Nat × yD
  | 0, _, D => (none, D)
  | n + 1, p, D => if nt ≤ p then (none, D) else match y_it nt tx D p with
    | none => (some p, D)
    | some q => y_pa n q.1 q.2
theorem y_pa_s (n p : Nat) (D : yD) : y_pa nt tx (n + 1) p D = if nt ≤ p then (none, D) else match y_it nt tx D p with
    | none => (some p, D)
    | some q => y_pa nt tx n q.1 q.2 := rfl
theorem y_sc_s (w f p : Nat) (ds : List Nat) : y_sc nt tx w (f + 1) p ds = if y_fg nt tx p < w then y_sc nt tx w f (p + 1) (ds ++ [y_fg nt tx p]) else (ds, p) := rfl
theorem y_sc_ok {w : Nat} : ∀ (f p : Nat) (ds : List Nat), (∀ d ∈ ds, d < w) → (∀ d ∈ (y_sc nt tx w f p ds).1, d < w) ∧ (y_sc nt tx w f p ds).1.length ≤ ds.length + f ∧ p ≤ (y_sc nt tx w f p ds).2 ∧ (y_sc nt tx w f p ds).2 ≤ p + f
  | 0, p, ds, h => ⟨h, by show ds.length ≤ ds.length + 0; omega, Nat.le_refl _, Nat.le_refl _⟩
  | f + 1, p, ds, h => by
    rw [y_sc_s]
    split
    · next q =>
      obtain ⟨h1, h2, h3, h4⟩ := y_sc_ok f (p + 1) (ds ++ [y_fg nt tx p]) (y_snoc_lt h q)
      refine ⟨h1, ?_, by omega, by omega⟩
      rw [List.length_append] at h2
      simp only [List.length_cons, List.length_nil] at h2
      omega
    · exact ⟨h, by show ds.length ≤ ds.length + (f + 1); omega, Nat.le_refl _, by show p ≤ p + (f + 1); omega⟩
theorem y_it_ok {D D' : yD} {p q : Nat} (h : y_it nt tx D p = some (q, D')) (hD : y_Dok D) : y_Dok D' ∧ p < q ∧ q ≤ p + 8 := by
  obtain ⟨d1, d2, d3, d4, d5, d6⟩ := hD
  unfold y_it at h
  split at h
  · split at h
    · next c =>
      obtain ⟨⟨⟨c1, c2⟩, -⟩, ⟨c3, -⟩, ⟨c4, -⟩, c5⟩ := c
      cases h
      refine ⟨⟨by show D.1.1 + 1 ≤ 8; omega, d2, d3, fun j hj => ?_, d5, fun k hk => ?_⟩, by omega, by omega⟩
      · show (1 ≤ y_tb D.1.2.1 D.1.1 _ j ∧ y_tb D.1.2.1 D.1.1 _ j ≤ 9) ∧ y_tb D.1.2.2.1 D.1.1 _ j ≤ 9 ∧ y_tb D.1.2.2.2 D.1.1 _ j ≤ 9
        unfold y_tb
        by_cases e : j = D.1.1
        · simp only [if_pos e]
          exact ⟨⟨c1, by omega⟩, by omega, by omega⟩
        · simp only [if_neg e]
          exact d4 j (by have : j < D.1.1 + 1 := hj; omega)
      · have h1 := d6 k hk
        exact ⟨h1.1, h1.2.1, fun d hd => by have := h1.2.2 d hd; show d < D.1.1 + 1; omega⟩
    · cases h
  · split at h
    · split at h
      · next c =>
        obtain ⟨⟨c1, -⟩, ⟨c3, -⟩, c5⟩ := c
        cases h
        refine ⟨⟨d1, by show D.2.1.1 + 1 ≤ 6; omega, d3, d4, fun j hj => ?_, d6⟩, by omega, by omega⟩
        show y_tb D.2.1.2.1 D.2.1.1 _ j ≤ 3 ∧ y_tb D.2.1.2.2 D.2.1.1 _ j ≤ 9
        unfold y_tb
        by_cases e : j = D.2.1.1
        · simp only [if_pos e]
          exact ⟨by omega, by omega⟩
        · simp only [if_neg e]
          exact d5 j (by have : j < D.2.1.1 + 1 := hj; omega)
      · cases h
    · split at h
      · split at h
        · next c =>
          obtain ⟨c1, -, c5⟩ := c
          obtain ⟨s1, s2, s3, s4⟩ := y_sc_ok nt tx (w := D.1.1) 5 (p + 1) [] (fun d hd => by cases hd)
          cases h
          refine ⟨⟨d1, d2, by show D.2.2.1 + 1 ≤ 6; omega, d4, d5, fun k hk => ?_⟩, by omega, by omega⟩
          show y_no D.1.1 (y_tl D.2.2.2 D.2.2.1 _ k)
          unfold y_tl
          by_cases e : k = D.2.2.1
          · rw [if_pos e]
            exact ⟨by omega, by simpa using s2, s1⟩
          · rw [if_neg e]
            exact d6 k (by have : k < D.2.2.1 + 1 := hk; omega)
        · cases h
      · cases h
theorem y_pa_ok : ∀ (n p : Nat) (D : yD), y_Dok D → y_Dok (y_pa nt tx n p D).2 ∧ ∀ q, (y_pa nt tx n p D).1 = some q → q < nt
  | 0, p, D, h => ⟨h, fun q hq => by cases hq⟩
  | n + 1, p, D, h => by
    rw [y_pa_s]
    by_cases e : nt ≤ p
    · rw [if_pos e]
      exact ⟨h, fun q hq => by cases hq⟩
    · rw [if_neg e]
      cases hi : y_it nt tx D p with
      | none => exact ⟨h, fun q hq => by cases hq; omega⟩
      | some q => exact y_pa_ok n q.1 q.2 (y_it_ok nt tx hi h).1
end
/-! the class's reader -/
def y_txC (M : xM) (nt : Nat) (tx : Nat → Nat) : Prop := nt ≤ 200 ∧ M 1 1 = nI nt ∧ ∀ j, j < nt → M 2 j = nI (tx j) ∧ 32 ≤ tx j ∧ tx j ≤ 126
theorem y_txC.keep {M M' : xM} {nt : Nat} {tx : Nat → Nat} (h : y_txC M nt tx) (h1 : M' 1 = M 1) (h2 : M' 2 = M 2) : y_txC M' nt tx := by
  unfold y_txC at h ⊢; rw [h1, h2]; exact h
theorem y_p0 {α : Type} {c : Prop} [Decidable c] (x y : α) : (if (if c then nI 1 else nI 0) = nI 0 then x else y) = if c then y else x := by
  by_cases h : c
  · rw [if_pos h, if_pos h, if_neg (show ¬ nI 1 = nI 0 by decide)]
  · rw [if_neg h, if_neg h, if_pos rfl]
def y_fi (f : Nat) : Int32 := if f < 10 then nI f else -4
theorem y_fi_1 (f : Nat) : (y_fi f < nI 1) = ¬ (1 ≤ f ∧ f < 10) := by
  apply propext
  unfold y_fi
  by_cases h : f < 10
  · rw [if_pos h, y_lt (by omega) (by omega)]; omega
  · rw [if_neg h]
    exact ⟨fun _ => by omega, fun _ => by decide⟩
theorem y_fi_0 (f : Nat) : (y_fi f < nI 0) = ¬ f < 10 := by
  apply propext
  unfold y_fi
  by_cases h : f < 10
  · rw [if_pos h, y_lt (by omega) (by omega)]; omega
  · rw [if_neg h]
    exact ⟨fun _ => by omega, fun _ => by decide⟩
section
variable {M : xM} {nt : Nat} {tx : Nat → Nat}
theorem t_has (hT : y_txC M nt tx) {p c : Nat} (hp : p < 2 ^ 30) (hc : 32 ≤ c ∧ c < 200) : T_hasAt_t (nI p) (nI c) M = some (if y_ch nt tx p = c then nI 1 else nI 0, M) := by
  obtain ⟨h1, h2, h3⟩ := hT
  rw [T_hasAt_t_eq, if_neg (y_nn (by omega)), h2]
  unfold y_ch
  by_cases e : p < nt
  · obtain ⟨v1, v2, v3⟩ := h3 p e
    rw [if_neg (by rw [y_le (by omega) (by omega)]; omega), y_in (show p < 200 by omega) (by decide), y_clamp (by omega), v1, if_pos e]
    simp only [y_eq (show tx p < 2 ^ 31 by omega) (show c < 2 ^ 31 by omega)]
    split <;> rfl
  · rw [if_pos (by rw [y_le (by omega) (by omega)]; omega), if_neg e, if_neg (by omega)]
theorem t_fig (hT : y_txC M nt tx) {p : Nat} (hp : p < 2 ^ 30) : T_figureAt_t (nI p) M = some (y_fi (y_fg nt tx p), M) := by
  obtain ⟨h1, h2, h3⟩ := hT
  rw [T_figureAt_t_eq, if_neg (y_nn (by omega)), h2]
  unfold y_fi y_fg y_ch
  by_cases e : p < nt
  · obtain ⟨v1, v2, v3⟩ := h3 p e
    rw [if_neg (by rw [y_le (by omega) (by omega)]; omega)]
    simp only [y_in2 (show p < 200 by omega) (show 200 < 2 ^ 31 by decide), y_clamp (show p < 2 ^ 31 by omega), v1, if_pos e, y_lt (show tx p < 2 ^ 31 by omega) (show 48 < 2 ^ 31 by decide), y_le (show tx p < 2 ^ 31 by omega) (show 57 < 2 ^ 31 by decide)]
    by_cases e1 : tx p < 48
    · rw [if_pos e1, if_neg (show ¬ (48 ≤ tx p ∧ tx p ≤ 57) by omega), if_neg (by omega)]
    · by_cases e2 : tx p ≤ 57
      · rw [if_neg e1, if_pos e2, if_pos (show 48 ≤ tx p ∧ tx p ≤ 57 by omega), if_pos (by omega), y_sub (by omega)]
      · rw [if_neg e1, if_neg e2, if_neg (show ¬ (48 ≤ tx p ∧ tx p ≤ 57) by omega), if_neg (by omega)]
  · rw [if_pos (by rw [y_le (by omega) (by omega)]; omega), if_neg e, if_neg (show ¬ (48 ≤ 0 ∧ 0 ≤ 57) by omega), if_neg (by omega)]
theorem t_hasW {w f : Nat} (hw : w ≤ 8) (h : M 10 6 = nI w) : P_hasWord_d (y_fi f) M = some (if f < w then nI 1 else nI 0, M) := by
  rw [P_hasWord_d_eq, h]
  simp only [y_fi_0]
  by_cases e : f < 10
  · rw [if_neg (fun q => q e)]
    unfold y_fi
    rw [if_pos e]
    by_cases e2 : f < w
    · rw [if_neg (by rw [y_le (by omega) (by omega)]; omega), if_pos e2]
    · rw [if_pos (by rw [y_le (by omega) (by omega)]; omega), if_neg e2]
  · rw [if_pos e, if_neg (by omega)]
/-- what an item comes to, by the class -/
def y_iC (M : xM) (D : yD) (r : xR) (o : Option (Nat × yD)) : Prop := ∃ M', r = some (match o with
  | none => -4
  | some q => nI q.1, M') ∧ (∀ q D', o = some (q, D') → y_DC M' D') ∧ y_but [10, 11, 12, 13, 14, 15, 16] M M'
theorem y_iC.no {D : yD} {r : xR} {o : Option (Nat × yD)} (h : r = some (-4, M)) (ho : o = none) : y_iC M D r o := by
  subst ho
  exact ⟨M, h, fun q D' hq => (by cases hq), y_but.rf⟩
theorem t_word (hT : y_txC M nt tx) {D : yD} (hD : y_Dok D) (hC : y_DC M D) {p : Nat} (hp : p < 1000) (hch : y_ch nt tx p = 119) : y_iC M D (T_readWord_t_d (nI p) M) (y_it nt tx D p) := by
  obtain ⟨c1, c2, c3, c4, c5, c6⟩ := hC
  have d1 := hD.1
  have hR := T_readWord_t_d_eq (nI p) M
  simp only [y_add, t_fig hT (show p + 1 < 2 ^ 30 by omega), t_fig hT (show p + 3 < 2 ^ 30 by omega), t_fig hT (show p + 5 < 2 ^ 30 by omega), Option.bind_some, t_has hT (show p + 2 < 2 ^ 30 by omega) (show 32 ≤ 44 ∧ 44 < 200 by decide), t_has hT (show p + 4 < 2 ^ 30 by omega) (show 32 ≤ 44 ∧ 44 < 200 by decide), t_has hT (show p + 6 < 2 ^ 30 by omega) (show 32 ≤ 59 ∧ 59 < 200 by decide), y_p0, y_fi_1, y_fi_0] at hR
  have hI : y_it nt tx D p = if ((1 ≤ y_fg nt tx (p + 1) ∧ y_fg nt tx (p + 1) < 10) ∧ y_ch nt tx (p + 2) = 44) ∧ (y_fg nt tx (p + 3) < 10 ∧ y_ch nt tx (p + 4) = 44) ∧ (y_fg nt tx (p + 5) < 10 ∧ y_ch nt tx (p + 6) = 59) ∧ D.1.1 < 8 then some (p + 7, y_aw D (y_fg nt tx (p + 1)) (y_fg nt tx (p + 3)) (y_fg nt tx (p + 5))) else none := by
    unfold y_it
    rw [if_pos hch]
  by_cases e1 : 1 ≤ y_fg nt tx (p + 1) ∧ y_fg nt tx (p + 1) < 10
  · by_cases e2 : y_ch nt tx (p + 2) = 44
    · by_cases e3 : y_fg nt tx (p + 3) < 10
      · by_cases e4 : y_ch nt tx (p + 4) = 44
        · by_cases e5 : y_fg nt tx (p + 5) < 10
          · by_cases e6 : y_ch nt tx (p + 6) = 59
            · rw [if_neg (fun q => q e1), if_pos e2, if_neg (fun q => q e3), if_pos e4, if_neg (fun q => q e5), if_pos e6, P_addWord_d_eq, c1] at hR
              by_cases e7 : D.1.1 < 8
              · rw [if_pos (by rw [y_lt (by omega) (by omega)]; exact e7)] at hR
                simp only [y_in2 (show D.1.1 < 8 by omega) (show 8 < 2 ^ 31 by decide), y_clamp (show D.1.1 < 2 ^ 31 by omega), Option.bind_some, if_neg (show ¬ nI 1 = nI 0 by decide), y_add] at hR
                rw [hI, if_pos ⟨⟨e1, e2⟩, ⟨e3, e4⟩, ⟨e5, e6⟩, e7⟩]
                refine ⟨_, hR, fun q D' hq => ?_, (((y_but.rf.up (by simp)).up (by simp)).up (by simp)).up (by simp)⟩
                cases hq
                unfold y_fi
                rw [if_pos e1.2, if_pos e3, if_pos e5]
                refine ⟨?_, ?_, ?_, fun j hj => ?_, fun i hi => ?_, fun k hk => ?_⟩
                · simp only [y_up_at]; simp [y_aw]
                · simp only [y_up_at]; simpa [y_aw] using c2
                · simp only [y_up_at]; simpa [y_aw] using c3
                · show _ = nI (y_tb D.1.2.1 D.1.1 _ j) ∧ _ = nI (y_tb D.1.2.2.1 D.1.1 _ j) ∧ _ = nI (y_tb D.1.2.2.2 D.1.1 _ j)
                  unfold y_tb
                  simp only [y_up_at]
                  by_cases e : j = D.1.1
                  · simp [e]
                  · simp [e]
                    exact c4 j (by have : j < D.1.1 + 1 := hj; omega)
                · simp only [y_up_at]; simpa [y_aw] using c5 i hi
                · simp only [y_up_at]; simpa [y_aw] using c6 k hk
              · rw [if_neg (by rw [y_lt (by omega) (by omega)]; exact e7), Option.bind_some, if_pos rfl] at hR
                exact y_iC.no hR (by rw [hI, if_neg (fun q => e7 q.2.2.2)])
            · rw [if_neg (fun q => q e1), if_pos e2, if_neg (fun q => q e3), if_pos e4, if_neg (fun q => q e5), if_neg e6] at hR
              exact y_iC.no hR (by rw [hI, if_neg (fun q => e6 q.2.2.1.2)])
          · rw [if_neg (fun q => q e1), if_pos e2, if_neg (fun q => q e3), if_pos e4, if_pos e5] at hR
            exact y_iC.no hR (by rw [hI, if_neg (fun q => e5 q.2.2.1.1)])
        · rw [if_neg (fun q => q e1), if_pos e2, if_neg (fun q => q e3), if_neg e4] at hR
          exact y_iC.no hR (by rw [hI, if_neg (fun q => e4 q.2.1.2)])
      · rw [if_neg (fun q => q e1), if_pos e2, if_pos e3] at hR
        exact y_iC.no hR (by rw [hI, if_neg (fun q => e3 q.2.1.1)])
    · rw [if_neg (fun q => q e1), if_neg e2] at hR
      exact y_iC.no hR (by rw [hI, if_neg (fun q => e2 q.1.2)])
  · rw [if_pos e1] at hR
    exact y_iC.no hR (by rw [hI, if_neg (fun q => e1 q.1.1)])
theorem y_inb_fi {f n : Nat} (hn : n ≤ 10) : y_inb (y_fi f) n = decide (f < n) := by
  unfold y_fi
  by_cases e : f < 10
  · rw [if_pos e, y_inb_nI (by omega)]
  · rw [if_neg e, y_inb_neg (by decide)]
    symm
    rw [decide_eq_false_iff_not]
    omega
theorem t_reader (hT : y_txC M nt tx) {D : yD} (hD : y_Dok D) (hC : y_DC M D) {p : Nat} (hp : p < 1000) (hch : y_ch nt tx p = 114) : y_iC M D (T_readReader_t_d (nI p) M) (y_it nt tx D p) := by
  obtain ⟨c1, c2, c3, c4, c5, c6⟩ := hC
  have d2 := hD.2.1
  have hR := T_readReader_t_d_eq (nI p) M
  simp only [y_add, t_fig hT (show p + 1 < 2 ^ 30 by omega), t_fig hT (show p + 3 < 2 ^ 30 by omega), Option.bind_some, c_within0 (show 3 < 2 ^ 29 by decide), y_inb_fi (show 3 + 1 ≤ 10 by decide), decide_eq_true_eq, t_has hT (show p + 2 < 2 ^ 30 by omega) (show 32 ≤ 44 ∧ 44 < 200 by decide), t_has hT (show p + 4 < 2 ^ 30 by omega) (show 32 ≤ 59 ∧ 59 < 200 by decide), y_p0, y_fi_0] at hR
  have hI : y_it nt tx D p = if (y_fg nt tx (p + 1) < 4 ∧ y_ch nt tx (p + 2) = 44) ∧ (y_fg nt tx (p + 3) < 10 ∧ y_ch nt tx (p + 4) = 59) ∧ D.2.1.1 < 6 then some (p + 5, y_ar D (y_fg nt tx (p + 1)) (y_fg nt tx (p + 3))) else none := by
    unfold y_it
    rw [if_neg (by omega), if_pos hch]
  by_cases e1 : y_fg nt tx (p + 1) < 3 + 1
  · by_cases e2 : y_ch nt tx (p + 2) = 44
    · by_cases e3 : y_fg nt tx (p + 3) < 10
      · by_cases e4 : y_ch nt tx (p + 4) = 59
        · rw [if_pos e1, if_pos e2, if_neg (fun q => q e3), if_pos e4, P_addReader_d_eq, c2] at hR
          by_cases e7 : D.2.1.1 < 6
          · rw [if_pos (by rw [y_lt (by omega) (by omega)]; exact e7)] at hR
            simp only [y_in2 (show D.2.1.1 < 6 by omega) (show 6 < 2 ^ 31 by decide), y_clamp (show D.2.1.1 < 2 ^ 31 by omega), Option.bind_some, if_neg (show ¬ nI 1 = nI 0 by decide), y_add] at hR
            rw [hI, if_pos ⟨⟨e1, e2⟩, ⟨e3, e4⟩, e7⟩]
            refine ⟨_, hR, fun q D' hq => ?_, ((y_but.rf.up (by simp)).up (by simp)).up (by simp)⟩
            cases hq
            unfold y_fi
            rw [if_pos (show y_fg nt tx (p + 1) < 10 by omega), if_pos e3]
            refine ⟨?_, ?_, ?_, fun j hj => ?_, fun i hi => ?_, fun k hk => ?_⟩
            · simp only [y_up_at]; simpa [y_ar] using c1
            · simp only [y_up_at]; simp [y_ar]
            · simp only [y_up_at]; simpa [y_ar] using c3
            · simp only [y_up_at]; simpa [y_ar] using c4 j hj
            · show _ = nI (y_tb D.2.1.2.1 D.2.1.1 _ i) ∧ _ = nI (y_tb D.2.1.2.2 D.2.1.1 _ i)
              unfold y_tb
              simp only [y_up_at]
              by_cases e : i = D.2.1.1
              · simp [e]
              · simp [e]
                exact c5 i (by have : i < D.2.1.1 + 1 := hi; omega)
            · simp only [y_up_at]; simpa [y_ar] using c6 k hk
          · rw [if_neg (by rw [y_lt (by omega) (by omega)]; exact e7), Option.bind_some, if_pos rfl] at hR
            exact y_iC.no hR (by rw [hI, if_neg (fun q => e7 q.2.2)])
        · rw [if_pos e1, if_pos e2, if_neg (fun q => q e3), if_neg e4] at hR
          exact y_iC.no hR (by rw [hI, if_neg (fun q => e4 q.2.1.2)])
      · rw [if_pos e1, if_pos e2, if_pos e3] at hR
        exact y_iC.no hR (by rw [hI, if_neg (fun q => e3 q.2.1.1)])
    · rw [if_pos e1, if_neg e2] at hR
      exact y_iC.no hR (by rw [hI, if_neg (fun q => e2 q.1.2)])
  · rw [if_neg e1] at hR
    exact y_iC.no hR (by rw [hI, if_neg (fun q => e1 q.1.1)])
/-- the end of a notice -/
theorem t_nend (hT : y_txC M nt tx) {D : yD} (hD : y_Dok D) (hC : y_DC M D) {ds : List Nat} (hds : ∀ d ∈ ds, d < D.1.1) (hl : ds.length ≤ 5) {e : Nat} (he : e < 2000) : y_iC M D (if nI (y_cd ds) ≤ nI 0 then some (-4, M) else (T_hasAt_t (nI e) (nI 59) M).bind fun q1 => if (q1.1) = (nI 0) then some ((-4), q1.2) else (P_addNotice_d (nI (y_cd ds)) (q1.2)).bind fun q2 => if (q2.1) = (nI 0) then some ((-4), q2.2) else some (nI e + (nI 1), q2.2)) (if ds.length ≠ 0 ∧ y_ch nt tx e = 59 ∧ D.2.2.1 < 6 then some (e + 1, y_an D ds) else none) := by
  obtain ⟨c1, c2, c3, c4, c5, c6⟩ := hC
  have d1 := hD.1
  have d3 := hD.2.2.1
  by_cases e0 : ds.length = 0
  · have : ds = [] := List.length_eq_zero_iff.mp e0
    subst this
    exact y_iC.no (if_pos (by decide)) (if_neg (fun q => q.1 rfl))
  · have hcd := y_cd_lt d1 (show y_no D.1.1 ds from ⟨by omega, hl, hds⟩)
    rw [if_neg (by rw [y_le (by omega) (by omega)]; omega), t_has hT (by omega) (by decide), Option.bind_some, y_p0]
    by_cases e1 : y_ch nt tx e = 59
    · rw [if_pos e1, P_addNotice_d_eq]
      simp only [c3]
      by_cases e7 : D.2.2.1 < 6
      · rw [if_pos (show nI D.2.2.1 < nI 6 by rw [y_lt (by omega) (by omega)]; exact e7), if_pos (show ds.length ≠ 0 ∧ y_ch nt tx e = 59 ∧ D.2.2.1 < 6 from ⟨e0, e1, e7⟩)]
        simp only [y_in2 (show D.2.2.1 < 6 by omega) (show 6 < 2 ^ 31 by decide), y_clamp (show D.2.2.1 < 2 ^ 31 by omega), Option.bind_some, if_neg (show ¬ nI 1 = nI 0 by decide), y_add]
        refine ⟨_, rfl, fun q D' hq => ?_, (y_but.rf.up (by simp)).up (by simp)⟩
        cases hq
        refine ⟨?_, ?_, ?_, fun j hj => ?_, fun i hi => ?_, fun k hk => ?_⟩
        · simp only [y_up_at]; simpa [y_an] using c1
        · simp only [y_up_at]; simpa [y_an] using c2
        · simp only [y_up_at]; simp [y_an]
        · simp only [y_up_at]; simpa [y_an] using c4 j hj
        · simp only [y_up_at]; simpa [y_an] using c5 i hi
        · show _ = nI (y_cd (y_tl D.2.2.2 D.2.2.1 _ k))
          unfold y_tl
          simp only [y_up_at]
          by_cases e : k = D.2.2.1
          · simp [e]
          · simp [e]
            exact c6 k (by have : k < D.2.2.1 + 1 := hk; omega)
      · rw [if_neg (show ¬ nI D.2.2.1 < nI 6 by rw [y_lt (by omega) (by omega)]; exact e7)]
        exact y_iC.no rfl (if_neg (fun q => e7 q.2.2))
    · rw [if_neg e1]
      exact y_iC.no rfl (if_neg (fun q => e1 q.2.1))
theorem t_n10 (hT : y_txC M nt tx) {D : yD} (hD : y_Dok D) (hC : y_DC M D) (o : Option Int32) : ∀ (f p n : Nat) (ds : List Nat), n + f = 5 → ds.length = n → (∀ d ∈ ds, d < D.1.1) → p + f < 1500 → y_iC M D (T_readNotice_t_d_10 o (nI (y_cd ds)) (nI p) (nI n) M) (if (y_sc nt tx D.1.1 f p ds).1.length ≠ 0 ∧ y_ch nt tx (y_sc nt tx D.1.1 f p ds).2 = 59 ∧ D.2.2.1 < 6 then some ((y_sc nt tx D.1.1 f p ds).2 + 1, y_an D (y_sc nt tx D.1.1 f p ds).1) else none)
  | 0, p, n, ds, hn, hl, hds, hp => by
    rw [T_readNotice_t_d_10_eq, if_pos (by rw [y_le (by omega) (by omega)]; omega)]
    exact t_nend hT hD hC hds (by omega) (by omega)
  | f + 1, p, n, ds, hn, hl, hds, hp => by
    have d1 := hD.1
    rw [T_readNotice_t_d_10_eq, if_neg (by rw [y_le (by omega) (by omega)]; omega), t_fig hT (by omega), Option.bind_some, t_hasW d1 hC.1, Option.bind_some, y_p0]
    by_cases e : y_fg nt tx p < D.1.1
    · rw [show y_sc nt tx D.1.1 (f + 1) p ds = y_sc nt tx D.1.1 f (p + 1) (ds ++ [y_fg nt tx p]) by rw [y_sc_s, if_pos e]]
      rw [if_pos e, t_fig hT (by omega), Option.bind_some, y_add, y_add]
      have hcd := y_cd_snoc ds (y_fg nt tx p)
      have hfi : y_fi (y_fg nt tx p) = nI (y_fg nt tx p) := by unfold y_fi; rw [if_pos (by omega)]
      simp only [hfi, y_mul, y_add]
      rw [show y_cd ds * 10 + y_fg nt tx p + 1 = y_cd (ds ++ [y_fg nt tx p]) by omega]
      exact t_n10 hT hD hC o f (p + 1) (n + 1) (ds ++ [y_fg nt tx p]) (by omega) (by simp; omega) (y_snoc_lt hds e) (by omega)
    · rw [show y_sc nt tx D.1.1 (f + 1) p ds = (ds, p) by rw [y_sc_s, if_neg e]]
      rw [if_neg e]
      exact t_nend hT hD hC hds (by omega) (by omega)
theorem t_item (hT : y_txC M nt tx) {D : yD} (hD : y_Dok D) (hC : y_DC M D) {p : Nat} (hp : p < 1000) : y_iC M D (T_readItem_t_d (nI p) M) (y_it nt tx D p) := by
  have hb : ∀ (r : xR), (r.bind fun q => some (q.1, q.2)) = r := fun r => by cases r <;> rfl
  rw [T_readItem_t_d_eq, t_has hT (by omega) (by decide), Option.bind_some, y_p0]
  by_cases e1 : y_ch nt tx p = 119
  · rw [if_pos e1, hb]
    exact t_word hT hD hC hp e1
  · rw [if_neg e1, t_has hT (by omega) (by decide), Option.bind_some, y_p0]
    by_cases e2 : y_ch nt tx p = 114
    · rw [if_pos e2, hb]
      exact t_reader hT hD hC hp e2
    · rw [if_neg e2, t_has hT (by omega) (by decide), Option.bind_some, y_p0]
      by_cases e3 : y_ch nt tx p = 110
      · rw [if_pos e3, hb, T_readNotice_t_d_eq, y_add]
        have h := t_n10 hT hD hC (some (nI p)) 5 (p + 1) 0 [] (by omega) rfl (fun d hd => by cases hd) (by omega)
        rw [show y_it nt tx D p = if (y_sc nt tx D.1.1 5 (p + 1) []).1.length ≠ 0 ∧ y_ch nt tx (y_sc nt tx D.1.1 5 (p + 1) []).2 = 59 ∧ D.2.2.1 < 6 then some ((y_sc nt tx D.1.1 5 (p + 1) []).2 + 1, y_an D (y_sc nt tx D.1.1 5 (p + 1) []).1) else none by unfold y_it; rw [if_neg e1, if_neg e2, if_pos e3]]
        exact h
      · rw [if_neg e3]
        refine y_iC.no rfl ?_
        unfold y_it
        rw [if_neg e1, if_neg e2, if_neg e3]
end
theorem t_pr8 {nt : Nat} {tx : Nat → Nat} : ∀ (n p i : Nat) (D : yD) (o : Option Int32) (M : xM), nt ≤ p + n → p ≤ nt + 8 → i ≤ p → y_txC M nt tx → y_Dok D → y_DC M D → ∃ M', T_proofread_t_d_8 (nI p) (nI i) o M = some (match (y_pa nt tx n p D).1 with
    | none => -4
    | some q => nI q, M') ∧ ((y_pa nt tx n p D).1 = none → y_DC M' (y_pa nt tx n p D).2) ∧ y_but [10, 11, 12, 13, 14, 15, 16] M M'
  | 0, p, i, D, o, M, h, hp, hi, hT, hD, hC => by
    refine ⟨M, ?_, fun _ => hC, y_but.rf⟩
    have h200 := hT.1
    rw [T_proofread_t_d_8_eq, hT.2.1]
    by_cases e : nI 200 ≤ nI i
    · rw [if_pos e]
      rfl
    · rw [if_neg e, if_pos (by rw [y_le (by omega) (by omega)]; omega)]
      rfl
  | n + 1, p, i, D, o, M, h, hp, hi, hT, hD, hC => by
    have h200 := hT.1
    by_cases e : nt ≤ p
    · rw [show y_pa nt tx (n + 1) p D = (none, D) by rw [y_pa_s, if_pos e]]
      refine ⟨M, ?_, fun _ => hC, y_but.rf⟩
      rw [T_proofread_t_d_8_eq, hT.2.1]
      by_cases e1 : nI 200 ≤ nI i
      · rw [if_pos e1]
      · rw [if_neg e1, if_pos (by rw [y_le (by omega) (by omega)]; omega)]
    · obtain ⟨M1, a1, a2, a3⟩ := t_item hT hD hC (show p < 1000 by omega)
      rw [T_proofread_t_d_8_eq, hT.2.1, if_neg (by rw [y_le (by omega) (by omega)]; omega), if_neg (by rw [y_le (by omega) (by omega)]; omega), a1, Option.bind_some]
      cases hi2 : y_it nt tx D p with
      | none =>
        rw [show y_pa nt tx (n + 1) p D = (some p, D) by rw [y_pa_s, if_neg e, hi2]]
        exact ⟨M1, rfl, fun q => (by cases q), a3⟩
      | some q =>
        obtain ⟨q, D'⟩ := q
        obtain ⟨k1, k2, k3⟩ := y_it_ok nt tx hi2 hD
        rw [show y_pa nt tx (n + 1) p D = y_pa nt tx n q D' by rw [y_pa_s, if_neg e, hi2]]
        obtain ⟨M', b1, b2, b3⟩ := t_pr8 n q (i + 1) D' (some (nI q)) M1 (by omega) (by omega) (by omega) (hT.keep (a3 _ (by decide)) (a3 _ (by decide))) k1 (a2 q D' hi2)
        refine ⟨M', ?_, b2, a3.tr b3⟩
        show (if nI q = -4 then _ else _) = _
        rw [if_neg (y_ne4 (by omega)), y_add]
        exact b1
theorem t_pr {M : xM} {nt : Nat} {tx : Nat → Nat} (hT : y_txC M nt tx) : ∃ M', T_proofread_t_d M = some (match (y_pa nt tx 200 0 y_D0).1 with
    | none => -4
    | some q => nI q, M') ∧ ((y_pa nt tx 200 0 y_D0).1 = none → y_DC M' (y_pa nt tx 200 0 y_D0).2) ∧ y_but [10, 11, 12, 13, 14, 15, 16] M M' := by
  have b0 : y_but [10, 11, 12, 13, 14, 15, 16] M (x_up (x_up (x_up M 10 6 (nI 0)) 10 7 (nI 0)) 10 8 (nI 0)) := ((y_but.rf.up (by simp)).up (by simp)).up (by simp)
  have h200 := hT.1
  obtain ⟨M', a1, a2, a3⟩ := t_pr8 200 0 0 y_D0 none (x_up (x_up (x_up M 10 6 (nI 0)) 10 7 (nI 0)) 10 8 (nI 0)) (by omega) (by omega) (by omega) (hT.keep (b0 _ (by decide)) (b0 _ (by decide))) ⟨by decide, by decide, by decide, fun j hj => absurd hj (Nat.not_lt_zero _), fun j hj => absurd hj (Nat.not_lt_zero _), fun j hj => absurd hj (Nat.not_lt_zero _)⟩ ⟨by simp only [y_up_at]; simp [y_D0], by simp only [y_up_at]; simp [y_D0], by simp only [y_up_at]; simp [y_D0], fun j hj => absurd hj (Nat.not_lt_zero _), fun j hj => absurd hj (Nat.not_lt_zero _), fun j hj => absurd hj (Nat.not_lt_zero _)⟩
  refine ⟨M', ?_, a2, b0.tr a3⟩
  rw [T_proofread_t_d_eq, P_clear_d_eq, Option.bind_some]
  exact a1
