/-! the text's reading, by the reference; fault, lay -/
def y_kk (M M' : xM) : Prop := (∀ a, a ∉ [40, 43, 44] → M' a = M a) ∧ ∀ j, j ≠ 12 → M' 40 j = M 40 j
theorem y_kk.rf {M : xM} : y_kk M M := ⟨fun _ _ => rfl, fun _ _ => rfl⟩
theorem y_kk.tr {M M1 M2 : xM} (h : y_kk M M1) (h2 : y_kk M1 M2) : y_kk M M2 := ⟨fun a ha => (h2.1 a ha).trans (h.1 a ha), fun j hj => (h2.2 j hj).trans (h.2 j hj)⟩
theorem y_kk.at {M : xM} (v : Int32) : y_kk M (x_up M 40 12 v) := ⟨fun a ha => y_up_ne (fun q => ha (by rw [q]; simp)), fun j hj => y_up_ne2 hj⟩
theorem y_kk.of {M M' : xM} (h : y_but [43, 44] M M') : y_kk M M' := ⟨fun a ha => h a (fun q => ha (List.mem_cons_of_mem _ q)), fun j _ => by rw [h 40 (by decide)]⟩
def y_txK (M : xM) (nt : Nat) (tx : Nat → Nat) : Prop := nt ≤ 200 ∧ M 40 1 = nI nt ∧ ∀ j, j < nt → M 41 j = nI (tx j) ∧ 32 ≤ tx j ∧ tx j ≤ 126
theorem y_txK.keep {M M' : xM} {nt : Nat} {tx : Nat → Nat} (h : y_txK M nt tx) (hk : y_kk M M') : y_txK M' nt tx := by
  unfold y_txK at h ⊢; rw [hk.2 1 (by decide), hk.1 41 (by decide)]; exact h
theorem y_DK.at {M : xM} {D : yD} (h : y_DK M D) (v : Int32) : y_DK (x_up M 40 12 v) D := by
  unfold y_DK at h ⊢
  rw [y_up_ne (show 43 ≠ 40 by decide), y_up_ne (show 44 ≠ 40 by decide)]
  exact h
def y_lv (nt : Nat) (tx : Nat → Nat) (p : Nat) : Int32 := if p < nt then nI (tx p) else -1
theorem y_p1 {α : Type} {c : Prop} [Decidable c] {f : Nat} (hf : f < 2 ^ 31) (x y : α) : (if nI 0 ≤ (if c then nI f else -1) then x else y) = if c then x else y := by
  by_cases h : c
  · rw [if_pos h, if_pos h, if_pos (by rw [y_le (by omega) hf]; omega)]
  · rw [if_neg h, if_neg h, if_neg (by decide)]
theorem y_p2 {α : Type} {c : Prop} [Decidable c] {f : Nat} (hf : f < 2 ^ 31) (x y : α) : (if (if c then nI f else -1) < nI 0 then x else y) = if c then y else x := by
  by_cases h : c
  · rw [if_pos h, if_pos h, if_neg (y_nn hf)]
  · rw [if_neg h, if_neg h, if_pos (by decide)]
section
variable {M : xM} {nt : Nat} {tx : Nat → Nat}
theorem y_fg_le (p : Nat) : y_fg nt tx p ≤ 10 := by
  unfold y_fg
  split <;> omega
theorem k_let (hT : y_txK M nt tx) {p : Nat} (hp : p < 2 ^ 30) : K_letterAt (nI p) M = some (y_lv nt tx p, M) := by
  obtain ⟨h1, h2, h3⟩ := hT
  rw [K_letterAt_eq, h2]
  unfold y_lv
  by_cases e : p < nt
  · rw [if_neg (by rw [y_le (by omega) (by omega)]; omega), y_in (show p < 200 by omega) (by decide), y_clamp (by omega), (h3 p e).1, if_pos e]
  · rw [if_pos (by rw [y_le (by omega) (by omega)]; omega), if_neg e]
theorem y_lv_c (hT : y_txK M nt tx) {p c : Nat} (hc : 32 ≤ c ∧ c < 200) : (y_lv nt tx p = nI c) = (y_ch nt tx p = c) := by
  unfold y_lv y_ch
  by_cases e : p < nt
  · have := (hT.2.2 p e).2
    rw [if_pos e, if_pos e, y_eq (by omega) (by omega)]
  · rw [if_neg e, if_neg e]
    apply propext
    exact ⟨fun q => absurd q.symm (y_ne_neg (by omega)), fun q => by omega⟩
theorem y_neg48 : ∀ n, n < 48 → nI n - nI 48 < nI 0 := by decide +kernel
/-- a figure, or below 0, or above 9 -/
theorem y_lv_fg (hT : y_txK M nt tx) (p : Nat) : (y_lv nt tx p - nI 48 < nI 0 ∧ y_fg nt tx p = 10) ∨ ∃ v, v < 100 ∧ y_lv nt tx p - nI 48 = nI v ∧ y_fg nt tx p = (if v < 10 then v else 10) := by
  unfold y_lv y_fg y_ch
  by_cases e : p < nt
  · have h := (hT.2.2 p e).2
    simp only [if_pos e]
    by_cases q : tx p < 48
    · exact Or.inl ⟨y_neg48 _ q, if_neg (by omega)⟩
    · refine Or.inr ⟨tx p - 48, by omega, y_sub (by omega), ?_⟩
      by_cases q2 : tx p ≤ 57
      · rw [if_pos (by omega), if_pos (by omega)]
      · rw [if_neg (by omega), if_neg (by omega)]
  · simp only [if_neg e]
    exact Or.inl ⟨by decide, if_neg (by omega)⟩
theorem k_fr (hT : y_txK M nt tx) {M' : xM} {p lo hi : Nat} (hl : lo ≤ 9) (hh : hi ≤ 9) : K_in (y_lv nt tx p - nI 48) (nI lo) (nI hi) M' = some (if lo ≤ y_fg nt tx p ∧ y_fg nt tx p ≤ hi then nI 1 else nI 0, M') := by
  rcases y_lv_fg hT p with ⟨h1, h2⟩ | ⟨v, h1, h2, h3⟩
  · rw [K_in_eq, if_pos (y_neg_lt h1 (by omega)), if_neg (by omega)]
  · rw [h2, k_in (by omega) (by omega) (by omega), h3]
    by_cases e : v < 10
    · rw [if_pos e]
    · rw [if_neg e, if_neg (by omega), if_neg (by omega)]
theorem k_fw (hT : y_txK M nt tx) {M' : xM} {p w : Nat} (hw : w ≤ 8) : K_in (y_lv nt tx p - nI 48) (nI 0) (nI w - nI 1) M' = some (if y_fg nt tx p < w then nI 1 else nI 0, M') := by
  rw [k_cnt (by omega)]
  rcases y_lv_fg hT p with ⟨h1, h2⟩ | ⟨v, h1, h2, h3⟩
  · rw [y_inb_neg h1, if_neg (show ¬ y_fg nt tx p < w by omega)]
    rfl
  · rw [h2, y_inb_nI (by omega), h3]
    by_cases e : v < w
    · rw [if_pos (by simpa using e), if_pos (show v < 10 by omega), if_pos e]
    · rw [if_neg (by simpa using e)]
      by_cases q : v < 10
      · rw [if_pos q, if_neg e]
      · rw [if_neg q, if_neg (by omega)]
theorem y_lv_v (hT : y_txK M nt tx) {p : Nat} (h : y_fg nt tx p < 10) : y_lv nt tx p - nI 48 = nI (y_fg nt tx p) := by
  rcases y_lv_fg hT p with ⟨h1, h2⟩ | ⟨v, h1, h2, h3⟩
  · omega
  · rw [h2, h3]
    by_cases e : v < 10
    · rw [if_pos e]
    · rw [if_neg e] at h3; omega
theorem k_num (hT : y_txK M nt tx) {a lo hi e : Nat} (ha : M 40 12 = nI a) (ha2 : a < 2000) (hl : lo ≤ 9) (hh : hi ≤ 9) (he : 32 ≤ e ∧ e < 200) : K_number (nI lo) (nI hi) (nI e) M = some (if (lo ≤ y_fg nt tx a ∧ y_fg nt tx a ≤ hi) ∧ y_ch nt tx (a + 1) = e then nI (y_fg nt tx a) else -1, x_up M 40 12 (nI (a + 2))) := by
  rw [K_number_eq, ha, k_let hT (by omega), Option.bind_some]
  simp only [k_fr hT hl hh, Option.bind_some, y_p0, ha, y_add, k_let hT (show a + 1 < 2 ^ 30 by omega), y_lv_c hT he]
  by_cases e1 : lo ≤ y_fg nt tx a ∧ y_fg nt tx a ≤ hi
  · by_cases e2 : y_ch nt tx (a + 1) = e
    · rw [if_pos e1, if_pos e2, if_pos ⟨e1, e2⟩, y_lv_v hT (by omega)]
    · rw [if_pos e1, if_neg e2, if_neg (fun q => e2 q.2)]
  · rw [if_neg e1, if_neg (fun q => e1 q.1)]
/-- what an item comes to, by the reference -/
def y_iK (M : xM) (r : xR) (o : Option (Nat × yD)) : Prop := ∃ M', r = some (match o with
  | none => nI 0
  | some _ => nI 1, M') ∧ (∀ q D', o = some (q, D') → y_DK M' D' ∧ M' 40 12 = nI q) ∧ y_kk M M'
theorem y_iK.no {M1 : xM} {r : xR} {o : Option (Nat × yD)} (h : r = some (nI 0, M1)) (ho : o = none) (hk : y_kk M M1) : y_iK M r o := by
  subst ho
  exact ⟨M1, h, fun q D' hq => (by cases hq), hk⟩
theorem k_word (hT : y_txK M nt tx) {D : yD} (hD : y_Dok D) (hK : y_DK M D) {p : Nat} (hp : p < 1000) (hch : y_ch nt tx p = 119) (ha : M 40 12 = nI (p + 1)) : y_iK M (K_readsItem (nI 119) M) (y_it nt tx D p) := by
  have hI : y_it nt tx D p = if ((1 ≤ y_fg nt tx (p + 1) ∧ y_fg nt tx (p + 1) < 10) ∧ y_ch nt tx (p + 2) = 44) ∧ (y_fg nt tx (p + 3) < 10 ∧ y_ch nt tx (p + 4) = 44) ∧ (y_fg nt tx (p + 5) < 10 ∧ y_ch nt tx (p + 6) = 59) ∧ D.1.1 < 8 then some (p + 7, y_aw D (y_fg nt tx (p + 1)) (y_fg nt tx (p + 3)) (y_fg nt tx (p + 5))) else none := by
    unfold y_it
    rw [if_pos hch]
  have d1 := hD.1
  have f1 := y_fg_le (nt := nt) (tx := tx) (p + 1)
  have f3 := y_fg_le (nt := nt) (tx := tx) (p + 3)
  have f5 := y_fg_le (nt := nt) (tx := tx) (p + 5)
  have k1 := y_kk.at (M := M) (nI (p + 1 + 2))
  have k2 := k1.tr (y_kk.at (nI (p + 3 + 2)))
  have k3 := k2.tr (y_kk.at (nI (p + 5 + 2)))
  have hR := K_readsItem_eq (nI 119) M
  rw [if_neg (by decide), if_neg (by decide), if_pos rfl, k_num hT ha (by omega) (by omega) (by omega) (by decide), Option.bind_some] at hR
  simp only [y_p1 (show y_fg nt tx (p + 1) < 2 ^ 31 by omega)] at hR
  by_cases e1 : (1 ≤ y_fg nt tx (p + 1) ∧ y_fg nt tx (p + 1) ≤ 9) ∧ y_ch nt tx (p + 1 + 1) = 44
  · rw [if_pos e1, k_num (hT.keep k1) (y_up_eq (a := 40) (k := 12) : x_up M 40 12 (nI (p + 3)) 40 12 = nI (p + 3)) (by omega) (by omega) (by omega) (by decide), Option.bind_some] at hR
    simp only [y_p1 (show y_fg nt tx (p + 3) < 2 ^ 31 by omega)] at hR
    by_cases e2 : (0 ≤ y_fg nt tx (p + 3) ∧ y_fg nt tx (p + 3) ≤ 9) ∧ y_ch nt tx (p + 3 + 1) = 44
    · rw [if_pos e2, k_num (hT.keep k2) (y_up_eq (a := 40) (k := 12) : x_up _ 40 12 (nI (p + 5)) 40 12 = nI (p + 5)) (by omega) (by omega) (by omega) (by decide), Option.bind_some] at hR
      simp only [y_p2 (show y_fg nt tx (p + 5) < 2 ^ 31 by omega)] at hR
      by_cases e3 : (0 ≤ y_fg nt tx (p + 5) ∧ y_fg nt tx (p + 5) ≤ 9) ∧ y_ch nt tx (p + 5 + 1) = 59
      · rw [if_pos e3] at hR
        have hK3 := ((hK.at (nI (p + 1 + 2))).at (nI (p + 3 + 2))).at (nI (p + 5 + 2))
        have hat : x_up (x_up (x_up M 40 12 (nI (p + 1 + 2))) 40 12 (nI (p + 3 + 2))) 40 12 (nI (p + 5 + 2)) 40 12 = nI (p + 7) := y_up_eq
        generalize x_up (x_up (x_up M 40 12 (nI (p + 1 + 2))) 40 12 (nI (p + 3 + 2))) 40 12 (nI (p + 5 + 2)) = M3 at hR hK3 k3 hat
        obtain ⟨c1, c2, c3, c4, c5, c6⟩ := hK3
        rw [c1] at hR
        by_cases e7 : D.1.1 < 8
        · rw [if_neg (by rw [y_eq (by omega) (by omega)]; omega), K_wordOf_eq, c1, if_pos e1, if_pos e2, if_pos e3] at hR
          simp only [y_add, y_in2 (show 2 + D.1.1 < 30 by omega) (show 30 < 2 ^ 31 by decide), y_in2 (show 10 + D.1.1 < 30 by omega) (show 30 < 2 ^ 31 by decide), y_in2 (show 7 + D.1.1 < 15 by omega) (show 15 < 2 ^ 31 by decide), y_clamp (show 2 + D.1.1 < 2 ^ 31 by omega), y_clamp (show 10 + D.1.1 < 2 ^ 31 by omega), y_clamp (show 7 + D.1.1 < 2 ^ 31 by omega), Option.bind_some] at hR
          rw [hI, if_pos ⟨⟨⟨e1.1.1, by omega⟩, e1.2⟩, ⟨by omega, e2.2⟩, ⟨by omega, e3.2⟩, e7⟩]
          refine ⟨_, hR, fun q D' hq => ?_, k3.tr (y_kk.of ((((y_but.rf.up (by simp)).up (by simp)).up (by simp)).up (by simp)))⟩
          cases hq
          refine ⟨⟨?_, ?_, ?_, fun j hj => ?_, fun i hi => ?_, fun k hk => ?_⟩, ?_⟩
          · simp only [y_up_at]; simp [c1, y_aw]; rw [if_neg (by omega), if_neg (by omega), y_add]
          · simp only [y_up_at]; simp [y_aw]; rw [if_neg (by omega), if_neg (by omega)]; exact c2
          · simp only [y_up_at]; simp [y_aw]; rw [if_neg (by omega)]; exact c3
          · show _ = nI (y_tb D.1.2.1 D.1.1 _ j) ∧ _ = nI (y_tb D.1.2.2.1 D.1.1 _ j) ∧ _ = nI (y_tb D.1.2.2.2 D.1.1 _ j)
            have hj2 : j < D.1.1 + 1 := hj
            unfold y_tb
            simp only [y_up_at]
            by_cases e : j = D.1.1
            · simp [e]
            · obtain ⟨v1, v2, v3⟩ := c4 j (by omega)
              simp [e, v3]
              rw [if_neg (by omega), if_neg (by omega)]
              exact ⟨v1, v2⟩
          · have hi2 : i < D.2.1.1 := hi
            have := hD.2.1
            obtain ⟨v1, v2⟩ := c5 i hi2
            simp only [y_up_at]
            simp [y_aw]
            rw [if_neg (by omega), if_neg (by omega), if_neg (by omega), if_neg (by omega)]
            exact ⟨v1, v2⟩
          · have hk2 : k < D.2.2.1 := hk
            have := hD.2.2.1
            simp only [y_up_at]
            simp [y_aw]
            rw [if_neg (by omega)]
            exact c6 k hk2
          · simp only [y_up_at]; simpa using hat
        · rw [if_pos (by rw [y_eq (by omega) (by omega)]; omega)] at hR
          exact y_iK.no hR (by rw [hI, if_neg (fun q => e7 q.2.2.2)]) k3
      · rw [if_neg e3] at hR
        exact y_iK.no hR (by rw [hI, if_neg (fun q => e3 ⟨⟨by omega, by omega⟩, q.2.2.1.2⟩)]) k3
    · rw [if_neg e2] at hR
      exact y_iK.no hR (by rw [hI, if_neg (fun q => e2 ⟨⟨by omega, by omega⟩, q.2.1.2⟩)]) k2
  · rw [if_neg e1] at hR
    exact y_iK.no hR (by rw [hI, if_neg (fun q => e1 ⟨⟨q.1.1.1, by omega⟩, q.1.2⟩)]) k1
theorem k_reader (hT : y_txK M nt tx) {D : yD} (hD : y_Dok D) (hK : y_DK M D) {p : Nat} (hp : p < 1000) (hch : y_ch nt tx p = 114) (ha : M 40 12 = nI (p + 1)) : y_iK M (K_readsItem (nI 114) M) (y_it nt tx D p) := by
  have hI : y_it nt tx D p = if (y_fg nt tx (p + 1) < 4 ∧ y_ch nt tx (p + 2) = 44) ∧ (y_fg nt tx (p + 3) < 10 ∧ y_ch nt tx (p + 4) = 59) ∧ D.2.1.1 < 6 then some (p + 5, y_ar D (y_fg nt tx (p + 1)) (y_fg nt tx (p + 3))) else none := by
    unfold y_it
    rw [if_neg (by omega), if_pos hch]
  have d1 := hD.1
  have d2 := hD.2.1
  have f1 := y_fg_le (nt := nt) (tx := tx) (p + 1)
  have f3 := y_fg_le (nt := nt) (tx := tx) (p + 3)
  have k1 := y_kk.at (M := M) (nI (p + 1 + 2))
  have k2 := k1.tr (y_kk.at (nI (p + 3 + 2)))
  have hR := K_readsItem_eq (nI 114) M
  rw [if_neg (by decide), if_pos rfl, k_num hT ha (by omega) (by omega) (by omega) (by decide), Option.bind_some] at hR
  simp only [y_p1 (show y_fg nt tx (p + 1) < 2 ^ 31 by omega)] at hR
  by_cases e1 : (0 ≤ y_fg nt tx (p + 1) ∧ y_fg nt tx (p + 1) ≤ 3) ∧ y_ch nt tx (p + 1 + 1) = 44
  · rw [if_pos e1, k_num (hT.keep k1) (y_up_eq (a := 40) (k := 12) : x_up M 40 12 (nI (p + 3)) 40 12 = nI (p + 3)) (by omega) (by omega) (by omega) (by decide), Option.bind_some] at hR
    simp only [y_p2 (show y_fg nt tx (p + 3) < 2 ^ 31 by omega)] at hR
    by_cases e2 : (0 ≤ y_fg nt tx (p + 3) ∧ y_fg nt tx (p + 3) ≤ 9) ∧ y_ch nt tx (p + 3 + 1) = 59
    · rw [if_pos e2] at hR
      have hK3 := (hK.at (nI (p + 1 + 2))).at (nI (p + 3 + 2))
      have hat : x_up (x_up M 40 12 (nI (p + 1 + 2))) 40 12 (nI (p + 3 + 2)) 40 12 = nI (p + 5) := y_up_eq
      generalize x_up (x_up M 40 12 (nI (p + 1 + 2))) 40 12 (nI (p + 3 + 2)) = M3 at hR hK3 k2 hat
      obtain ⟨c1, c2, c3, c4, c5, c6⟩ := hK3
      rw [c2] at hR
      by_cases e7 : D.2.1.1 < 6
      · rw [if_neg (by rw [y_eq (by omega) (by omega)]; omega), K_readerOf_eq, c2, if_pos e1, if_pos e2] at hR
        simp only [y_add, y_in2 (show 18 + D.2.1.1 < 30 by omega) (show 30 < 2 ^ 31 by decide), y_in2 (show 24 + D.2.1.1 < 30 by omega) (show 30 < 2 ^ 31 by decide), y_clamp (show 18 + D.2.1.1 < 2 ^ 31 by omega), y_clamp (show 24 + D.2.1.1 < 2 ^ 31 by omega), Option.bind_some] at hR
        rw [hI, if_pos ⟨⟨by omega, e1.2⟩, ⟨by omega, e2.2⟩, e7⟩]
        refine ⟨_, hR, fun q D' hq => ?_, k2.tr (y_kk.of (((y_but.rf.up (by simp)).up (by simp)).up (by simp)))⟩
        cases hq
        refine ⟨⟨?_, ?_, ?_, fun j hj => ?_, fun i hi => ?_, fun k hk => ?_⟩, ?_⟩
        · simp only [y_up_at]; simp [y_ar]; rw [if_neg (by omega), if_neg (by omega)]; exact c1
        · simp only [y_up_at]; simp [c2, y_ar]; rw [if_neg (by omega), if_neg (by omega), y_add]
        · simp only [y_up_at]; simp [y_ar]; exact c3
        · have hj2 : j < D.1.1 := hj
          obtain ⟨v1, v2, v3⟩ := c4 j hj2
          simp only [y_up_at]
          simp [y_ar]
          rw [if_neg (by omega), if_neg (by omega), if_neg (by omega), if_neg (by omega), if_neg (by omega), if_neg (by omega)]
          exact ⟨v1, v2, v3⟩
        · show _ = nI (y_tb D.2.1.2.1 D.2.1.1 _ i) ∧ _ = nI (y_tb D.2.1.2.2 D.2.1.1 _ i)
          have hi2 : i < D.2.1.1 + 1 := hi
          unfold y_tb
          simp only [y_up_at]
          by_cases e : i = D.2.1.1
          · simp [e]
            omega
          · obtain ⟨v1, v2⟩ := c5 i (by omega)
            simp [e]
            rw [if_neg (by omega), if_neg (by omega), if_neg (by omega), if_neg (by omega)]
            exact ⟨v1, v2⟩
        · have hk2 : k < D.2.2.1 := hk
          simp only [y_up_at]
          simp [y_ar]
          exact c6 k hk2
        · simp only [y_up_at]; simpa using hat
      · rw [if_pos (by rw [y_eq (by omega) (by omega)]; omega)] at hR
        exact y_iK.no hR (by rw [hI, if_neg (fun q => e7 q.2.2)]) k2
    · rw [if_neg e2] at hR
      exact y_iK.no hR (by rw [hI, if_neg (fun q => e2 ⟨⟨by omega, by omega⟩, q.2.1.2⟩)]) k2
  · rw [if_neg e1] at hR
    exact y_iK.no hR (by rw [hI, if_neg (fun q => e1 ⟨⟨by omega, by omega⟩, q.1.2⟩)]) k1
/-- the end of a notice -/
theorem k_nend {M0 : xM} (hT : y_txK M nt tx) {D : yD} (hD : y_Dok D) (hK : y_DK M D) {ds : List Nat} (hds : ∀ d ∈ ds, d < D.1.1) (hl : ds.length ≤ 5) {e : Nat} (he : e < 2000) (ha : M 40 12 = nI e) (h0 : y_kk M0 M) : y_iK M0 (if nI ds.length ≤ nI 0 then some (nI 0, (x_up M 40 12 ((M 40 12) + (nI 1)))) else (K_letterAt (M 40 12) M).bind fun q1 => if (q1.1) = (nI 59) then if (nI 6) ≤ (q1.2 44 0) then some (nI 0, (x_up q1.2 40 12 ((q1.2 40 12) + (nI 1)))) else (K_noticeOf (nI (y_cd ds)) (x_up q1.2 40 12 ((q1.2 40 12) + (nI 1)))).bind fun q2 => some (nI 1, q2.2) else some (nI 0, (x_up q1.2 40 12 ((q1.2 40 12) + (nI 1))))) (if ds.length ≠ 0 ∧ y_ch nt tx e = 59 ∧ D.2.2.1 < 6 then some (e + 1, y_an D ds) else none) := by
  have d3 := hD.2.2.1
  have k1 : y_kk M0 (x_up M 40 12 (M 40 12 + nI 1)) := h0.tr (y_kk.at _)
  by_cases e0 : ds.length = 0
  · exact y_iK.no (if_pos (by rw [e0]; decide)) (if_neg (fun q => q.1 e0)) k1
  · rw [if_neg (by rw [y_le (by omega) (by omega)]; omega), ha, k_let hT (by omega), Option.bind_some]
    simp only [y_lv_c hT (show 32 ≤ 59 ∧ 59 < 200 by decide), ha, y_add]
    rw [ha, y_add] at k1
    by_cases e1 : y_ch nt tx e = 59
    · rw [if_pos e1]
      simp only [hK.2.2.1]
      by_cases e7 : D.2.2.1 < 6
      · have hK3 := hK.at (nI (e + 1))
        have hat : x_up M 40 12 (nI (e + 1)) 40 12 = nI (e + 1) := y_up_eq
        rw [if_neg (show ¬ nI 6 ≤ nI D.2.2.1 by rw [y_le (by omega) (by omega)]; omega), if_pos (show ds.length ≠ 0 ∧ y_ch nt tx e = 59 ∧ D.2.2.1 < 6 from ⟨e0, e1, e7⟩)]
        generalize x_up M 40 12 (nI (e + 1)) = M3 at hK3 hat k1
        obtain ⟨c1, c2, c3, c4, c5, c6⟩ := hK3
        rw [K_noticeOf_eq, c3]
        simp only [y_add, y_in2 (show 1 + D.2.2.1 < 15 by omega) (show 15 < 2 ^ 31 by decide), y_clamp (show 1 + D.2.2.1 < 2 ^ 31 by omega), Option.bind_some]
        refine ⟨_, rfl, fun q D' hq => ?_, k1.tr (y_kk.of ((y_but.rf.up (by simp)).up (by simp)))⟩
        cases hq
        refine ⟨⟨?_, ?_, ?_, fun j hj => ?_, fun i hi => ?_, fun k hk => ?_⟩, ?_⟩
        · simp only [y_up_at]; simp [y_an]; exact c1
        · simp only [y_up_at]; simp [y_an]; exact c2
        · simp only [y_up_at]; simp [c3, y_an]; rw [if_neg (by omega), y_add]
        · have hj2 : j < D.1.1 := hj
          have := hD.1
          obtain ⟨v1, v2, v3⟩ := c4 j hj2
          simp only [y_up_at]
          simp [y_an]
          rw [if_neg (by omega)]
          exact ⟨v1, v2, v3⟩
        · simp only [y_up_at]; simp [y_an]; exact c5 i hi
        · show _ = nI (y_cd (y_tl D.2.2.2 D.2.2.1 _ k))
          have hk2 : k < D.2.2.1 + 1 := hk
          unfold y_tl
          simp only [y_up_at]
          by_cases e : k = D.2.2.1
          · simp [e]
          · simp [e]
            exact c6 k (by omega)
        · simp only [y_up_at]; simpa using hat
      · rw [if_pos (show nI 6 ≤ nI D.2.2.1 by rw [y_le (by omega) (by omega)]; omega)]
        exact y_iK.no rfl (if_neg (fun q => e7 q.2.2)) k1
    · rw [if_neg e1]
      exact y_iK.no rfl (if_neg (fun q => e1 q.2.1)) k1
end
