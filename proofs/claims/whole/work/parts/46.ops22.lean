/-! matched, by the reference -/
def y_x : Nat → Int32
  | 0 => -1
  | j + 1 => nI j
theorem y_x_m1 : ∀ j, nI j + (-1) = y_x j
  | 0 => by decide
  | j + 1 => pk_m1 j
theorem y_x_K : ∀ K, nI K - nI 1 = y_x K
  | 0 => y_m1
  | K + 1 => by
    rw [y_sub (by omega)]
    rfl
def y_ab (me ta ki wa : Nat → Nat) (no : Nat → List Nat) (k q : Nat) : Nat := if y_read me ta (ki q) (no k) = wa q then 1 else 0
theorem y_bv_stay (ab : Nat → Nat → Nat) (K r g c t : Nat) (h : y_bv ab K r g c t = 0) : ∀ n, y_bv ab K r g c (t + n) = 0
  | 0 => h
  | n + 1 => by
    have ih := y_bv_stay ab K r g c t h n
    rcases y_bv01 ab K r g c (t + (n + 1)) with e | e
    · exact e
    · have h2 := ((y_bv_s ab K r g c (t + n)).mp e).1
      omega
section
variable {M : xM} {w : Nat} {pr me ta : Nat → Nat} {K r : Nat} {no : Nat → List Nat} {ki wa : Nat → Nat}
theorem k_m82 (hQ : y_KQ M w pr me ta K no) (hR : y_KR M r ki wa) (x1 x2 x3 x4 : Int32) {c : Nat} (hc : c < 2 ^ 30) : ∀ (j t : Nat) (o12 : Option Int32), t + j = K → ∃ p6 p7 p8 p9 p10 p11 p12, K_matched_82 x1 x2 x3 x4 (nI c) (nI (y_bm c t)) (nI (y_bn c t)) (y_bo K x1 c t) (nI (y_bv (y_ab me ta ki wa no) K r 0 c t)) (nI (c / 7 ^ t)) (y_x j) o12 M = K_matched_49 x1 x2 (if y_bv (y_ab me ta ki wa no) K r 0 c K = 1 ∧ ¬ nI (y_bn c K) ≤ x3 then nI (y_bn c K) else x3) (if y_bv (y_ab me ta ki wa no) K r 0 c K = 1 ∧ ¬ nI (y_bn c K) ≤ x3 then y_bo K x1 c K else x4) (nI (c + 1)) p6 p7 p8 p9 p10 p11 p12 M
  | 0, t, o12, h => by
    have ht : t = K := by omega
    subst ht
    rw [K_matched_82_eq, if_pos (show y_x 0 < nI 0 from y_m1lt), y_add]
    rcases y_bv01 (y_ab me ta ki wa no) t r 0 c t with e | e
    · rw [e, if_pos rfl, if_neg (fun q => absurd q.1 (by decide)), if_neg (fun q => absurd q.1 (by decide))]
      exact ⟨_, _, _, _, _, _, _, rfl⟩
    · rw [e, if_neg (show ¬ nI 1 = nI 0 by decide)]
      by_cases q : nI (y_bn c t) ≤ x3
      · rw [if_pos q, if_neg (fun z => z.2 q), if_neg (fun z => z.2 q)]
        exact ⟨_, _, _, _, _, _, _, rfl⟩
      · rw [if_neg q, if_pos ⟨rfl, q⟩, if_pos ⟨rfl, q⟩]
        exact ⟨_, _, _, _, _, _, _, rfl⟩
  | j + 1, t, o12, h => by
    obtain ⟨hKW, hK, h0, hk⟩ := id hQ
    obtain ⟨hds, hcd⟩ := hk j (by omega)
    have hr := hR.1
    have hj : K - 1 - t = j := by omega
    have hD7 : y_D c t < 7 := Nat.mod_lt _ (by decide)
    have hct : c / 7 ^ t ≤ c := Nat.div_le_self _ _
    have hm := y_bm_lt c t
    have hn := y_bn_le c t
    have hdv : c / 7 ^ t / 7 = c / 7 ^ (t + 1) := by rw [Nat.div_div_eq_div_mul, Nat.pow_succ]
    have ih := k_m82 hQ hR x1 x2 x3 x4 hc j (t + 1) (some (nI (y_D c t))) (by omega)
    have hs := y_bv_s (y_ab me ta ki wa no) K r 0 c t
    rw [hj] at hs
    rcases y_bv01 (y_ab me ta ki wa no) K r 0 c t with e | e
    · have eK := y_bv_stay (y_ab me ta ki wa no) K r 0 c t e (j + 1)
      rw [show t + (j + 1) = K by omega] at eK
      rw [K_matched_82_eq, if_neg (show ¬ y_x (j + 1) < nI 0 from y_nn (by omega)), e, if_pos rfl, if_pos rfl, y_add, eK, if_neg (fun q => absurd q.1 (by decide)), if_neg (fun q => absurd q.1 (by decide))]
      exact ⟨_, _, _, _, _, _, _, rfl⟩
    · rw [K_matched_82_eq, if_neg (show ¬ y_x (j + 1) < nI 0 from y_nn (by omega)), e, if_neg (show ¬ nI 1 = nI 0 by decide), y_rem2 (show c / 7 ^ t < 2 ^ 31 by omega) (by decide) (by decide), show c / 7 ^ t % 7 = y_D c t from rfl, show y_x (j + 1) = nI j from rfl, y_x_m1, y_div (show c / 7 ^ t < 2 ^ 31 by omega) (by decide) (by decide), hdv, hR.2.1, y_add]
      by_cases h6 : 6 ≤ y_D c t
      · have f1 : y_bm c (t + 1) = y_bm c t := by rw [y_bm_s, if_neg (show ¬ y_D c t < 6 by omega)]
        have f2 : y_bn c (t + 1) = y_bn c t := by rw [y_bn_s, if_neg (show ¬ y_D c t < 6 by omega)]
        have f3 : y_bo K x1 c (t + 1) = y_bo K x1 c t := by rw [y_bo_s, if_neg (show ¬ y_D c t < 6 by omega)]
        have f4 : y_bv (y_ab me ta ki wa no) K r 0 c (t + 1) = 1 := hs.mpr ⟨e, fun z => absurd z (by omega)⟩
        rw [f1, f2, f3, f4] at ih
        rw [if_pos (show nI 6 ≤ nI (y_D c t) by rw [y_le (by omega) (by omega)]; exact h6)]
        exact ih
      · have f1 : y_bm c (t + 1) = y_bm c t ||| 2 ^ y_D c t := by rw [y_bm_s, if_pos (show y_D c t < 6 by omega)]
        have f2 : y_bn c (t + 1) = y_bn c t + 1 := by rw [y_bn_s, if_pos (show y_D c t < 6 by omega)]
        have f3 : y_bo K x1 c (t + 1) = if nI j = x1 then nI (y_D c t) else y_bo K x1 c t := by rw [y_bo_s, if_pos (show y_D c t < 6 by omega), hj]
        rw [f1, f2, f3] at ih
        have fin : ∀ v, y_bv (y_ab me ta ki wa no) K r 0 c (t + 1) = v → ∃ p6 p7 p8 p9 p10 p11 p12, (if nI j = x1 then K_matched_82 x1 x2 x3 x4 (nI c) (nI (y_bm c t ||| 2 ^ y_D c t)) (nI (y_bn c t + 1)) (nI (y_D c t)) (nI v) (nI (c / 7 ^ (t + 1))) (y_x j) (some (nI (y_D c t))) M else K_matched_82 x1 x2 x3 x4 (nI c) (nI (y_bm c t ||| 2 ^ y_D c t)) (nI (y_bn c t + 1)) (y_bo K x1 c t) (nI v) (nI (c / 7 ^ (t + 1))) (y_x j) (some (nI (y_D c t))) M) = K_matched_49 x1 x2 (if y_bv (y_ab me ta ki wa no) K r 0 c K = 1 ∧ ¬ nI (y_bn c K) ≤ x3 then nI (y_bn c K) else x3) (if y_bv (y_ab me ta ki wa no) K r 0 c K = 1 ∧ ¬ nI (y_bn c K) ≤ x3 then y_bo K x1 c K else x4) (nI (c + 1)) p6 p7 p8 p9 p10 p11 p12 M := by
          intro v hv
          rw [hv] at ih
          by_cases hx : nI j = x1
          · rw [if_pos hx] at ih ⊢
            exact ih
          · rw [if_neg hx] at ih ⊢
            exact ih
        have no1 : ∀ (P : Prop), ¬ P → (y_bv (y_ab me ta ki wa no) K r 0 c (t + 1) = 1 → P) → y_bv (y_ab me ta ki wa no) K r 0 c (t + 1) = 0 := by
          intro P hP hq
          rcases y_bv01 (y_ab me ta ki wa no) K r 0 c (t + 1) with z | z
          · exact z
          · exact absurd (hq z) hP
        rw [if_neg (show ¬ nI 6 ≤ nI (y_D c t) by rw [y_le (by omega) (by omega)]; exact h6), y_bit_or6 _ hm _ (by omega), y_add]
        by_cases h7 : r ≤ y_D c t
        · rw [if_pos (show nI r ≤ nI (y_D c t) by rw [y_le (by omega) (by omega)]; exact h7)]
          exact fin 0 (no1 (y_D c t < r) (by omega) (fun z => ((hs.mp z).2 (by omega)).1))
        · rw [if_neg (show ¬ nI r ≤ nI (y_D c t) by rw [y_le (by omega) (by omega)]; exact h7), y_bit1 _ (by omega) _ (by omega)]
          by_cases h8 : y_bm c t / 2 ^ y_D c t % 2 = 0
          · rw [if_pos (show nI (y_bm c t / 2 ^ y_D c t % 2) = nI 0 by rw [h8]), y_in (show 1 + j < 15 by omega) (by decide), y_clamp (by omega), hcd, k_does hKW hR hds (by omega), Option.bind_some]
            by_cases h9 : y_read me ta (ki (y_D c t)) (no j) = wa (y_D c t)
            · rw [if_pos h9, if_neg (show ¬ nI 1 = nI 0 by decide)]
              exact fin 1 (hs.mpr ⟨e, fun _ => ⟨by omega, h8, by simp, by unfold y_ab; rw [if_pos h9]⟩⟩)
            · rw [if_neg h9, if_pos rfl]
              exact fin 0 (no1 (y_ab me ta ki wa no j (y_D c t) = 1) (by unfold y_ab; rw [if_neg h9]; decide) (fun z => ((hs.mp z).2 (by omega)).2.2.2))
          · rw [if_neg (show ¬ nI (y_bm c t / 2 ^ y_D c t % 2) = nI 0 by rw [y_eq (by omega) (by omega)]; exact h8)]
            exact fin 0 (no1 (y_bm c t / 2 ^ y_D c t % 2 = 0) h8 (fun z => ((hs.mp z).2 (by omega)).2.1))
theorem y_pv {n v : Nat} (hn : n < 2 ^ 30) (hv : v < 2 ^ 30) : (nI n ≤ nI v - nI 1) = (1 + n ≤ v) := by
  cases v with
  | zero =>
    rw [y_m1]
    apply propext
    constructor
    · intro h
      exact absurd h (fun q => by
        rw [Int32.le_iff_toInt_le, nI_toInt (by omega)] at q
        have : ((-1 : Int32)).toInt = -1 := by decide
        omega)
    · intro h; omega
  | succ v =>
    rw [y_sub (by omega), show v + 1 - 1 = v by omega, y_le (by omega) (by omega)]
    apply propext
    omega
theorem k_m49 (hQ : y_KQ M w pr me ta K no) (hR : y_KR M r ki wa) (x1 : Int32) : ∀ (n c : Nat) (b : Nat × Int32) (o6 o7 o8 o9 o10 o11 o12 : Option Int32), c + n = 7 ^ K → b.1 ≤ 7 → K_matched_49 x1 (nI (7 ^ K)) (nI b.1 - nI 1) b.2 (nI c) o6 o7 o8 o9 o10 o11 o12 M = some (if x1 = -1 then nI (y_G (y_mF (y_ab me ta ki wa no) K r x1 K 0 1 id) c n b).1 - nI 1 else (y_G (y_mF (y_ab me ta ki wa no) K r x1 K 0 1 id) c n b).2, M)
  | 0, c, b, o6, o7, o8, o9, o10, o11, o12, h, hb => by
    have hK := hQ.2.1
    have hp : 7 ^ K ≤ 7 ^ 6 := Nat.pow_le_pow_right (by decide) hK
    rw [K_matched_49_eq, if_pos (by rw [y_le (by omega) (by omega)]; omega)]
    show _ = some (if x1 = -1 then nI b.1 - nI 1 else b.2, M)
    split <;> rfl
  | n + 1, c, b, o6, o7, o8, o9, o10, o11, o12, h, hb => by
    have hK := hQ.2.1
    have hp : 7 ^ K ≤ 7 ^ 6 := Nat.pow_le_pow_right (by decide) hK
    have hn := y_bn_le c K
    obtain ⟨p6, p7, p8, p9, p10, p11, p12, e⟩ := k_m82 hQ hR x1 (nI (7 ^ K)) (nI b.1 - nI 1) b.2 (show c < 2 ^ 30 by omega) K 0 o12 (by omega)
    rw [show c / 7 ^ 0 = c from Nat.div_one c] at e
    rw [y_G_s, K_matched_49_eq, if_neg (by rw [y_le (by omega) (by omega)]; omega), hQ.2.2.1, y_x_K K]
    refine Eq.trans e ?_
    have ih := fun b hb => k_m49 hQ hR x1 n (c + 1) b p6 p7 p8 p9 p10 p11 p12 (by omega) hb
    simp only [y_pv (show y_bn c K < 2 ^ 30 by omega) (show b.1 < 2 ^ 30 by omega)]
    unfold y_mF at ih ⊢
    by_cases q : y_bv (y_ab me ta ki wa no) K r 0 c K = 1 ∧ ¬ 1 + y_bn c K ≤ b.1
    · rw [if_pos q, if_pos q, if_pos (show y_bv (y_ab me ta ki wa no) K r 0 c K = 1 ∧ b.1 < 1 + y_bn c K from ⟨q.1, by omega⟩)]
      have h1 := ih (1 + y_bn c K, id (y_bo K x1 c K)) (by show 1 + y_bn c K ≤ 7; omega)
      rw [show nI (1 + y_bn c K, id (y_bo K x1 c K)).1 - nI 1 = nI (y_bn c K) by show nI (1 + y_bn c K) - nI 1 = _; rw [y_sub (by omega)]; congr 1; omega] at h1
      exact h1
    · rw [if_neg q, if_neg q, if_neg (show ¬ (y_bv (y_ab me ta ki wa no) K r 0 c K = 1 ∧ b.1 < 1 + y_bn c K) from fun z => q ⟨z.1, by omega⟩)]
      exact ih b hb
theorem k_m19 (hQ : y_KQ M w pr me ta K no) (x1 : Int32) (o4 o5 o6 o7 o8 o9 o10 o11 o12 : Option Int32) : ∀ (n i : Nat), i + n = K → K_matched_19 x1 (nI (7 ^ i)) (nI i) o4 o5 o6 o7 o8 o9 o10 o11 o12 M = K_matched_49 x1 (nI (7 ^ K)) (-1 : Int32) (-4 : Int32) (nI 0) o6 o7 o8 o9 o10 o11 o12 M
  | 0, i, h => by
    have hK := hQ.2.1
    rw [K_matched_19_eq, hQ.2.2.1, if_pos (by rw [y_le (by omega) (by omega)]; omega), show i = K by omega]
  | n + 1, i, h => by
    have hK := hQ.2.1
    rw [K_matched_19_eq, hQ.2.2.1, if_neg (by rw [y_le (by omega) (by omega)]; omega), y_mul, y_add, ← Nat.pow_succ]
    exact k_m19 hQ x1 o4 o5 o6 o7 o8 o9 o10 o11 o12 n (i + 1) (by omega)
theorem k_m (hQ : y_KQ M w pr me ta K no) (hR : y_KR M r ki wa) (x1 : Int32) : K_matched_19 x1 (nI 1) (nI 0) none none none none none none none none none M = some (if x1 = -1 then nI (y_mo (y_ab me ta ki wa no) K r K 0) else y_ro (y_ab me ta ki wa no) K r x1 K 0, M) := by
  have h1 := k_m19 hQ x1 none none none none none none none none none K 0 (by omega)
  have h2 := k_m49 hQ hR x1 (7 ^ K) 0 (0, -4) none none none none none none none (by omega) (by decide)
  have h3 := y_mG (y_ab me ta ki wa no) K r x1 hR.1 K 0 1 0 id (0, -4) (by decide)
  rw [Nat.zero_mul, if_pos (show 0 < 1 + y_mo (y_ab me ta ki wa no) K r K 0 by omega)] at h3
  rw [h3] at h2
  refine Eq.trans h1 (Eq.trans h2 ?_)
  congr 2
  by_cases e : x1 = -1
  · rw [if_pos e, if_pos e]
    show nI (1 + y_mo (y_ab me ta ki wa no) K r K 0) - nI 1 = _
    rw [y_sub (by omega)]
    congr 1
    omega
  · rw [if_neg e, if_neg e]
    rfl
end
