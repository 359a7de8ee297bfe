/-! the first state -/
noncomputable def z_M0 (L : Nat) (xs : Nat → Int32) : xM := fun a => cond (Nat.blt a 40) (z_MC a) (cond (Nat.blt a 49) (z_K16 (a - 40)) (cond (Nat.beq a 98) (fun _ => nI L) xs))
theorem z_is_eq {x : Int32} {n : Nat} (h : z_is x n = true) : x = nI n := of_decide_eq_true h
def z_f (l : List Nat) (j : Nat) : Nat := l.getD j 0
def z_n (l : List (List Nat)) (j : Nat) : List Nat := l.getD j []
theorem z_b1 : ∀ j, j < 5 → (1 ≤ z_f z_pr1 j ∧ z_f z_pr1 j ≤ 9) ∧ z_f z_me1 j ≤ 9 ∧ z_f z_ta1 j ≤ 9 ∧ z_f z_ki1 j ≤ 3 ∧ z_f z_wa1 j ≤ 9 := by decide +kernel
theorem z_b2 : ∀ k, k < 4 → 1 ≤ (z_n z_no1 k).length ∧ (z_n z_no1 k).length ≤ 5 ∧ ∀ d ∈ z_n z_no1 k, d < 5 := by decide +kernel
theorem z_inv1 {MC MK : xM} (hC : z_okC MC = true) (hK : z_okK MK = true) (L : Nat) (xs : Nat → Int32) : y_Inv (fun a => cond (Nat.blt a 40) (x_up MC 1 1 (nI 0) a) (cond (Nat.blt a 49) (MK (a - 40)) (cond (Nat.beq a 98) (fun _ => nI L) xs))) := by
  unfold z_okC at hC
  unfold z_okK at hK
  simp only [Bool.and_eq_true, List.all_eq_true, List.mem_range] at hC hK
  obtain ⟨⟨⟨⟨⟨⟨⟨⟨⟨c36, c37⟩, c38⟩, cw⟩, cn⟩, c170⟩, c172⟩, c190⟩, c192⟩, c213⟩ := hC
  obtain ⟨⟨⟨⟨⟨⟨⟨⟨k20, k21⟩, k50⟩, kw⟩, kn⟩, k01⟩, k07⟩, k09⟩, k011⟩ := hK
  have hno : ∀ k, k < 4 → y_no 5 (z_n z_no1 k) := fun k hk => z_b2 k hk
  refine ⟨5, z_f z_pr1, z_f z_me1, 5, z_f z_ki1, z_f z_wa1, (4, z_n z_no1, z_f z_ta1), 0, fun _ => 0, 0, fun _ => (0, fun _ => [], fun _ => 0), 0, fun _ => (0, fun _ => [], fun _ => 0), 0, fun _ => (0, [], 0), ⟨⟨⟨by omega, fun j hj => (z_b1 j hj).1.1⟩, ?_, ?_, ?_, ?_⟩, ⟨by omega, hno, fun j hj => (z_b1 j hj).2.2.1⟩, ⟨?_, fun k hk => ?_, ⟨?_, fun k hk => ?_, fun j hj => ?_⟩⟩, ?_, ?_, ?_, ?_⟩⟩
  · refine ⟨by omega, z_is_eq c36, fun j hj => ?_, fun j hj => ⟨(z_b1 j hj).1.2, (z_b1 j hj).2.1, (z_b1 j hj).2.2.1⟩⟩
    obtain ⟨⟨⟨⟨a1, a2⟩, a3⟩, a4⟩, a5⟩ := cw j hj
    exact ⟨z_is_eq a1, z_is_eq a2, z_is_eq a3⟩
  · refine ⟨by omega, z_is_eq c37, fun j hj => ?_, fun j hj => (z_b1 j hj).2.2.2⟩
    obtain ⟨⟨⟨⟨a1, a2⟩, a3⟩, a4⟩, a5⟩ := cw j hj
    exact ⟨z_is_eq a4, z_is_eq a5⟩
  · refine ⟨by omega, z_is_eq k20, fun j hj => ?_, fun j hj => ⟨(z_b1 j hj).1.2, (z_b1 j hj).2.1, (z_b1 j hj).2.2.1⟩⟩
    obtain ⟨⟨⟨⟨a1, a2⟩, a3⟩, a4⟩, a5⟩ := kw j hj
    exact ⟨z_is_eq a1, z_is_eq a2, z_is_eq a3⟩
  · refine ⟨by omega, z_is_eq k21, fun j hj => ?_, fun j hj => (z_b1 j hj).2.2.2⟩
    obtain ⟨⟨⟨⟨a1, a2⟩, a3⟩, a4⟩, a5⟩ := kw j hj
    exact ⟨z_is_eq a4, z_is_eq a5⟩
  · exact z_is_eq c38
  · exact z_is_eq (cn k hk)
  · exact z_is_eq k50
  · rw [Nat.zero_add]
    exact z_is_eq (kn k hk)
  · rw [Nat.zero_add]
    obtain ⟨⟨⟨⟨a1, a2⟩, a3⟩, a4⟩, a5⟩ := kw j hj
    exact z_is_eq a3
  · exact ⟨by omega, y_up_eq, z_is_eq k01, fun j hj => absurd hj (Nat.not_lt_zero _)⟩
  · exact ⟨by omega, z_is_eq c170, z_is_eq c172, z_is_eq k07, fun j hj => absurd hj (Nat.not_lt_zero _)⟩
  · exact ⟨by omega, z_is_eq c190, z_is_eq c192, z_is_eq k09, fun j hj => absurd hj (Nat.not_lt_zero _)⟩
  · exact ⟨by omega, z_is_eq c213, z_is_eq k011, fun j hj => absurd hj (Nat.not_lt_zero _)⟩
theorem z_inv0 (L : Nat) (xs : Nat → Int32) : y_Inv (z_M0 L xs) := z_inv1 z_M2_ok z_K_ok L xs
