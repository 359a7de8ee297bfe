/-! the first paper: what the class's own reader makes of it; what the reference's first calls make: printed by wip/whole/gen/first52.py -/
def z_by : List Nat := [119, 51, 44, 49, 44, 52, 59, 119, 50, 44, 53, 44, 53, 59, 119, 52, 44, 50, 44, 55, 59, 119, 49, 44, 48, 44, 51, 59, 119, 53, 44, 54, 44, 49, 59, 114, 48, 44, 54, 59, 114, 49, 44, 57, 59, 114, 50, 44, 52, 59, 114, 51, 44, 56, 59, 114, 49, 44, 50, 59, 110, 48, 49, 59, 110, 50, 52, 59, 110, 49, 51, 48, 59, 110, 51, 59]
def x_shC (a : Nat) : xQ := cond (Nat.blt a 40) (x_sh a) (.inr (9, 0, []))
/-- the class's cells, the text filled -/
def z_M1 : xM := fun a k => cond (Nat.beq a 2) (nI (z_by.getD k 0)) (cond (Nat.beq a 1 && Nat.beq k 1) (nI 76) (cond (Nat.beq a 17 && Nat.beq k 0) (nI 8) (cond (Nat.beq a 19 && Nat.beq k 0) (nI 2) (nI 0))))
noncomputable def z_r1 : xR := x_ev x_shC 400 2 0 [some (.ref 1), some (.ref 3), none, none, none] [] z_M1
noncomputable def z_M2 : xM := match z_r1 with
  | some r => r.2
  | none => z_M1
noncomputable def z_MC : xM := x_up z_M2 1 1 (nI 0)
def z_pr1 : List Nat := [3, 2, 4, 1, 5]
def z_me1 : List Nat := [1, 5, 2, 0, 6]
def z_ta1 : List Nat := [4, 5, 7, 3, 1]
def z_ki1 : List Nat := [0, 1, 2, 3, 1]
def z_wa1 : List Nat := [6, 9, 4, 8, 2]
def z_no1 : List (List Nat) := [[0, 1], [2, 4], [1, 3, 0], [3]]
def z_is (x : Int32) (n : Nat) : Bool := decide (x = nI n)
/-- what must stand in the class's cells -/
def z_okC (M : xM) : Bool := z_is (M 3 6) 5 && z_is (M 3 7) 5 && z_is (M 3 8) 4 && (List.range 5).all (fun j => z_is (M 4 j) (z_pr1.getD j 0) && z_is (M 5 j) (z_me1.getD j 0) && z_is (M 6 j) (z_ta1.getD j 0) && z_is (M 7 j) (z_ki1.getD j 0) && z_is (M 8 j) (z_wa1.getD j 0)) && (List.range 4).all (fun k => z_is (M 9 k) (y_cd (z_no1.getD k []))) && z_is (M 17 0) 8 && z_is (M 17 2) 0 && z_is (M 19 0) 2 && z_is (M 19 2) 0 && z_is (M 21 3) 0
theorem z_try : (match z_r1 with
  | some r => z_okC r.2
  | none => false) = true := by decide +kernel
theorem z_r1_some : ∃ v, z_r1 = some (v, z_M2) := by
  have h := z_try
  unfold z_M2
  cases hr : z_r1 with
  | none => rw [hr] at h; cases h
  | some r => exact ⟨r.1, rfl⟩
theorem z_M2_ok : z_okC z_M2 = true := by
  have h := z_try
  unfold z_M2
  cases hr : z_r1 with
  | none => rw [hr] at h; cases h
  | some r => rw [hr] at h; exact h
/-- the reference's cells -/
def x_shM (a : Nat) : xQ := cond (Nat.blt a 9) (match x_sh (a + 40) with
  | .inl (c, fs) => .inl (c, fs.map (fun v => match v with
    | .ref k => .ref (k - 40)
    | v => v))
  | .inr q => .inr q) (.inr (9, 0, []))
def z_K0 : xM := fun _ _ => nI 0
noncomputable def z_k1 : xR := x_ev x_shM 1500 90 0 [some (.ref 0), none] [] z_K0
noncomputable def z_K1 : xM := match z_k1 with
  | some r => r.2
  | none => z_K0
noncomputable def z_k2 : xR := x_ev x_shM 1500 91 0 [some (.ref 0), some (.int (nI 3)), some (.int (nI 1)), some (.int (nI 4)), none] [] z_K1
noncomputable def z_K2 : xM := match z_k2 with
  | some r => r.2
  | none => z_K1
noncomputable def z_k3 : xR := x_ev x_shM 1500 91 0 [some (.ref 0), some (.int (nI 2)), some (.int (nI 5)), some (.int (nI 5)), none] [] z_K2
noncomputable def z_K3 : xM := match z_k3 with
  | some r => r.2
  | none => z_K2
noncomputable def z_k4 : xR := x_ev x_shM 1500 91 0 [some (.ref 0), some (.int (nI 4)), some (.int (nI 2)), some (.int (nI 7)), none] [] z_K3
noncomputable def z_K4 : xM := match z_k4 with
  | some r => r.2
  | none => z_K3
noncomputable def z_k5 : xR := x_ev x_shM 1500 91 0 [some (.ref 0), some (.int (nI 1)), some (.int (nI 0)), some (.int (nI 3)), none] [] z_K4
noncomputable def z_K5 : xM := match z_k5 with
  | some r => r.2
  | none => z_K4
noncomputable def z_k6 : xR := x_ev x_shM 1500 91 0 [some (.ref 0), some (.int (nI 5)), some (.int (nI 6)), some (.int (nI 1)), none] [] z_K5
noncomputable def z_K6 : xM := match z_k6 with
  | some r => r.2
  | none => z_K5
noncomputable def z_k7 : xR := x_ev x_shM 1500 92 0 [some (.ref 0), some (.int (nI 0)), some (.int (nI 6)), none] [] z_K6
noncomputable def z_K7 : xM := match z_k7 with
  | some r => r.2
  | none => z_K6
noncomputable def z_k8 : xR := x_ev x_shM 1500 92 0 [some (.ref 0), some (.int (nI 1)), some (.int (nI 9)), none] [] z_K7
noncomputable def z_K8 : xM := match z_k8 with
  | some r => r.2
  | none => z_K7
noncomputable def z_k9 : xR := x_ev x_shM 1500 92 0 [some (.ref 0), some (.int (nI 2)), some (.int (nI 4)), none] [] z_K8
noncomputable def z_K9 : xM := match z_k9 with
  | some r => r.2
  | none => z_K8
noncomputable def z_k10 : xR := x_ev x_shM 1500 92 0 [some (.ref 0), some (.int (nI 3)), some (.int (nI 8)), none] [] z_K9
noncomputable def z_K10 : xM := match z_k10 with
  | some r => r.2
  | none => z_K9
noncomputable def z_k11 : xR := x_ev x_shM 1500 92 0 [some (.ref 0), some (.int (nI 1)), some (.int (nI 2)), none] [] z_K10
noncomputable def z_K11 : xM := match z_k11 with
  | some r => r.2
  | none => z_K10
noncomputable def z_k12 : xR := x_ev x_shM 1500 93 0 [some (.ref 0), some (.int (nI 12))] [] z_K11
noncomputable def z_K12 : xM := match z_k12 with
  | some r => r.2
  | none => z_K11
noncomputable def z_k13 : xR := x_ev x_shM 1500 93 0 [some (.ref 0), some (.int (nI 35))] [] z_K12
noncomputable def z_K13 : xM := match z_k13 with
  | some r => r.2
  | none => z_K12
noncomputable def z_k14 : xR := x_ev x_shM 1500 93 0 [some (.ref 0), some (.int (nI 241))] [] z_K13
noncomputable def z_K14 : xM := match z_k14 with
  | some r => r.2
  | none => z_K13
noncomputable def z_k15 : xR := x_ev x_shM 1500 93 0 [some (.ref 0), some (.int (nI 4))] [] z_K14
noncomputable def z_K15 : xM := match z_k15 with
  | some r => r.2
  | none => z_K14
noncomputable def z_k16 : xR := x_ev x_shM 1500 94 0 [some (.ref 0), none] [] z_K15
noncomputable def z_K16 : xM := match z_k16 with
  | some r => r.2
  | none => z_K15
def z_okK (M : xM) : Bool := z_is (M 2 0) 5 && z_is (M 2 1) 5 && z_is (M 5 0) 4 && (List.range 5).all (fun j => z_is (M 2 (2 + j)) (z_pr1.getD j 0) && z_is (M 2 (10 + j)) (z_me1.getD j 0) && z_is (M 5 (7 + j)) (z_ta1.getD j 0) && z_is (M 2 (18 + j)) (z_ki1.getD j 0) && z_is (M 2 (24 + j)) (z_wa1.getD j 0)) && (List.range 4).all (fun k => z_is (M 5 (1 + k)) (y_cd (z_no1.getD k []))) && z_is (M 0 1) 0 && z_is (M 0 7) 0 && z_is (M 0 9) 0 && z_is (M 0 11) 0
theorem z_k1_is : z_k1.isSome = true := by decide +kernel
theorem z_k1_some : ∃ v, z_k1 = some (v, z_K1) := by
  have h := z_k1_is
  unfold z_K1
  cases hr : z_k1 with
  | none => rw [hr] at h; cases h
  | some r => exact ⟨r.1, rfl⟩
theorem z_k2_is : z_k2.isSome = true := by decide +kernel
theorem z_k2_some : ∃ v, z_k2 = some (v, z_K2) := by
  have h := z_k2_is
  unfold z_K2
  cases hr : z_k2 with
  | none => rw [hr] at h; cases h
  | some r => exact ⟨r.1, rfl⟩
theorem z_k3_is : z_k3.isSome = true := by decide +kernel
theorem z_k3_some : ∃ v, z_k3 = some (v, z_K3) := by
  have h := z_k3_is
  unfold z_K3
  cases hr : z_k3 with
  | none => rw [hr] at h; cases h
  | some r => exact ⟨r.1, rfl⟩
theorem z_k4_is : z_k4.isSome = true := by decide +kernel
theorem z_k4_some : ∃ v, z_k4 = some (v, z_K4) := by
  have h := z_k4_is
  unfold z_K4
  cases hr : z_k4 with
  | none => rw [hr] at h; cases h
  | some r => exact ⟨r.1, rfl⟩
theorem z_k5_is : z_k5.isSome = true := by decide +kernel
theorem z_k5_some : ∃ v, z_k5 = some (v, z_K5) := by
  have h := z_k5_is
  unfold z_K5
  cases hr : z_k5 with
  | none => rw [hr] at h; cases h
  | some r => exact ⟨r.1, rfl⟩
theorem z_k6_is : z_k6.isSome = true := by decide +kernel
theorem z_k6_some : ∃ v, z_k6 = some (v, z_K6) := by
  have h := z_k6_is
  unfold z_K6
  cases hr : z_k6 with
  | none => rw [hr] at h; cases h
  | some r => exact ⟨r.1, rfl⟩
theorem z_k7_is : z_k7.isSome = true := by decide +kernel
theorem z_k7_some : ∃ v, z_k7 = some (v, z_K7) := by
  have h := z_k7_is
  unfold z_K7
  cases hr : z_k7 with
  | none => rw [hr] at h; cases h
  | some r => exact ⟨r.1, rfl⟩
theorem z_k8_is : z_k8.isSome = true := by decide +kernel
theorem z_k8_some : ∃ v, z_k8 = some (v, z_K8) := by
  have h := z_k8_is
  unfold z_K8
  cases hr : z_k8 with
  | none => rw [hr] at h; cases h
  | some r => exact ⟨r.1, rfl⟩
theorem z_k9_is : z_k9.isSome = true := by decide +kernel
theorem z_k9_some : ∃ v, z_k9 = some (v, z_K9) := by
  have h := z_k9_is
  unfold z_K9
  cases hr : z_k9 with
  | none => rw [hr] at h; cases h
  | some r => exact ⟨r.1, rfl⟩
theorem z_k10_is : z_k10.isSome = true := by decide +kernel
theorem z_k10_some : ∃ v, z_k10 = some (v, z_K10) := by
  have h := z_k10_is
  unfold z_K10
  cases hr : z_k10 with
  | none => rw [hr] at h; cases h
  | some r => exact ⟨r.1, rfl⟩
theorem z_k11_is : z_k11.isSome = true := by decide +kernel
theorem z_k11_some : ∃ v, z_k11 = some (v, z_K11) := by
  have h := z_k11_is
  unfold z_K11
  cases hr : z_k11 with
  | none => rw [hr] at h; cases h
  | some r => exact ⟨r.1, rfl⟩
theorem z_k12_is : z_k12.isSome = true := by decide +kernel
theorem z_k12_some : ∃ v, z_k12 = some (v, z_K12) := by
  have h := z_k12_is
  unfold z_K12
  cases hr : z_k12 with
  | none => rw [hr] at h; cases h
  | some r => exact ⟨r.1, rfl⟩
theorem z_k13_is : z_k13.isSome = true := by decide +kernel
theorem z_k13_some : ∃ v, z_k13 = some (v, z_K13) := by
  have h := z_k13_is
  unfold z_K13
  cases hr : z_k13 with
  | none => rw [hr] at h; cases h
  | some r => exact ⟨r.1, rfl⟩
theorem z_k14_is : z_k14.isSome = true := by decide +kernel
theorem z_k14_some : ∃ v, z_k14 = some (v, z_K14) := by
  have h := z_k14_is
  unfold z_K14
  cases hr : z_k14 with
  | none => rw [hr] at h; cases h
  | some r => exact ⟨r.1, rfl⟩
theorem z_k15_is : z_k15.isSome = true := by decide +kernel
theorem z_k15_some : ∃ v, z_k15 = some (v, z_K15) := by
  have h := z_k15_is
  unfold z_K15
  cases hr : z_k15 with
  | none => rw [hr] at h; cases h
  | some r => exact ⟨r.1, rfl⟩
theorem z_k16_is : z_k16.isSome = true := by decide +kernel
theorem z_k16_some : ∃ v, z_k16 = some (v, z_K16) := by
  have h := z_k16_is
  unfold z_K16
  cases hr : z_k16 with
  | none => rw [hr] at h; cases h
  | some r => exact ⟨r.1, rfl⟩
theorem z_K_ok : z_okK z_K16 = true := by decide +kernel
