/-! the checks of the code tables; printed by wip/whole/gen/checks2.py -/
def x_ln : Instr → Nat
  | .bipush _ => 2
  | .sipush _ => 3
  | .ldc _ => 2
  | .ldc_w _ => 3
  | .ldc2_w _ => 3
  | .iload _ => 2
  | .lload _ => 2
  | .aload _ => 2
  | .istore _ => 2
  | .lstore _ => 2
  | .astore _ => 2
  | .iinc _ _ => 3
  | .goto _ => 3
  | .if_icmp _ _ => 3
  | .ifCond _ _ => 3
  | .getfield _ => 3
  | .putfield _ => 3
  | .invokevirtual _ => 3
  | .invokestatic _ => 3
  | _ => 1
def x_isw : Instr → Bool
  | .tableswitch _ _ _ _ => true
  | .lookupswitch _ _ => true
  | _ => false
/-- the pairs of a lookupswitch as a flat list -/
def x_flat (pc : Nat) : List (Int × Int) → List Nat → Bool
  | [], [] => true
  | (m, o) :: ps, k :: t :: ts => decide (m = (k : Int)) && decide ((pc : Int) + o = (t : Int)) && Nat.blt k 2147483648 && x_flat pc ps ts
  | _, _ => false
def x_offs (pc : Nat) : List Int → List Nat → Bool
  | [], [] => true
  | o :: os, t :: ts => decide ((pc : Int) + o = (t : Int)) && x_offs pc os ts
  | _, _ => false
def x_call (mi cm np v ci ml kd lk idx : Nat) (kok : Bool) : Bool := kok && decide (x_vl[lk]? = some (x_cn mi, idx, cm, kd)) && Nat.blt cm 146 && Nat.beq np (x_np cm) && Nat.beq ml (x_ml cm) && Nat.beq ci (x_cn cm) && Nat.blt (x_rk cm) (x_rk mi) && Nat.ble (cond (Nat.beq kd 0) (np + 1) np) ml && (decide (v = 1 ∧ x_rt cm = none) || decide (v = 0 ∧ x_rt cm = some .int) || decide (v = 0 ∧ x_rt cm = some .boolean))
def x_aux (mi pc : Nat) (i : xI) : Bool := match i.1 with
  | .goto o => match i.2 with
    | t :: _ => decide ((pc : Int) + o = (t : Int))
    | [] => false
  | .if_icmp _ o => match i.2 with
    | t :: _ => decide ((pc : Int) + o = (t : Int))
    | [] => false
  | .ifCond _ o => match i.2 with
    | t :: _ => decide ((pc : Int) + o = (t : Int))
    | [] => false
  | .tableswitch d lo hi offs => match i.2 with
    | t :: ts => decide ((pc : Int) + d = (t : Int)) && decide (lo = 0) && decide (hi + 1 = (ts.length : Int)) && x_offs pc offs.toList ts && Nat.blt ts.length 1000
    | [] => false
  | .lookupswitch d ps => match i.2 with
    | t :: ts => decide ((pc : Int) + d = (t : Int)) && x_flat pc ps.toList ts && (ps.toList.zip (ps.toList.drop 1)).all (fun (a, next) => a.1 < next.1)
    | [] => false
  | .getfield idx => match i.2 with
    | ci :: k :: lk :: _ => decide (x_fl[lk]? = some (x_cn mi, idx, ci, k, 0)) || decide (x_fl[lk]? = some (x_cn mi, idx, ci, k, 1))
    | _ => false
  | .putfield idx => match i.2 with
    | ci :: k :: lk :: _ => decide (x_fl[lk]? = some (x_cn mi, idx, ci, k, 1))
    | _ => false
  | .ldc idx => match i.2 with
    | v :: lk :: _ => decide (x_kl[lk]? = some (x_cn mi, idx, v))
    | _ => false
  | .ldc_w idx => match i.2 with
    | v :: lk :: _ => decide (x_kl[lk]? = some (x_cn mi, idx, v))
    | _ => false
  | .ldc2_w idx => match i.2 with
    | v :: lk :: _ => decide (x_k2[lk]? = some (x_cn mi, idx, v))
    | _ => false
  | .invokevirtual idx => match i.2 with
    | cm :: np :: v :: ci :: ml :: kd :: lk :: _ => x_call mi cm np v ci ml kd lk idx (Nat.beq kd 0)
    | _ => false
  | .invokestatic idx => match i.2 with
    | [] => true
    | [lk] => decide (x_al[lk]? = some (x_cn mi, idx))
    | [w, lk] => decide (x_xl[lk]? = some (x_cn mi, idx, w))
    | cm :: np :: v :: ci :: ml :: kd :: lk :: _ => x_call mi cm np v ci ml kd lk idx (Nat.beq kd 1 || Nat.beq kd 2)
    | _ => false
  | .ireturn => match i.2 with
    | 0 :: _ => decide (x_rt mi = some .int)
    | _ => decide (x_rt mi = some .boolean)
  | .return_ => decide (x_rt mi = none)
  | _ => true
def x_chk (mi pc : Nat) (i : xI) : Bool := (match decode (x_by mi) pc with
  | .ok (j, n) => decide (j = i.1) && (x_isw i.1 || Nat.beq n (x_ln i.1))
  | .error _ => false) && x_aux mi pc i && Nat.ble 1 (x_rk mi)
def x_ck1 (mi : Nat) (c : Nat → Option xI) (pc : Nat) : Bool := match c pc with
  | none => true
  | some i => x_chk mi pc i
theorem x_rng {mi L : Nat} {c t : Nat → Option xI} (hc : ∀ pc, c pc = cond (Nat.blt pc L) (t pc) none) (h : (List.range L).all (x_ck1 mi c) = true) : ∀ pc i, c pc = some i → x_chk mi pc i = true := by
  intro pc i e
  by_cases hp : pc < L
  · have h1 := List.all_eq_true.mp h pc (List.mem_range.mpr hp)
    unfold x_ck1 at h1
    rw [e] at h1
    exact h1
  · rw [hc pc] at e
    have hb : Nat.blt pc L = false := by
      cases hq : Nat.blt pc L with
      | false => rfl
      | true => exact absurd (Nat.le_of_ble_eq_true hq) hp
    rw [hb] at e
    cases e
theorem x_ckq {mi a n : Nat} {c : Nat → Option xI} (h : (List.range' a n).all (x_ck1 mi c) = true) : ∀ pc, a ≤ pc → pc < a + n → x_ck1 mi c pc = true := fun pc h1 h2 => List.all_eq_true.mp h pc (List.mem_range'_1.mpr ⟨h1, h2⟩)
theorem x_kk0 : ∀ pc i, x_c0 pc = some i → x_chk 0 pc i = true := x_rng (L := 6) (fun _ => rfl) (by decide +kernel)
theorem x_kk1 : ∀ pc i, x_c1 pc = some i → x_chk 1 pc i = true := x_rng (L := 37) (fun _ => rfl) (by decide +kernel)
theorem x_kk2 : ∀ pc i, x_c2 pc = some i → x_chk 2 pc i = true := x_rng (L := 52) (fun _ => rfl) (by decide +kernel)
theorem x_kk3 : ∀ pc i, x_c3 pc = some i → x_chk 3 pc i = true := x_rng (L := 16) (fun _ => rfl) (by decide +kernel)
theorem x_kk4 : ∀ pc i, x_c4 pc = some i → x_chk 4 pc i = true := x_rng (L := 56) (fun _ => rfl) (by decide +kernel)
theorem x_kk5 : ∀ pc i, x_c5 pc = some i → x_chk 5 pc i = true := x_rng (L := 28) (fun _ => rfl) (by decide +kernel)
theorem x_kk6 : ∀ pc i, x_c6 pc = some i → x_chk 6 pc i = true := x_rng (L := 112) (fun _ => rfl) (by decide +kernel)
theorem x_kk7 : ∀ pc i, x_c7 pc = some i → x_chk 7 pc i = true := x_rng (L := 47) (fun _ => rfl) (by decide +kernel)
theorem x_kk8 : ∀ pc i, x_c8 pc = some i → x_chk 8 pc i = true := x_rng (L := 53) (fun _ => rfl) (by decide +kernel)
theorem x_kk9 : ∀ pc i, x_c9 pc = some i → x_chk 9 pc i = true := x_rng (L := 86) (fun _ => rfl) (by decide +kernel)
theorem x_kk10 : ∀ pc i, x_c10 pc = some i → x_chk 10 pc i = true := x_rng (L := 16) (fun _ => rfl) (by decide +kernel)
theorem x_kk11 : ∀ pc i, x_c11 pc = some i → x_chk 11 pc i = true := x_rng (L := 43) (fun _ => rfl) (by decide +kernel)
theorem x_kk12 : ∀ pc i, x_c12 pc = some i → x_chk 12 pc i = true := x_rng (L := 97) (fun _ => rfl) (by decide +kernel)
theorem x_kk13 : ∀ pc i, x_c13 pc = some i → x_chk 13 pc i = true := x_rng (L := 18) (fun _ => rfl) (by decide +kernel)
theorem x_kk14 : ∀ pc i, x_c14 pc = some i → x_chk 14 pc i = true := x_rng (L := 33) (fun _ => rfl) (by decide +kernel)
theorem x_kk15 : ∀ pc i, x_c15 pc = some i → x_chk 15 pc i = true := x_rng (L := 37) (fun _ => rfl) (by decide +kernel)
theorem x_kk16 : ∀ pc i, x_c16 pc = some i → x_chk 16 pc i = true := x_rng (L := 17) (fun _ => rfl) (by decide +kernel)
theorem x_kk17 : ∀ pc i, x_c17 pc = some i → x_chk 17 pc i = true := x_rng (L := 12) (fun _ => rfl) (by decide +kernel)
theorem x_kk18 : ∀ pc i, x_c18 pc = some i → x_chk 18 pc i = true := x_rng (L := 69) (fun _ => rfl) (by decide +kernel)
theorem x_kk19 : ∀ pc i, x_c19 pc = some i → x_chk 19 pc i = true := x_rng (L := 115) (fun _ => rfl) (by decide +kernel)
theorem x_kk20 : ∀ pc i, x_c20 pc = some i → x_chk 20 pc i = true := x_rng (L := 6) (fun _ => rfl) (by decide +kernel)
theorem x_kk21 : ∀ pc i, x_c21 pc = some i → x_chk 21 pc i = true := x_rng (L := 6) (fun _ => rfl) (by decide +kernel)
theorem x_kk22 : ∀ pc i, x_c22 pc = some i → x_chk 22 pc i = true := x_rng (L := 72) (fun _ => rfl) (by decide +kernel)
theorem x_kk23 : ∀ pc i, x_c23 pc = some i → x_chk 23 pc i = true := x_rng (L := 46) (fun _ => rfl) (by decide +kernel)
theorem x_kk24 : ∀ pc i, x_c24 pc = some i → x_chk 24 pc i = true := x_rng (L := 18) (fun _ => rfl) (by decide +kernel)
theorem x_kk25 : ∀ pc i, x_c25 pc = some i → x_chk 25 pc i = true := x_rng (L := 15) (fun _ => rfl) (by decide +kernel)
theorem x_kk26 : ∀ pc i, x_c26 pc = some i → x_chk 26 pc i = true := x_rng (L := 102) (fun _ => rfl) (by decide +kernel)
theorem x_kk27 : ∀ pc i, x_c27 pc = some i → x_chk 27 pc i = true := x_rng (L := 18) (fun _ => rfl) (by decide +kernel)
theorem x_kk28 : ∀ pc i, x_c28 pc = some i → x_chk 28 pc i = true := x_rng (L := 34) (fun _ => rfl) (by decide +kernel)
theorem x_kk29 : ∀ pc i, x_c29 pc = some i → x_chk 29 pc i = true := x_rng (L := 36) (fun _ => rfl) (by decide +kernel)
theorem x_kk30 : ∀ pc i, x_c30 pc = some i → x_chk 30 pc i = true := x_rng (L := 8) (fun _ => rfl) (by decide +kernel)
theorem x_kk31 : ∀ pc i, x_c31 pc = some i → x_chk 31 pc i = true := x_rng (L := 121) (fun _ => rfl) (by decide +kernel)
theorem x_kk32 : ∀ pc i, x_c32 pc = some i → x_chk 32 pc i = true := x_rng (L := 35) (fun _ => rfl) (by decide +kernel)
theorem x_kk33 : ∀ pc i, x_c33 pc = some i → x_chk 33 pc i = true := x_rng (L := 33) (fun _ => rfl) (by decide +kernel)
theorem x_kk34 : ∀ pc i, x_c34 pc = some i → x_chk 34 pc i = true := x_rng (L := 65) (fun _ => rfl) (by decide +kernel)
theorem x_kk35 : ∀ pc i, x_c35 pc = some i → x_chk 35 pc i = true := x_rng (L := 56) (fun _ => rfl) (by decide +kernel)
theorem x_kk36 : ∀ pc i, x_c36 pc = some i → x_chk 36 pc i = true := x_rng (L := 53) (fun _ => rfl) (by decide +kernel)
theorem x_kk37 : ∀ pc i, x_c37 pc = some i → x_chk 37 pc i = true := x_rng (L := 51) (fun _ => rfl) (by decide +kernel)
theorem x_kk38 : ∀ pc i, x_c38 pc = some i → x_chk 38 pc i = true := x_rng (L := 79) (fun _ => rfl) (by decide +kernel)
theorem x_kk39 : ∀ pc i, x_c39 pc = some i → x_chk 39 pc i = true := x_rng (L := 40) (fun _ => rfl) (by decide +kernel)
theorem x_kk40 : ∀ pc i, x_c40 pc = some i → x_chk 40 pc i = true := x_rng (L := 52) (fun _ => rfl) (by decide +kernel)
theorem x_kk41 : ∀ pc i, x_c41 pc = some i → x_chk 41 pc i = true := x_rng (L := 56) (fun _ => rfl) (by decide +kernel)
theorem x_kk42 : ∀ pc i, x_c42 pc = some i → x_chk 42 pc i = true := x_rng (L := 27) (fun _ => rfl) (by decide +kernel)
theorem x_kk43 : ∀ pc i, x_c43 pc = some i → x_chk 43 pc i = true := x_rng (L := 75) (fun _ => rfl) (by decide +kernel)
theorem x_kk44 : ∀ pc i, x_c44 pc = some i → x_chk 44 pc i = true := x_rng (L := 53) (fun _ => rfl) (by decide +kernel)
theorem x_kk45 : ∀ pc i, x_c45 pc = some i → x_chk 45 pc i = true := x_rng (L := 19) (fun _ => rfl) (by decide +kernel)
theorem x_kk46 : ∀ pc i, x_c46 pc = some i → x_chk 46 pc i = true := x_rng (L := 24) (fun _ => rfl) (by decide +kernel)
theorem x_kk47 : ∀ pc i, x_c47 pc = some i → x_chk 47 pc i = true := x_rng (L := 33) (fun _ => rfl) (by decide +kernel)
theorem x_kk48 : ∀ pc i, x_c48 pc = some i → x_chk 48 pc i = true := x_rng (L := 67) (fun _ => rfl) (by decide +kernel)
theorem x_kk49 : ∀ pc i, x_c49 pc = some i → x_chk 49 pc i = true := x_rng (L := 47) (fun _ => rfl) (by decide +kernel)
theorem x_kk50 : ∀ pc i, x_c50 pc = some i → x_chk 50 pc i = true := x_rng (L := 124) (fun _ => rfl) (by decide +kernel)
theorem x_kk51 : ∀ pc i, x_c51 pc = some i → x_chk 51 pc i = true := x_rng (L := 124) (fun _ => rfl) (by decide +kernel)
theorem x_kk52 : ∀ pc i, x_c52 pc = some i → x_chk 52 pc i = true := x_rng (L := 124) (fun _ => rfl) (by decide +kernel)
theorem x_kk53 : ∀ pc i, x_c53 pc = some i → x_chk 53 pc i = true := x_rng (L := 124) (fun _ => rfl) (by decide +kernel)
theorem x_kk54 : ∀ pc i, x_c54 pc = some i → x_chk 54 pc i = true := x_rng (L := 32) (fun _ => rfl) (by decide +kernel)
theorem x_kk55 : ∀ pc i, x_c55 pc = some i → x_chk 55 pc i = true := x_rng (L := 68) (fun _ => rfl) (by decide +kernel)
theorem x_kk56 : ∀ pc i, x_c56 pc = some i → x_chk 56 pc i = true := x_rng (L := 105) (fun _ => rfl) (by decide +kernel)
theorem x_kk57 : ∀ pc i, x_c57 pc = some i → x_chk 57 pc i = true := x_rng (L := 113) (fun _ => rfl) (by decide +kernel)
theorem x_kk58 : ∀ pc i, x_c58 pc = some i → x_chk 58 pc i = true := x_rng (L := 57) (fun _ => rfl) (by decide +kernel)
theorem x_kk59 : ∀ pc i, x_c59 pc = some i → x_chk 59 pc i = true := x_rng (L := 14) (fun _ => rfl) (by decide +kernel)
theorem x_kk60 : ∀ pc i, x_c60 pc = some i → x_chk 60 pc i = true := x_rng (L := 28) (fun _ => rfl) (by decide +kernel)
theorem x_kk61 : ∀ pc i, x_c61 pc = some i → x_chk 61 pc i = true := x_rng (L := 57) (fun _ => rfl) (by decide +kernel)
theorem x_kk62 : ∀ pc i, x_c62 pc = some i → x_chk 62 pc i = true := x_rng (L := 59) (fun _ => rfl) (by decide +kernel)
theorem x_kk63 : ∀ pc i, x_c63 pc = some i → x_chk 63 pc i = true := x_rng (L := 7) (fun _ => rfl) (by decide +kernel)
theorem x_kk64 : ∀ pc i, x_c64 pc = some i → x_chk 64 pc i = true := x_rng (L := 31) (fun _ => rfl) (by decide +kernel)
theorem x_kk65 : ∀ pc i, x_c65 pc = some i → x_chk 65 pc i = true := x_rng (L := 36) (fun _ => rfl) (by decide +kernel)
theorem x_kk66 : ∀ pc i, x_c66 pc = some i → x_chk 66 pc i = true := x_rng (L := 53) (fun _ => rfl) (by decide +kernel)
theorem x_kk67 : ∀ pc i, x_c67 pc = some i → x_chk 67 pc i = true := x_rng (L := 85) (fun _ => rfl) (by decide +kernel)
theorem x_kk68 : ∀ pc i, x_c68 pc = some i → x_chk 68 pc i = true := x_rng (L := 53) (fun _ => rfl) (by decide +kernel)
theorem x_kk69 : ∀ pc i, x_c69 pc = some i → x_chk 69 pc i = true := x_rng (L := 127) (fun _ => rfl) (by decide +kernel)
theorem x_kk70 : ∀ pc i, x_c70 pc = some i → x_chk 70 pc i = true := x_rng (L := 73) (fun _ => rfl) (by decide +kernel)
theorem x_kk71 : ∀ pc i, x_c71 pc = some i → x_chk 71 pc i = true := x_rng (L := 37) (fun _ => rfl) (by decide +kernel)
theorem x_kk72 : ∀ pc i, x_c72 pc = some i → x_chk 72 pc i = true := x_rng (L := 57) (fun _ => rfl) (by decide +kernel)
theorem x_kk73 : ∀ pc i, x_c73 pc = some i → x_chk 73 pc i = true := x_rng (L := 53) (fun _ => rfl) (by decide +kernel)
theorem x_kk74 : ∀ pc i, x_c74 pc = some i → x_chk 74 pc i = true := x_rng (L := 17) (fun _ => rfl) (by decide +kernel)
theorem x_kk75 : ∀ pc i, x_c75 pc = some i → x_chk 75 pc i = true := x_rng (L := 76) (fun _ => rfl) (by decide +kernel)
theorem x_kk76 : ∀ pc i, x_c76 pc = some i → x_chk 76 pc i = true := x_rng (L := 77) (fun _ => rfl) (by decide +kernel)
theorem x_kk77 : ∀ pc i, x_c77 pc = some i → x_chk 77 pc i = true := x_rng (L := 32) (fun _ => rfl) (by decide +kernel)
theorem x_kk78 : ∀ pc i, x_c78 pc = some i → x_chk 78 pc i = true := x_rng (L := 117) (fun _ => rfl) (by decide +kernel)
theorem x_kk79 : ∀ pc i, x_c79 pc = some i → x_chk 79 pc i = true := x_rng (L := 44) (fun _ => rfl) (by decide +kernel)
theorem x_kk80 : ∀ pc i, x_c80 pc = some i → x_chk 80 pc i = true := x_rng (L := 60) (fun _ => rfl) (by decide +kernel)
theorem x_kk81 : ∀ pc i, x_c81 pc = some i → x_chk 81 pc i = true := x_rng (L := 60) (fun _ => rfl) (by decide +kernel)
theorem x_kk82 : ∀ pc i, x_c82 pc = some i → x_chk 82 pc i = true := x_rng (L := 41) (fun _ => rfl) (by decide +kernel)
theorem x_kk83 : ∀ pc i, x_c83 pc = some i → x_chk 83 pc i = true := x_rng (L := 59) (fun _ => rfl) (by decide +kernel)
theorem x_kk84 : ∀ pc i, x_c84 pc = some i → x_chk 84 pc i = true := x_rng (L := 57) (fun _ => rfl) (by decide +kernel)
theorem x_kk85 : ∀ pc i, x_c85 pc = some i → x_chk 85 pc i = true := x_rng (L := 109) (fun _ => rfl) (by decide +kernel)
theorem x_kk86 : ∀ pc i, x_c86 pc = some i → x_chk 86 pc i = true := x_rng (L := 99) (fun _ => rfl) (by decide +kernel)
theorem x_kk87 : ∀ pc i, x_c87 pc = some i → x_chk 87 pc i = true := x_rng (L := 27) (fun _ => rfl) (by decide +kernel)
theorem x_kk88 : ∀ pc i, x_c88 pc = some i → x_chk 88 pc i = true := x_rng (L := 32) (fun _ => rfl) (by decide +kernel)
theorem x_kk89 : ∀ pc i, x_c89 pc = some i → x_chk 89 pc i = true := x_rng (L := 102) (fun _ => rfl) (by decide +kernel)
theorem x_kk90 : ∀ pc i, x_c90 pc = some i → x_chk 90 pc i = true := x_rng (L := 43) (fun _ => rfl) (by decide +kernel)
theorem x_kk91 : ∀ pc i, x_c91 pc = some i → x_chk 91 pc i = true := x_rng (L := 51) (fun _ => rfl) (by decide +kernel)
theorem x_kk92 : ∀ pc i, x_c92 pc = some i → x_chk 92 pc i = true := x_rng (L := 38) (fun _ => rfl) (by decide +kernel)
theorem x_kk93 : ∀ pc i, x_c93 pc = some i → x_chk 93 pc i = true := x_rng (L := 25) (fun _ => rfl) (by decide +kernel)
theorem x_kk94 : ∀ pc i, x_c94 pc = some i → x_chk 94 pc i = true := x_rng (L := 68) (fun _ => rfl) (by decide +kernel)
theorem x_kk95 : ∀ pc i, x_c95 pc = some i → x_chk 95 pc i = true := x_rng (L := 51) (fun _ => rfl) (by decide +kernel)
theorem x_kk96 : ∀ pc i, x_c96 pc = some i → x_chk 96 pc i = true := x_rng (L := 16) (fun _ => rfl) (by decide +kernel)
theorem x_kk97 : ∀ pc i, x_c97 pc = some i → x_chk 97 pc i = true := x_rng (L := 12) (fun _ => rfl) (by decide +kernel)
theorem x_kk98 : ∀ pc i, x_c98 pc = some i → x_chk 98 pc i = true := x_rng (L := 5) (fun _ => rfl) (by decide +kernel)
theorem x_kk99 : ∀ pc i, x_c99 pc = some i → x_chk 99 pc i = true := x_rng (L := 56) (fun _ => rfl) (by decide +kernel)
theorem x_kk100 : ∀ pc i, x_c100 pc = some i → x_chk 100 pc i = true := x_rng (L := 170) (fun _ => rfl) (by decide +kernel)
theorem x_kk101 : ∀ pc i, x_c101 pc = some i → x_chk 101 pc i = true := x_rng (L := 66) (fun _ => rfl) (by decide +kernel)
theorem x_kk102 : ∀ pc i, x_c102 pc = some i → x_chk 102 pc i = true := x_rng (L := 19) (fun _ => rfl) (by decide +kernel)
theorem x_kk103 : ∀ pc i, x_c103 pc = some i → x_chk 103 pc i = true := x_rng (L := 125) (fun _ => rfl) (by decide +kernel)
theorem x_kk104 : ∀ pc i, x_c104 pc = some i → x_chk 104 pc i = true := x_rng (L := 32) (fun _ => rfl) (by decide +kernel)
theorem x_kk105 : ∀ pc i, x_c105 pc = some i → x_chk 105 pc i = true := x_rng (L := 61) (fun _ => rfl) (by decide +kernel)
theorem x_kk106 : ∀ pc i, x_c106 pc = some i → x_chk 106 pc i = true := x_rng (L := 14) (fun _ => rfl) (by decide +kernel)
theorem x_kk107 : ∀ pc i, x_c107 pc = some i → x_chk 107 pc i = true := x_rng (L := 45) (fun _ => rfl) (by decide +kernel)
theorem x_kk108 : ∀ pc i, x_c108 pc = some i → x_chk 108 pc i = true := x_rng (L := 14) (fun _ => rfl) (by decide +kernel)
theorem x_kk109 : ∀ pc i, x_c109 pc = some i → x_chk 109 pc i = true := x_rng (L := 68) (fun _ => rfl) (by decide +kernel)
theorem x_kk110 : ∀ pc i, x_c110 pc = some i → x_chk 110 pc i = true := x_rng (L := 14) (fun _ => rfl) (by decide +kernel)
theorem x_kk111 : ∀ pc i, x_c111 pc = some i → x_chk 111 pc i = true := x_rng (L := 51) (fun _ => rfl) (by decide +kernel)
theorem x_kk112 : ∀ pc i, x_c112 pc = some i → x_chk 112 pc i = true := x_rng (L := 76) (fun _ => rfl) (by decide +kernel)
theorem x_kk113 : ∀ pc i, x_c113 pc = some i → x_chk 113 pc i = true := x_rng (L := 37) (fun _ => rfl) (by decide +kernel)
theorem x_kk114 : ∀ pc i, x_c114 pc = some i → x_chk 114 pc i = true := x_rng (L := 31) (fun _ => rfl) (by decide +kernel)
theorem x_kk115 : ∀ pc i, x_c115 pc = some i → x_chk 115 pc i = true := x_rng (L := 26) (fun _ => rfl) (by decide +kernel)
theorem x_kk116 : ∀ pc i, x_c116 pc = some i → x_chk 116 pc i = true := x_rng (L := 41) (fun _ => rfl) (by decide +kernel)
theorem x_kk117 : ∀ pc i, x_c117 pc = some i → x_chk 117 pc i = true := x_rng (L := 32) (fun _ => rfl) (by decide +kernel)
theorem x_kk118 : ∀ pc i, x_c118 pc = some i → x_chk 118 pc i = true := x_rng (L := 127) (fun _ => rfl) (by decide +kernel)
theorem x_kk119 : ∀ pc i, x_c119 pc = some i → x_chk 119 pc i = true := x_rng (L := 59) (fun _ => rfl) (by decide +kernel)
theorem x_kk120 : ∀ pc i, x_c120 pc = some i → x_chk 120 pc i = true := x_rng (L := 93) (fun _ => rfl) (by decide +kernel)
theorem x_kk121 : ∀ pc i, x_c121 pc = some i → x_chk 121 pc i = true := x_rng (L := 67) (fun _ => rfl) (by decide +kernel)
theorem x_kk122 : ∀ pc i, x_c122 pc = some i → x_chk 122 pc i = true := x_rng (L := 46) (fun _ => rfl) (by decide +kernel)
theorem x_kk123 : ∀ pc i, x_c123 pc = some i → x_chk 123 pc i = true := x_rng (L := 59) (fun _ => rfl) (by decide +kernel)
theorem x_kk124 : ∀ pc i, x_c124 pc = some i → x_chk 124 pc i = true := x_rng (L := 35) (fun _ => rfl) (by decide +kernel)
theorem x_kk125 : ∀ pc i, x_c125 pc = some i → x_chk 125 pc i = true := x_rng (L := 18) (fun _ => rfl) (by decide +kernel)
theorem x_kk126 : ∀ pc i, x_c126 pc = some i → x_chk 126 pc i = true := x_rng (L := 18) (fun _ => rfl) (by decide +kernel)
theorem x_kk127 : ∀ pc i, x_c127 pc = some i → x_chk 127 pc i = true := x_rng (L := 103) (fun _ => rfl) (by decide +kernel)
theorem x_kk128 : ∀ pc i, x_c128 pc = some i → x_chk 128 pc i = true := x_rng (L := 61) (fun _ => rfl) (by decide +kernel)
theorem x_kk129 : ∀ pc i, x_c129 pc = some i → x_chk 129 pc i = true := x_rng (L := 228) (fun _ => rfl) (by decide +kernel)
theorem x_kk130 : ∀ pc i, x_c130 pc = some i → x_chk 130 pc i = true := x_rng (L := 133) (fun _ => rfl) (by decide +kernel)
theorem x_kk131 : ∀ pc i, x_c131 pc = some i → x_chk 131 pc i = true := x_rng (L := 100) (fun _ => rfl) (by decide +kernel)
theorem x_kk132 : ∀ pc i, x_c132 pc = some i → x_chk 132 pc i = true := x_rng (L := 203) (fun _ => rfl) (by decide +kernel)
theorem x_kk133 : ∀ pc i, x_c133 pc = some i → x_chk 133 pc i = true := x_rng (L := 84) (fun _ => rfl) (by decide +kernel)
theorem x_kk134 : ∀ pc i, x_c134 pc = some i → x_chk 134 pc i = true := x_rng (L := 12) (fun _ => rfl) (by decide +kernel)
theorem x_kk135 : ∀ pc i, x_c135 pc = some i → x_chk 135 pc i = true := x_rng (L := 81) (fun _ => rfl) (by decide +kernel)
theorem x_kk136 : ∀ pc i, x_c136 pc = some i → x_chk 136 pc i = true := x_rng (L := 93) (fun _ => rfl) (by decide +kernel)
theorem x_kk137 : ∀ pc i, x_c137 pc = some i → x_chk 137 pc i = true := x_rng (L := 42) (fun _ => rfl) (by decide +kernel)
theorem x_kk138 : ∀ pc i, x_c138 pc = some i → x_chk 138 pc i = true := x_rng (L := 136) (fun _ => rfl) (by decide +kernel)
theorem x_kk139 : ∀ pc i, x_c139 pc = some i → x_chk 139 pc i = true := x_rng (L := 112) (fun _ => rfl) (by decide +kernel)
theorem x_kk140 : ∀ pc i, x_c140 pc = some i → x_chk 140 pc i = true := x_rng (L := 40) (fun _ => rfl) (by decide +kernel)
theorem x_kk141 : ∀ pc i, x_c141 pc = some i → x_chk 141 pc i = true := x_rng (L := 117) (fun _ => rfl) (by decide +kernel)
theorem x_kk142 : ∀ pc i, x_c142 pc = some i → x_chk 142 pc i = true := x_rng (L := 181) (fun _ => rfl) (by decide +kernel)
theorem x_kk143 : ∀ pc i, x_c143 pc = some i → x_chk 143 pc i = true := x_rng (L := 60) (fun _ => rfl) (by decide +kernel)
theorem x_kk144 : ∀ pc i, x_c144 pc = some i → x_chk 144 pc i = true := x_rng (L := 64) (fun _ => rfl) (by decide +kernel)
theorem x_kk145 : ∀ pc i, x_c145 pc = some i → x_chk 145 pc i = true := x_rng (L := 87) (fun _ => rfl) (by decide +kernel)
theorem x_kq146_0 : ∀ pc, 0 ≤ pc → pc < 0 + 60 → x_ck1 146 x_c146 pc = true := x_ckq (by decide +kernel)
theorem x_kq146_60 : ∀ pc, 60 ≤ pc → pc < 60 + 60 → x_ck1 146 x_c146 pc = true := x_ckq (by decide +kernel)
theorem x_kq146_120 : ∀ pc, 120 ≤ pc → pc < 120 + 60 → x_ck1 146 x_c146 pc = true := x_ckq (by decide +kernel)
theorem x_kq146_180 : ∀ pc, 180 ≤ pc → pc < 180 + 60 → x_ck1 146 x_c146 pc = true := x_ckq (by decide +kernel)
theorem x_kq146_240 : ∀ pc, 240 ≤ pc → pc < 240 + 60 → x_ck1 146 x_c146 pc = true := x_ckq (by decide +kernel)
theorem x_kq146_300 : ∀ pc, 300 ≤ pc → pc < 300 + 60 → x_ck1 146 x_c146 pc = true := x_ckq (by decide +kernel)
theorem x_kq146_360 : ∀ pc, 360 ≤ pc → pc < 360 + 60 → x_ck1 146 x_c146 pc = true := x_ckq (by decide +kernel)
theorem x_kq146_420 : ∀ pc, 420 ≤ pc → pc < 420 + 60 → x_ck1 146 x_c146 pc = true := x_ckq (by decide +kernel)
theorem x_kq146_480 : ∀ pc, 480 ≤ pc → pc < 480 + 60 → x_ck1 146 x_c146 pc = true := x_ckq (by decide +kernel)
theorem x_kq146_540 : ∀ pc, 540 ≤ pc → pc < 540 + 60 → x_ck1 146 x_c146 pc = true := x_ckq (by decide +kernel)
theorem x_kq146_600 : ∀ pc, 600 ≤ pc → pc < 600 + 60 → x_ck1 146 x_c146 pc = true := x_ckq (by decide +kernel)
theorem x_kq146_660 : ∀ pc, 660 ≤ pc → pc < 660 + 60 → x_ck1 146 x_c146 pc = true := x_ckq (by decide +kernel)
theorem x_kq146_720 : ∀ pc, 720 ≤ pc → pc < 720 + 60 → x_ck1 146 x_c146 pc = true := x_ckq (by decide +kernel)
theorem x_kq146_780 : ∀ pc, 780 ≤ pc → pc < 780 + 60 → x_ck1 146 x_c146 pc = true := x_ckq (by decide +kernel)
theorem x_kq146_840 : ∀ pc, 840 ≤ pc → pc < 840 + 60 → x_ck1 146 x_c146 pc = true := x_ckq (by decide +kernel)
theorem x_kq146_900 : ∀ pc, 900 ≤ pc → pc < 900 + 43 → x_ck1 146 x_c146 pc = true := x_ckq (by decide +kernel)
theorem x_kk146 : ∀ pc i, x_c146 pc = some i → x_chk 146 pc i = true := x_rng (L := 943) (fun _ => rfl) (by
  refine List.all_eq_true.mpr (fun pc h => ?_)
  have h := List.mem_range.mp h
  by_cases h0 : pc < 60
  · exact x_kq146_0 pc (by omega) (by omega)
  by_cases h60 : pc < 120
  · exact x_kq146_60 pc (by omega) (by omega)
  by_cases h120 : pc < 180
  · exact x_kq146_120 pc (by omega) (by omega)
  by_cases h180 : pc < 240
  · exact x_kq146_180 pc (by omega) (by omega)
  by_cases h240 : pc < 300
  · exact x_kq146_240 pc (by omega) (by omega)
  by_cases h300 : pc < 360
  · exact x_kq146_300 pc (by omega) (by omega)
  by_cases h360 : pc < 420
  · exact x_kq146_360 pc (by omega) (by omega)
  by_cases h420 : pc < 480
  · exact x_kq146_420 pc (by omega) (by omega)
  by_cases h480 : pc < 540
  · exact x_kq146_480 pc (by omega) (by omega)
  by_cases h540 : pc < 600
  · exact x_kq146_540 pc (by omega) (by omega)
  by_cases h600 : pc < 660
  · exact x_kq146_600 pc (by omega) (by omega)
  by_cases h660 : pc < 720
  · exact x_kq146_660 pc (by omega) (by omega)
  by_cases h720 : pc < 780
  · exact x_kq146_720 pc (by omega) (by omega)
  by_cases h780 : pc < 840
  · exact x_kq146_780 pc (by omega) (by omega)
  by_cases h840 : pc < 900
  · exact x_kq146_840 pc (by omega) (by omega)
  exact x_kq146_900 pc (by omega) (by omega))
theorem x_kk_ok : x_allP (fun mi c => ∀ pc i, c pc = some i → x_chk mi pc i = true) 0 x_cs := ⟨x_kk0, x_kk1, x_kk2, x_kk3, x_kk4, x_kk5, x_kk6, x_kk7, x_kk8, x_kk9, x_kk10, x_kk11, x_kk12, x_kk13, x_kk14, x_kk15, x_kk16, x_kk17, x_kk18, x_kk19, x_kk20, x_kk21, x_kk22, x_kk23, x_kk24, x_kk25, x_kk26, x_kk27, x_kk28, x_kk29, x_kk30, x_kk31, x_kk32, x_kk33, x_kk34, x_kk35, x_kk36, x_kk37, x_kk38, x_kk39, x_kk40, x_kk41, x_kk42, x_kk43, x_kk44, x_kk45, x_kk46, x_kk47, x_kk48, x_kk49, x_kk50, x_kk51, x_kk52, x_kk53, x_kk54, x_kk55, x_kk56, x_kk57, x_kk58, x_kk59, x_kk60, x_kk61, x_kk62, x_kk63, x_kk64, x_kk65, x_kk66, x_kk67, x_kk68, x_kk69, x_kk70, x_kk71, x_kk72, x_kk73, x_kk74, x_kk75, x_kk76, x_kk77, x_kk78, x_kk79, x_kk80, x_kk81, x_kk82, x_kk83, x_kk84, x_kk85, x_kk86, x_kk87, x_kk88, x_kk89, x_kk90, x_kk91, x_kk92, x_kk93, x_kk94, x_kk95, x_kk96, x_kk97, x_kk98, x_kk99, x_kk100, x_kk101, x_kk102, x_kk103, x_kk104, x_kk105, x_kk106, x_kk107, x_kk108, x_kk109, x_kk110, x_kk111, x_kk112, x_kk113, x_kk114, x_kk115, x_kk116, x_kk117, x_kk118, x_kk119, x_kk120, x_kk121, x_kk122, x_kk123, x_kk124, x_kk125, x_kk126, x_kk127, x_kk128, x_kk129, x_kk130, x_kk131, x_kk132, x_kk133, x_kk134, x_kk135, x_kk136, x_kk137, x_kk138, x_kk139, x_kk140, x_kk141, x_kk142, x_kk143, x_kk144, x_kk145, x_kk146, trivial⟩
theorem x_ok {mi pc : Nat} {i : xI} (h : x_co mi pc = some i) : x_chk mi pc i = true := by
  unfold x_co at h
  cases hc : x_cs[mi]? with
  | none => rw [hc] at h; cases h
  | some c =>
    rw [hc] at h
    exact x_allP_at x_kk_ok hc pc i h
