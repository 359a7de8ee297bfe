/-! what the tables say of the links and of the methods; the code tables held against the bytes; printed by wip/whole/gen/checks.py -/
def x_me (mi : Nat) : xE := x_ms.getD mi x_m0
def x_y (mi : Nat) : MethodName := (x_me mi).1
def x_by (mi : Nat) : ByteArray := (x_me mi).2.1
def x_ml (mi : Nat) : Nat := (x_me mi).2.2.1
def x_rt (mi : Nat) : Option FieldType := (x_me mi).2.2.2.1
def x_cn (mi : Nat) : Nat := (x_me mi).2.2.2.2.1
def x_rk (mi : Nat) : Nat := (x_me mi).2.2.2.2.2.1
def x_np (mi : Nat) : Nat := (x_me mi).2.2.2.2.2.2
def x_allP {α : Type} (P : Nat → α → Prop) : Nat → List α → Prop
  | _, [] => True
  | n, c :: l => P n c ∧ x_allP P (n + 1) l
theorem x_allP_get {α : Type} {P : Nat → α → Prop} : ∀ (l : List α) (n k : Nat) (c : α), x_allP P n l → l[k]? = some c → P (n + k) c
  | [], _, _, _, _, h => by simp at h
  | a :: l, n, 0, c, h, e => by
    rw [List.getElem?_cons_zero] at e
    cases e
    exact h.1
  | a :: l, n, k + 1, c, h, e => by
    rw [List.getElem?_cons_succ] at e
    have h1 := x_allP_get l (n + 1) k c h.2 e
    rw [show n + (k + 1) = n + 1 + k by omega]
    exact h1
theorem x_allP_at {α : Type} {P : Nat → α → Prop} {l : List α} (h : x_allP P 0 l) {k : Nat} {c : α} (e : l[k]? = some c) : P k c := by
  have h1 := x_allP_get l 0 k c h e
  rwa [Nat.zero_add] at h1
def x_clP (_ : Nat) (q : vw_C) : Prop := (∀ w ∈ u_ws q.1 q.2.1 q.2.2, w ∈ xT) ∧ (∃ ty : Nat → FieldType, ∀ k, k < q.2.2 → parseFieldDescriptor (q.2.1 k).2.2.1 = some (ty k)) ∧ (∀ a, a < q.2.2 → ∀ b, b < q.2.2 → a ≠ b → (q.2.1 a).2.1 ≠ (q.2.1 b).2.1)
theorem x_cls_ok : x_allP x_clP 0 x_cls := ⟨⟨x_lay0, ⟨x_ty0, x_tyk0⟩, x_nm0⟩, ⟨x_lay1, ⟨x_ty1, x_tyk1⟩, x_nm1⟩, ⟨x_lay2, ⟨x_ty2, x_tyk2⟩, x_nm2⟩, ⟨x_lay3, ⟨x_ty3, x_tyk3⟩, x_nm3⟩, ⟨x_lay4, ⟨x_ty4, x_tyk4⟩, x_nm4⟩, ⟨x_lay5, ⟨x_ty5, x_tyk5⟩, x_nm5⟩, ⟨x_lay6, ⟨x_ty6, x_tyk6⟩, x_nm6⟩, ⟨x_lay7, ⟨x_ty7, x_tyk7⟩, x_nm7⟩, ⟨x_lay8, ⟨x_ty8, x_tyk8⟩, x_nm8⟩, ⟨x_lay9, ⟨x_ty9, x_tyk9⟩, x_nm9⟩, trivial⟩
def x_flP (_ : Nat) (q : Nat × Nat × Nat × Nat × Nat) : Prop := ∃ r : vw_C, x_cls[q.2.2.1]? = some r ∧ q.2.2.2.1 < r.2.2 ∧ Cond.fieldLink (x_R q.1) q.2.1 (r.2.1 q.2.2.2.1).1 (r.2.1 q.2.2.2.1).2.1 (r.2.1 q.2.2.2.1).2.2.1 ∈ xT ∧ (q.2.2.2.2 = 1 → (r.2.1 q.2.2.2.1).2.2.2 = false ∧ parseFieldDescriptor (r.2.1 q.2.2.2.1).2.2.1 = some .int)
theorem x_fl_0 : x_flP 0 (7, 15, 7, 1, 1) := ⟨(x_R7, x_T7, 2), rfl, by decide, x_in1 (List.mem_of_getElem? (i := 33) rfl) rfl, fun _ => ⟨rfl, by decide +kernel⟩⟩
theorem x_fl_1 : x_flP 1 (7, 9, 7, 0, 0) := ⟨(x_R7, x_T7, 2), rfl, by decide, x_in1 (List.mem_of_getElem? (i := 32) rfl) rfl, fun h => by cases h⟩
theorem x_fl_2 : x_flP 2 (3, 30, 3, 6, 1) := ⟨(x_R3, x_T3, 9), rfl, by decide, x_in1 (List.mem_of_getElem? (i := 64) rfl) rfl, fun _ => ⟨rfl, by decide +kernel⟩⟩
theorem x_fl_3 : x_flP 3 (3, 34, 3, 7, 1) := ⟨(x_R3, x_T3, 9), rfl, by decide, x_in1 (List.mem_of_getElem? (i := 67) rfl) rfl, fun _ => ⟨rfl, by decide +kernel⟩⟩
theorem x_fl_4 : x_flP 4 (3, 37, 3, 8, 1) := ⟨(x_R3, x_T3, 9), rfl, by decide, x_in1 (List.mem_of_getElem? (i := 69) rfl) rfl, fun _ => ⟨rfl, by decide +kernel⟩⟩
theorem x_fl_5 : x_flP 5 (3, 9, 3, 0, 0) := ⟨(x_R3, x_T3, 9), rfl, by decide, x_in1 (List.mem_of_getElem? (i := 47) rfl) rfl, fun h => by cases h⟩
theorem x_fl_6 : x_flP 6 (3, 15, 3, 1, 0) := ⟨(x_R3, x_T3, 9), rfl, by decide, x_in1 (List.mem_of_getElem? (i := 50) rfl) rfl, fun h => by cases h⟩
theorem x_fl_7 : x_flP 7 (3, 18, 3, 2, 0) := ⟨(x_R3, x_T3, 9), rfl, by decide, x_in1 (List.mem_of_getElem? (i := 53) rfl) rfl, fun h => by cases h⟩
theorem x_fl_8 : x_flP 8 (3, 21, 3, 3, 0) := ⟨(x_R3, x_T3, 9), rfl, by decide, x_in1 (List.mem_of_getElem? (i := 57) rfl) rfl, fun h => by cases h⟩
theorem x_fl_9 : x_flP 9 (3, 24, 3, 4, 0) := ⟨(x_R3, x_T3, 9), rfl, by decide, x_in1 (List.mem_of_getElem? (i := 59) rfl) rfl, fun h => by cases h⟩
theorem x_fl_10 : x_flP 10 (3, 27, 3, 5, 0) := ⟨(x_R3, x_T3, 9), rfl, by decide, x_in1 (List.mem_of_getElem? (i := 61) rfl) rfl, fun h => by cases h⟩
theorem x_fl_11 : x_flP 11 (8, 10, 8, 0, 0) := ⟨(x_R8, x_T8, 10), rfl, by decide, x_in2 (List.mem_of_getElem? (i := 104) rfl) rfl, fun h => by cases h⟩
theorem x_fl_12 : x_flP 12 (8, 94, 7, 1, 1) := ⟨(x_R7, x_T7, 2), rfl, by decide, x_in1 (List.mem_of_getElem? (i := 34) rfl) rfl, fun _ => ⟨rfl, by decide +kernel⟩⟩
theorem x_fl_13 : x_flP 13 (8, 23, 8, 2, 0) := ⟨(x_R8, x_T8, 10), rfl, by decide, x_in2 (List.mem_of_getElem? (i := 106) rfl) rfl, fun h => by cases h⟩
theorem x_fl_14 : x_flP 14 (8, 98, 3, 6, 1) := ⟨(x_R3, x_T3, 9), rfl, by decide, x_in1 (List.mem_of_getElem? (i := 66) rfl) rfl, fun _ => ⟨rfl, by decide +kernel⟩⟩
theorem x_fl_15 : x_flP 15 (8, 19, 8, 1, 0) := ⟨(x_R8, x_T8, 10), rfl, by decide, x_in2 (List.mem_of_getElem? (i := 105) rfl) rfl, fun h => by cases h⟩
theorem x_fl_16 : x_flP 16 (8, 31, 8, 3, 0) := ⟨(x_R8, x_T8, 10), rfl, by decide, x_in2 (List.mem_of_getElem? (i := 107) rfl) rfl, fun h => by cases h⟩
theorem x_fl_17 : x_flP 17 (8, 35, 8, 4, 0) := ⟨(x_R8, x_T8, 10), rfl, by decide, x_in2 (List.mem_of_getElem? (i := 108) rfl) rfl, fun h => by cases h⟩
theorem x_fl_18 : x_flP 18 (8, 41, 8, 5, 0) := ⟨(x_R8, x_T8, 10), rfl, by decide, x_in2 (List.mem_of_getElem? (i := 109) rfl) rfl, fun h => by cases h⟩
theorem x_fl_19 : x_flP 19 (6, 11, 6, 2, 1) := ⟨(x_R6, x_T6, 3), rfl, by decide, x_in1 (List.mem_of_getElem? (i := 103) rfl) rfl, fun _ => ⟨rfl, by decide +kernel⟩⟩
theorem x_fl_20 : x_flP 20 (1, 21, 1, 3, 1) := ⟨(x_R1, x_T1, 4), rfl, by decide, x_in1 (List.mem_of_getElem? (i := 121) rfl) rfl, fun _ => ⟨rfl, by decide +kernel⟩⟩
theorem x_fl_21 : x_flP 21 (8, 110, 3, 0, 0) := ⟨(x_R3, x_T3, 9), rfl, by decide, x_in1 (List.mem_of_getElem? (i := 49) rfl) rfl, fun h => by cases h⟩
theorem x_fl_22 : x_flP 22 (8, 114, 3, 1, 0) := ⟨(x_R3, x_T3, 9), rfl, by decide, x_in1 (List.mem_of_getElem? (i := 52) rfl) rfl, fun h => by cases h⟩
theorem x_fl_23 : x_flP 23 (8, 117, 3, 2, 0) := ⟨(x_R3, x_T3, 9), rfl, by decide, x_in1 (List.mem_of_getElem? (i := 56) rfl) rfl, fun h => by cases h⟩
theorem x_fl_24 : x_flP 24 (8, 126, 3, 3, 0) := ⟨(x_R3, x_T3, 9), rfl, by decide, x_in1 (List.mem_of_getElem? (i := 58) rfl) rfl, fun h => by cases h⟩
theorem x_fl_25 : x_flP 25 (8, 129, 3, 4, 0) := ⟨(x_R3, x_T3, 9), rfl, by decide, x_in1 (List.mem_of_getElem? (i := 60) rfl) rfl, fun h => by cases h⟩
theorem x_fl_26 : x_flP 26 (8, 48, 8, 6, 0) := ⟨(x_R8, x_T8, 10), rfl, by decide, x_in2 (List.mem_of_getElem? (i := 110) rfl) rfl, fun h => by cases h⟩
theorem x_fl_27 : x_flP 27 (8, 135, 3, 5, 0) := ⟨(x_R3, x_T3, 9), rfl, by decide, x_in1 (List.mem_of_getElem? (i := 63) rfl) rfl, fun h => by cases h⟩
theorem x_fl_28 : x_flP 28 (8, 142, 4, 0, 1) := ⟨(x_R4, x_T4, 7), rfl, by decide, x_in1 (List.mem_of_getElem? (i := 140) rfl) rfl, fun _ => ⟨rfl, by decide +kernel⟩⟩
theorem x_fl_29 : x_flP 29 (8, 144, 4, 2, 1) := ⟨(x_R4, x_T4, 7), rfl, by decide, x_in1 (List.mem_of_getElem? (i := 145) rfl) rfl, fun _ => ⟨rfl, by decide +kernel⟩⟩
theorem x_fl_30 : x_flP 30 (8, 146, 4, 1, 1) := ⟨(x_R4, x_T4, 7), rfl, by decide, x_in1 (List.mem_of_getElem? (i := 142) rfl) rfl, fun _ => ⟨rfl, by decide +kernel⟩⟩
theorem x_fl_31 : x_flP 31 (4, 9, 4, 0, 1) := ⟨(x_R4, x_T4, 7), rfl, by decide, x_in1 (List.mem_of_getElem? (i := 138) rfl) rfl, fun _ => ⟨rfl, by decide +kernel⟩⟩
theorem x_fl_32 : x_flP 32 (4, 15, 4, 1, 1) := ⟨(x_R4, x_T4, 7), rfl, by decide, x_in1 (List.mem_of_getElem? (i := 141) rfl) rfl, fun _ => ⟨rfl, by decide +kernel⟩⟩
theorem x_fl_33 : x_flP 33 (4, 18, 4, 2, 1) := ⟨(x_R4, x_T4, 7), rfl, by decide, x_in1 (List.mem_of_getElem? (i := 143) rfl) rfl, fun _ => ⟨rfl, by decide +kernel⟩⟩
theorem x_fl_34 : x_flP 34 (4, 21, 4, 3, 1) := ⟨(x_R4, x_T4, 7), rfl, by decide, x_in1 (List.mem_of_getElem? (i := 146) rfl) rfl, fun _ => ⟨rfl, by decide +kernel⟩⟩
theorem x_fl_35 : x_flP 35 (4, 24, 4, 4, 1) := ⟨(x_R4, x_T4, 7), rfl, by decide, x_in1 (List.mem_of_getElem? (i := 148) rfl) rfl, fun _ => ⟨rfl, by decide +kernel⟩⟩
theorem x_fl_36 : x_flP 36 (4, 27, 4, 5, 1) := ⟨(x_R4, x_T4, 7), rfl, by decide, x_in1 (List.mem_of_getElem? (i := 149) rfl) rfl, fun _ => ⟨rfl, by decide +kernel⟩⟩
theorem x_fl_37 : x_flP 37 (4, 30, 4, 6, 1) := ⟨(x_R4, x_T4, 7), rfl, by decide, x_in1 (List.mem_of_getElem? (i := 150) rfl) rfl, fun _ => ⟨rfl, by decide +kernel⟩⟩
theorem x_fl_38 : x_flP 38 (4, 50, 3, 2, 0) := ⟨(x_R3, x_T3, 9), rfl, by decide, x_in1 (List.mem_of_getElem? (i := 55) rfl) rfl, fun h => by cases h⟩
theorem x_fl_39 : x_flP 39 (4, 54, 3, 0, 0) := ⟨(x_R3, x_T3, 9), rfl, by decide, x_in1 (List.mem_of_getElem? (i := 48) rfl) rfl, fun h => by cases h⟩
theorem x_fl_40 : x_flP 40 (4, 56, 3, 1, 0) := ⟨(x_R3, x_T3, 9), rfl, by decide, x_in1 (List.mem_of_getElem? (i := 51) rfl) rfl, fun h => by cases h⟩
theorem x_fl_41 : x_flP 41 (8, 154, 3, 8, 1) := ⟨(x_R3, x_T3, 9), rfl, by decide, x_in1 (List.mem_of_getElem? (i := 71) rfl) rfl, fun _ => ⟨rfl, by decide +kernel⟩⟩
theorem x_fl_42 : x_flP 42 (6, 21, 6, 0, 0) := ⟨(x_R6, x_T6, 3), rfl, by decide, x_in1 (List.mem_of_getElem? (i := 101) rfl) rfl, fun h => by cases h⟩
theorem x_fl_43 : x_flP 43 (6, 24, 6, 1, 0) := ⟨(x_R6, x_T6, 3), rfl, by decide, x_in1 (List.mem_of_getElem? (i := 102) rfl) rfl, fun h => by cases h⟩
theorem x_fl_44 : x_flP 44 (6, 28, 3, 2, 0) := ⟨(x_R3, x_T3, 9), rfl, by decide, x_in1 (List.mem_of_getElem? (i := 54) rfl) rfl, fun h => by cases h⟩
theorem x_fl_45 : x_flP 45 (6, 39, 3, 5, 0) := ⟨(x_R3, x_T3, 9), rfl, by decide, x_in1 (List.mem_of_getElem? (i := 62) rfl) rfl, fun h => by cases h⟩
theorem x_fl_46 : x_flP 46 (6, 42, 3, 8, 1) := ⟨(x_R3, x_T3, 9), rfl, by decide, x_in1 (List.mem_of_getElem? (i := 70) rfl) rfl, fun _ => ⟨rfl, by decide +kernel⟩⟩
theorem x_fl_47 : x_flP 47 (8, 170, 6, 2, 1) := ⟨(x_R6, x_T6, 3), rfl, by decide, x_in1 (List.mem_of_getElem? (i := 104) rfl) rfl, fun _ => ⟨rfl, by decide +kernel⟩⟩
theorem x_fl_48 : x_flP 48 (8, 55, 8, 7, 0) := ⟨(x_R8, x_T8, 10), rfl, by decide, x_in2 (List.mem_of_getElem? (i := 111) rfl) rfl, fun h => by cases h⟩
theorem x_fl_49 : x_flP 49 (8, 183, 5, 2, 1) := ⟨(x_R5, x_T5, 4), rfl, by decide, x_in1 (List.mem_of_getElem? (i := 178) rfl) rfl, fun _ => ⟨rfl, by decide +kernel⟩⟩
theorem x_fl_50 : x_flP 50 (8, 186, 5, 3, 1) := ⟨(x_R5, x_T5, 4), rfl, by decide, x_in1 (List.mem_of_getElem? (i := 180) rfl) rfl, fun _ => ⟨rfl, by decide +kernel⟩⟩
theorem x_fl_51 : x_flP 51 (5, 17, 5, 1, 1) := ⟨(x_R5, x_T5, 4), rfl, by decide, x_in1 (List.mem_of_getElem? (i := 176) rfl) rfl, fun _ => ⟨rfl, by decide +kernel⟩⟩
theorem x_fl_52 : x_flP 52 (5, 21, 5, 2, 1) := ⟨(x_R5, x_T5, 4), rfl, by decide, x_in1 (List.mem_of_getElem? (i := 177) rfl) rfl, fun _ => ⟨rfl, by decide +kernel⟩⟩
theorem x_fl_53 : x_flP 53 (5, 24, 5, 3, 1) := ⟨(x_R5, x_T5, 4), rfl, by decide, x_in1 (List.mem_of_getElem? (i := 179) rfl) rfl, fun _ => ⟨rfl, by decide +kernel⟩⟩
theorem x_fl_54 : x_flP 54 (5, 11, 5, 0, 0) := ⟨(x_R5, x_T5, 4), rfl, by decide, x_in1 (List.mem_of_getElem? (i := 175) rfl) rfl, fun h => by cases h⟩
theorem x_fl_55 : x_flP 55 (5, 35, 3, 6, 1) := ⟨(x_R3, x_T3, 9), rfl, by decide, x_in1 (List.mem_of_getElem? (i := 65) rfl) rfl, fun _ => ⟨rfl, by decide +kernel⟩⟩
theorem x_fl_56 : x_flP 56 (5, 44, 4, 2, 1) := ⟨(x_R4, x_T4, 7), rfl, by decide, x_in1 (List.mem_of_getElem? (i := 144) rfl) rfl, fun _ => ⟨rfl, by decide +kernel⟩⟩
theorem x_fl_57 : x_flP 57 (5, 51, 4, 0, 1) := ⟨(x_R4, x_T4, 7), rfl, by decide, x_in1 (List.mem_of_getElem? (i := 139) rfl) rfl, fun _ => ⟨rfl, by decide +kernel⟩⟩
theorem x_fl_58 : x_flP 58 (8, 62, 8, 8, 0) := ⟨(x_R8, x_T8, 10), rfl, by decide, x_in2 (List.mem_of_getElem? (i := 112) rfl) rfl, fun h => by cases h⟩
theorem x_fl_59 : x_flP 59 (8, 189, 2, 0, 0) := ⟨(x_R2, x_T2, 3), rfl, by decide, x_in1 (List.mem_of_getElem? (i := 197) rfl) rfl, fun h => by cases h⟩
theorem x_fl_60 : x_flP 60 (8, 192, 3, 7, 1) := ⟨(x_R3, x_T3, 9), rfl, by decide, x_in1 (List.mem_of_getElem? (i := 68) rfl) rfl, fun _ => ⟨rfl, by decide +kernel⟩⟩
theorem x_fl_61 : x_flP 61 (8, 203, 2, 1, 0) := ⟨(x_R2, x_T2, 3), rfl, by decide, x_in1 (List.mem_of_getElem? (i := 199) rfl) rfl, fun h => by cases h⟩
theorem x_fl_62 : x_flP 62 (2, 18, 2, 2, 0) := ⟨(x_R2, x_T2, 3), rfl, by decide, x_in1 (List.mem_of_getElem? (i := 200) rfl) rfl, fun h => by cases h⟩
theorem x_fl_63 : x_flP 63 (2, 9, 2, 0, 0) := ⟨(x_R2, x_T2, 3), rfl, by decide, x_in1 (List.mem_of_getElem? (i := 196) rfl) rfl, fun h => by cases h⟩
theorem x_fl_64 : x_flP 64 (2, 15, 2, 1, 0) := ⟨(x_R2, x_T2, 3), rfl, by decide, x_in1 (List.mem_of_getElem? (i := 198) rfl) rfl, fun h => by cases h⟩
theorem x_fl_65 : x_flP 65 (8, 69, 8, 9, 0) := ⟨(x_R8, x_T8, 10), rfl, by decide, x_in2 (List.mem_of_getElem? (i := 113) rfl) rfl, fun h => by cases h⟩
theorem x_fl_66 : x_flP 66 (8, 212, 0, 0, 0) := ⟨(x_R0, x_T0, 4), rfl, by decide, x_in1 (List.mem_of_getElem? (i := 215) rfl) rfl, fun h => by cases h⟩
theorem x_fl_67 : x_flP 67 (8, 215, 0, 1, 0) := ⟨(x_R0, x_T0, 4), rfl, by decide, x_in1 (List.mem_of_getElem? (i := 217) rfl) rfl, fun h => by cases h⟩
theorem x_fl_68 : x_flP 68 (8, 219, 0, 2, 1) := ⟨(x_R0, x_T0, 4), rfl, by decide, x_in1 (List.mem_of_getElem? (i := 219) rfl) rfl, fun _ => ⟨rfl, by decide +kernel⟩⟩
theorem x_fl_69 : x_flP 69 (8, 222, 0, 3, 1) := ⟨(x_R0, x_T0, 4), rfl, by decide, x_in1 (List.mem_of_getElem? (i := 221) rfl) rfl, fun _ => ⟨rfl, by decide +kernel⟩⟩
theorem x_fl_70 : x_flP 70 (0, 18, 0, 2, 1) := ⟨(x_R0, x_T0, 4), rfl, by decide, x_in1 (List.mem_of_getElem? (i := 218) rfl) rfl, fun _ => ⟨rfl, by decide +kernel⟩⟩
theorem x_fl_71 : x_flP 71 (0, 22, 0, 3, 1) := ⟨(x_R0, x_T0, 4), rfl, by decide, x_in1 (List.mem_of_getElem? (i := 220) rfl) rfl, fun _ => ⟨rfl, by decide +kernel⟩⟩
theorem x_fl_72 : x_flP 72 (0, 9, 0, 0, 0) := ⟨(x_R0, x_T0, 4), rfl, by decide, x_in1 (List.mem_of_getElem? (i := 214) rfl) rfl, fun h => by cases h⟩
theorem x_fl_73 : x_flP 73 (0, 15, 0, 1, 0) := ⟨(x_R0, x_T0, 4), rfl, by decide, x_in1 (List.mem_of_getElem? (i := 216) rfl) rfl, fun h => by cases h⟩
theorem x_fl_74 : x_flP 74 (8, 226, 1, 3, 1) := ⟨(x_R1, x_T1, 4), rfl, by decide, x_in1 (List.mem_of_getElem? (i := 122) rfl) rfl, fun _ => ⟨rfl, by decide +kernel⟩⟩
theorem x_fl_75 : x_flP 75 (1, 9, 1, 0, 0) := ⟨(x_R1, x_T1, 4), rfl, by decide, x_in1 (List.mem_of_getElem? (i := 118) rfl) rfl, fun h => by cases h⟩
theorem x_fl_76 : x_flP 76 (1, 15, 1, 1, 0) := ⟨(x_R1, x_T1, 4), rfl, by decide, x_in1 (List.mem_of_getElem? (i := 119) rfl) rfl, fun h => by cases h⟩
theorem x_fl_77 : x_flP 77 (1, 18, 1, 2, 0) := ⟨(x_R1, x_T1, 4), rfl, by decide, x_in1 (List.mem_of_getElem? (i := 120) rfl) rfl, fun h => by cases h⟩
theorem x_fl_78 : x_flP 78 (8, 256, 4, 3, 1) := ⟨(x_R4, x_T4, 7), rfl, by decide, x_in1 (List.mem_of_getElem? (i := 147) rfl) rfl, fun _ => ⟨rfl, by decide +kernel⟩⟩
theorem x_fl_79 : x_flP 79 (9, 16, 9, 3, 0) := ⟨(x_R9, x_T9, 13), rfl, by decide, x_in4 (List.mem_of_getElem? (i := 2) rfl) rfl, fun h => by cases h⟩
theorem x_fl_80 : x_flP 80 (9, 19, 9, 4, 0) := ⟨(x_R9, x_T9, 13), rfl, by decide, x_in4 (List.mem_of_getElem? (i := 3) rfl) rfl, fun h => by cases h⟩
theorem x_fl_81 : x_flP 81 (9, 13, 9, 2, 0) := ⟨(x_R9, x_T9, 13), rfl, by decide, x_in4 (List.mem_of_getElem? (i := 1) rfl) rfl, fun h => by cases h⟩
theorem x_fl_82 : x_flP 82 (9, 22, 9, 5, 0) := ⟨(x_R9, x_T9, 13), rfl, by decide, x_in4 (List.mem_of_getElem? (i := 4) rfl) rfl, fun h => by cases h⟩
theorem x_fl_83 : x_flP 83 (9, 83, 9, 7, 1) := ⟨(x_R9, x_T9, 13), rfl, by decide, x_in4 (List.mem_of_getElem? (i := 6) rfl) rfl, fun _ => ⟨rfl, by decide +kernel⟩⟩
theorem x_fl_84 : x_flP 84 (9, 86, 9, 9, 1) := ⟨(x_R9, x_T9, 13), rfl, by decide, x_in4 (List.mem_of_getElem? (i := 8) rfl) rfl, fun _ => ⟨rfl, by decide +kernel⟩⟩
theorem x_fl_85 : x_flP 85 (9, 89, 9, 11, 1) := ⟨(x_R9, x_T9, 13), rfl, by decide, x_in4 (List.mem_of_getElem? (i := 10) rfl) rfl, fun _ => ⟨rfl, by decide +kernel⟩⟩
theorem x_fl_86 : x_flP 86 (9, 56, 9, 1, 1) := ⟨(x_R9, x_T9, 13), rfl, by decide, x_in4 (List.mem_of_getElem? (i := 0) rfl) rfl, fun _ => ⟨rfl, by decide +kernel⟩⟩
theorem x_fl_87 : x_flP 87 (9, 7, 9, 0, 0) := ⟨(x_R9, x_T9, 13), rfl, by decide, x_in3 (List.mem_of_getElem? (i := 239) rfl) rfl, fun h => by cases h⟩
theorem x_fl_88 : x_flP 88 (9, 60, 9, 12, 1) := ⟨(x_R9, x_T9, 13), rfl, by decide, x_in4 (List.mem_of_getElem? (i := 11) rfl) rfl, fun _ => ⟨rfl, by decide +kernel⟩⟩
theorem x_fl_89 : x_flP 89 (9, 25, 9, 6, 0) := ⟨(x_R9, x_T9, 13), rfl, by decide, x_in4 (List.mem_of_getElem? (i := 5) rfl) rfl, fun h => by cases h⟩
theorem x_fl_90 : x_flP 90 (9, 31, 9, 10, 0) := ⟨(x_R9, x_T9, 13), rfl, by decide, x_in4 (List.mem_of_getElem? (i := 9) rfl) rfl, fun h => by cases h⟩
theorem x_fl_91 : x_flP 91 (9, 28, 9, 8, 0) := ⟨(x_R9, x_T9, 13), rfl, by decide, x_in4 (List.mem_of_getElem? (i := 7) rfl) rfl, fun h => by cases h⟩
theorem x_fl_ok : x_allP x_flP 0 x_fl := ⟨x_fl_0, x_fl_1, x_fl_2, x_fl_3, x_fl_4, x_fl_5, x_fl_6, x_fl_7, x_fl_8, x_fl_9, x_fl_10, x_fl_11, x_fl_12, x_fl_13, x_fl_14, x_fl_15, x_fl_16, x_fl_17, x_fl_18, x_fl_19, x_fl_20, x_fl_21, x_fl_22, x_fl_23, x_fl_24, x_fl_25, x_fl_26, x_fl_27, x_fl_28, x_fl_29, x_fl_30, x_fl_31, x_fl_32, x_fl_33, x_fl_34, x_fl_35, x_fl_36, x_fl_37, x_fl_38, x_fl_39, x_fl_40, x_fl_41, x_fl_42, x_fl_43, x_fl_44, x_fl_45, x_fl_46, x_fl_47, x_fl_48, x_fl_49, x_fl_50, x_fl_51, x_fl_52, x_fl_53, x_fl_54, x_fl_55, x_fl_56, x_fl_57, x_fl_58, x_fl_59, x_fl_60, x_fl_61, x_fl_62, x_fl_63, x_fl_64, x_fl_65, x_fl_66, x_fl_67, x_fl_68, x_fl_69, x_fl_70, x_fl_71, x_fl_72, x_fl_73, x_fl_74, x_fl_75, x_fl_76, x_fl_77, x_fl_78, x_fl_79, x_fl_80, x_fl_81, x_fl_82, x_fl_83, x_fl_84, x_fl_85, x_fl_86, x_fl_87, x_fl_88, x_fl_89, x_fl_90, x_fl_91, trivial⟩
def x_vlP (_ : Nat) (q : Nat × Nat × Nat × Nat) : Prop := match q.2.2.2 with
  | 0 => Cond.methodLink (x_R q.1) q.2.1 (x_y q.2.2.1) ∈ xT ∧ Cond.instanceMethod (x_y q.2.2.1) ∈ xT ∧ Cond.selects (x_R (x_cn q.2.2.1)) (x_y q.2.2.1) (x_y q.2.2.1) ∈ xT
  | 1 => Cond.methodLink (x_R q.1) q.2.1 (x_y q.2.2.1) ∈ xT ∧ Cond.static (x_y q.2.2.1) ∈ xT
  | _ => (q.1, q.2.1) ∈ x_nl ∧ q.2.2.1 = 10 ∧ Cond.static (x_y q.2.2.1) ∈ xT
theorem x_vl_0 : x_vlP 0 (7, 35, 3, 0) := ⟨x_in2 (List.mem_of_getElem? (i := 56) rfl) rfl, x_in2 (List.mem_of_getElem? (i := 57) rfl) rfl, x_in2 (List.mem_of_getElem? (i := 58) rfl) rfl⟩
theorem x_vl_1 : x_vlP 1 (7, 38, 4, 0) := ⟨x_in2 (List.mem_of_getElem? (i := 60) rfl) rfl, x_in2 (List.mem_of_getElem? (i := 62) rfl) rfl, x_se1 (List.mem_of_getElem? (i := 0) rfl)⟩
theorem x_vl_2 : x_vlP 2 (7, 42, 5, 0) := ⟨x_in2 (List.mem_of_getElem? (i := 64) rfl) rfl, x_in2 (List.mem_of_getElem? (i := 66) rfl) rfl, x_se1 (List.mem_of_getElem? (i := 1) rfl)⟩
theorem x_vl_3 : x_vlP 3 (7, 46, 6, 0) := ⟨x_in2 (List.mem_of_getElem? (i := 68) rfl) rfl, x_in2 (List.mem_of_getElem? (i := 70) rfl) rfl, x_se1 (List.mem_of_getElem? (i := 2) rfl)⟩
theorem x_vl_4 : x_vlP 4 (7, 49, 9, 0) := ⟨x_in2 (List.mem_of_getElem? (i := 80) rfl) rfl, x_in2 (List.mem_of_getElem? (i := 82) rfl) rfl, x_se1 (List.mem_of_getElem? (i := 4) rfl)⟩
theorem x_vl_5 : x_vlP 5 (7, 52, 12, 0) := ⟨x_in2 (List.mem_of_getElem? (i := 91) rfl) rfl, x_in2 (List.mem_of_getElem? (i := 93) rfl) rfl, x_se1 (List.mem_of_getElem? (i := 5) rfl)⟩
theorem x_vl_6 : x_vlP 6 (7, 55, 7, 0) := ⟨x_in2 (List.mem_of_getElem? (i := 72) rfl) rfl, x_in2 (List.mem_of_getElem? (i := 74) rfl) rfl, x_se1 (List.mem_of_getElem? (i := 3) rfl)⟩
theorem x_vl_7 : x_vlP 7 (7, 59, 8, 0) := ⟨x_in2 (List.mem_of_getElem? (i := 76) rfl) rfl, x_in2 (List.mem_of_getElem? (i := 77) rfl) rfl, x_in2 (List.mem_of_getElem? (i := 78) rfl) rfl⟩
theorem x_vl_8 : x_vlP 8 (7, 63, 10, 2) := ⟨by decide, rfl, x_in2 (List.mem_of_getElem? (i := 85) rfl) rfl⟩
theorem x_vl_9 : x_vlP 9 (7, 66, 11, 0) := ⟨x_in2 (List.mem_of_getElem? (i := 87) rfl) rfl, x_in2 (List.mem_of_getElem? (i := 88) rfl) rfl, x_in2 (List.mem_of_getElem? (i := 89) rfl) rfl⟩
theorem x_vl_10 : x_vlP 10 (7, 70, 13, 0) := ⟨x_in2 (List.mem_of_getElem? (i := 95) rfl) rfl, x_in2 (List.mem_of_getElem? (i := 96) rfl) rfl, x_in2 (List.mem_of_getElem? (i := 97) rfl) rfl⟩
theorem x_vl_11 : x_vlP 11 (7, 73, 14, 0) := ⟨x_in2 (List.mem_of_getElem? (i := 99) rfl) rfl, x_in2 (List.mem_of_getElem? (i := 100) rfl) rfl, x_in2 (List.mem_of_getElem? (i := 101) rfl) rfl⟩
theorem x_vl_12 : x_vlP 12 (8, 86, 10, 1) := ⟨x_in2 (List.mem_of_getElem? (i := 140) rfl) rfl, x_in2 (List.mem_of_getElem? (i := 85) rfl) rfl⟩
theorem x_vl_13 : x_vlP 13 (8, 90, 1, 0) := ⟨x_in2 (List.mem_of_getElem? (i := 141) rfl) rfl, x_in2 (List.mem_of_getElem? (i := 49) rfl) rfl, x_in2 (List.mem_of_getElem? (i := 50) rfl) rfl⟩
theorem x_vl_14 : x_vlP 14 (8, 83, 0, 0) := ⟨x_in2 (List.mem_of_getElem? (i := 103) rfl) rfl, x_in1 (List.mem_of_getElem? (i := 237) rfl) rfl, x_in1 (List.mem_of_getElem? (i := 238) rfl) rfl⟩
theorem x_vl_15 : x_vlP 15 (8, 79, 2, 0) := ⟨x_in2 (List.mem_of_getElem? (i := 52) rfl) rfl, x_in2 (List.mem_of_getElem? (i := 53) rfl) rfl, x_in2 (List.mem_of_getElem? (i := 54) rfl) rfl⟩
theorem x_vl_16 : x_vlP 16 (8, 101, 19, 0) := ⟨x_in2 (List.mem_of_getElem? (i := 154) rfl) rfl, x_in2 (List.mem_of_getElem? (i := 155) rfl) rfl, x_in2 (List.mem_of_getElem? (i := 156) rfl) rfl⟩
theorem x_vl_17 : x_vlP 17 (8, 105, 20, 0) := ⟨x_in2 (List.mem_of_getElem? (i := 161) rfl) rfl, x_in2 (List.mem_of_getElem? (i := 162) rfl) rfl, x_in2 (List.mem_of_getElem? (i := 163) rfl) rfl⟩
theorem x_vl_18 : x_vlP 18 (8, 106, 21, 0) := ⟨x_in2 (List.mem_of_getElem? (i := 165) rfl) rfl, x_in2 (List.mem_of_getElem? (i := 166) rfl) rfl, x_in2 (List.mem_of_getElem? (i := 167) rfl) rfl⟩
theorem x_vl_19 : x_vlP 19 (8, 107, 13, 0) := ⟨x_in2 (List.mem_of_getElem? (i := 173) rfl) rfl, x_in2 (List.mem_of_getElem? (i := 96) rfl) rfl, x_in2 (List.mem_of_getElem? (i := 97) rfl) rfl⟩
theorem x_vl_20 : x_vlP 20 (8, 120, 24, 0) := ⟨x_in2 (List.mem_of_getElem? (i := 178) rfl) rfl, x_in2 (List.mem_of_getElem? (i := 179) rfl) rfl, x_in2 (List.mem_of_getElem? (i := 180) rfl) rfl⟩
theorem x_vl_21 : x_vlP 21 (8, 123, 25, 1) := ⟨x_in2 (List.mem_of_getElem? (i := 182) rfl) rfl, x_in2 (List.mem_of_getElem? (i := 183) rfl) rfl⟩
theorem x_vl_22 : x_vlP 22 (8, 132, 27, 0) := ⟨x_in2 (List.mem_of_getElem? (i := 189) rfl) rfl, x_in2 (List.mem_of_getElem? (i := 190) rfl) rfl, x_in2 (List.mem_of_getElem? (i := 191) rfl) rfl⟩
theorem x_vl_23 : x_vlP 23 (8, 138, 28, 0) := ⟨x_in2 (List.mem_of_getElem? (i := 193) rfl) rfl, x_in2 (List.mem_of_getElem? (i := 194) rfl) rfl, x_in2 (List.mem_of_getElem? (i := 195) rfl) rfl⟩
theorem x_vl_24 : x_vlP 24 (8, 147, 32, 0) := ⟨x_in2 (List.mem_of_getElem? (i := 210) rfl) rfl, x_in2 (List.mem_of_getElem? (i := 211) rfl) rfl, x_in2 (List.mem_of_getElem? (i := 212) rfl) rfl⟩
theorem x_vl_25 : x_vlP 25 (4, 33, 29, 0) := ⟨x_in2 (List.mem_of_getElem? (i := 197) rfl) rfl, x_in2 (List.mem_of_getElem? (i := 198) rfl) rfl, x_in2 (List.mem_of_getElem? (i := 199) rfl) rfl⟩
theorem x_vl_26 : x_vlP 26 (4, 36, 30, 0) := ⟨x_in2 (List.mem_of_getElem? (i := 201) rfl) rfl, x_in2 (List.mem_of_getElem? (i := 202) rfl) rfl, x_in2 (List.mem_of_getElem? (i := 203) rfl) rfl⟩
theorem x_vl_27 : x_vlP 27 (4, 40, 31, 0) := ⟨x_in2 (List.mem_of_getElem? (i := 205) rfl) rfl, x_in2 (List.mem_of_getElem? (i := 206) rfl) rfl, x_in2 (List.mem_of_getElem? (i := 207) rfl) rfl⟩
theorem x_vl_28 : x_vlP 28 (4, 44, 13, 0) := ⟨x_in2 (List.mem_of_getElem? (i := 209) rfl) rfl, x_in2 (List.mem_of_getElem? (i := 96) rfl) rfl, x_in2 (List.mem_of_getElem? (i := 97) rfl) rfl⟩
theorem x_vl_29 : x_vlP 29 (3, 67, 33, 0) := ⟨x_in2 (List.mem_of_getElem? (i := 214) rfl) rfl, x_in2 (List.mem_of_getElem? (i := 215) rfl) rfl, x_in2 (List.mem_of_getElem? (i := 216) rfl) rfl⟩
theorem x_vl_30 : x_vlP 30 (3, 58, 24, 0) := ⟨x_in2 (List.mem_of_getElem? (i := 218) rfl) rfl, x_in2 (List.mem_of_getElem? (i := 179) rfl) rfl, x_in2 (List.mem_of_getElem? (i := 180) rfl) rfl⟩
theorem x_vl_31 : x_vlP 31 (3, 61, 34, 0) := ⟨x_in2 (List.mem_of_getElem? (i := 219) rfl) rfl, x_in2 (List.mem_of_getElem? (i := 220) rfl) rfl, x_in2 (List.mem_of_getElem? (i := 221) rfl) rfl⟩
theorem x_vl_32 : x_vlP 32 (8, 151, 36, 0) := ⟨x_in2 (List.mem_of_getElem? (i := 227) rfl) rfl, x_in2 (List.mem_of_getElem? (i := 228) rfl) rfl, x_in2 (List.mem_of_getElem? (i := 229) rfl) rfl⟩
theorem x_vl_33 : x_vlP 33 (8, 157, 37, 0) := ⟨x_in2 (List.mem_of_getElem? (i := 234) rfl) rfl, x_in2 (List.mem_of_getElem? (i := 235) rfl) rfl, x_in2 (List.mem_of_getElem? (i := 236) rfl) rfl⟩
theorem x_vl_34 : x_vlP 34 (8, 160, 14, 0) := ⟨x_in3 (List.mem_of_getElem? (i := 3) rfl) rfl, x_in2 (List.mem_of_getElem? (i := 100) rfl) rfl, x_in2 (List.mem_of_getElem? (i := 101) rfl) rfl⟩
theorem x_vl_35 : x_vlP 35 (3, 47, 10, 2) := ⟨by decide, rfl, x_in2 (List.mem_of_getElem? (i := 85) rfl) rfl⟩
theorem x_vl_36 : x_vlP 36 (3, 51, 13, 0) := ⟨x_in2 (List.mem_of_getElem? (i := 233) rfl) rfl, x_in2 (List.mem_of_getElem? (i := 96) rfl) rfl, x_in2 (List.mem_of_getElem? (i := 97) rfl) rfl⟩
theorem x_vl_37 : x_vlP 37 (6, 45, 38, 0) := ⟨x_in2 (List.mem_of_getElem? (i := 239) rfl) rfl, x_in3 (List.mem_of_getElem? (i := 0) rfl) rfl, x_in3 (List.mem_of_getElem? (i := 1) rfl) rfl⟩
theorem x_vl_38 : x_vlP 38 (8, 163, 40, 0) := ⟨x_in3 (List.mem_of_getElem? (i := 8) rfl) rfl, x_in3 (List.mem_of_getElem? (i := 9) rfl) rfl, x_in3 (List.mem_of_getElem? (i := 10) rfl) rfl⟩
theorem x_vl_39 : x_vlP 39 (3, 55, 27, 0) := ⟨x_in3 (List.mem_of_getElem? (i := 12) rfl) rfl, x_in2 (List.mem_of_getElem? (i := 190) rfl) rfl, x_in2 (List.mem_of_getElem? (i := 191) rfl) rfl⟩
theorem x_vl_40 : x_vlP 40 (8, 166, 43, 0) := ⟨x_in3 (List.mem_of_getElem? (i := 21) rfl) rfl, x_in3 (List.mem_of_getElem? (i := 22) rfl) rfl, x_in3 (List.mem_of_getElem? (i := 23) rfl) rfl⟩
theorem x_vl_41 : x_vlP 41 (8, 173, 34, 0) := ⟨x_in3 (List.mem_of_getElem? (i := 29) rfl) rfl, x_in2 (List.mem_of_getElem? (i := 220) rfl) rfl, x_in2 (List.mem_of_getElem? (i := 221) rfl) rfl⟩
theorem x_vl_42 : x_vlP 42 (8, 177, 46, 0) := ⟨x_in3 (List.mem_of_getElem? (i := 34) rfl) rfl, x_in3 (List.mem_of_getElem? (i := 36) rfl) rfl, x_se1 (List.mem_of_getElem? (i := 6) rfl)⟩
theorem x_vl_43 : x_vlP 43 (8, 180, 49, 0) := ⟨x_in3 (List.mem_of_getElem? (i := 46) rfl) rfl, x_in3 (List.mem_of_getElem? (i := 47) rfl) rfl, x_in3 (List.mem_of_getElem? (i := 48) rfl) rfl⟩
theorem x_vl_44 : x_vlP 44 (5, 28, 29, 0) := ⟨x_in3 (List.mem_of_getElem? (i := 50) rfl) rfl, x_in2 (List.mem_of_getElem? (i := 198) rfl) rfl, x_in2 (List.mem_of_getElem? (i := 199) rfl) rfl⟩
theorem x_vl_45 : x_vlP 45 (5, 31, 50, 1) := ⟨x_in3 (List.mem_of_getElem? (i := 51) rfl) rfl, x_in3 (List.mem_of_getElem? (i := 52) rfl) rfl⟩
theorem x_vl_46 : x_vlP 46 (5, 40, 31, 0) := ⟨x_in3 (List.mem_of_getElem? (i := 54) rfl) rfl, x_in2 (List.mem_of_getElem? (i := 206) rfl) rfl, x_in2 (List.mem_of_getElem? (i := 207) rfl) rfl⟩
theorem x_vl_47 : x_vlP 47 (5, 31, 51, 1) := ⟨x_in3 (List.mem_of_getElem? (i := 51) rfl) rfl, x_in3 (List.mem_of_getElem? (i := 52) rfl) rfl⟩
theorem x_vl_48 : x_vlP 48 (5, 47, 54, 0) := ⟨x_in3 (List.mem_of_getElem? (i := 55) rfl) rfl, x_in3 (List.mem_of_getElem? (i := 57) rfl) rfl, x_se1 (List.mem_of_getElem? (i := 7) rfl)⟩
theorem x_vl_49 : x_vlP 49 (5, 31, 52, 1) := ⟨x_in3 (List.mem_of_getElem? (i := 51) rfl) rfl, x_in3 (List.mem_of_getElem? (i := 52) rfl) rfl⟩
theorem x_vl_50 : x_vlP 50 (5, 31, 53, 1) := ⟨x_in3 (List.mem_of_getElem? (i := 51) rfl) rfl, x_in3 (List.mem_of_getElem? (i := 52) rfl) rfl⟩
theorem x_vl_51 : x_vlP 51 (5, 54, 33, 0) := ⟨x_in3 (List.mem_of_getElem? (i := 59) rfl) rfl, x_in2 (List.mem_of_getElem? (i := 215) rfl) rfl, x_in2 (List.mem_of_getElem? (i := 216) rfl) rfl⟩
theorem x_vl_52 : x_vlP 52 (5, 58, 32, 0) := ⟨x_in3 (List.mem_of_getElem? (i := 60) rfl) rfl, x_in2 (List.mem_of_getElem? (i := 211) rfl) rfl, x_in2 (List.mem_of_getElem? (i := 212) rfl) rfl⟩
theorem x_vl_53 : x_vlP 53 (8, 195, 57, 0) := ⟨x_in3 (List.mem_of_getElem? (i := 69) rfl) rfl, x_in3 (List.mem_of_getElem? (i := 70) rfl) rfl, x_in3 (List.mem_of_getElem? (i := 71) rfl) rfl⟩
theorem x_vl_54 : x_vlP 54 (8, 199, 63, 0) := ⟨x_in3 (List.mem_of_getElem? (i := 95) rfl) rfl, x_in3 (List.mem_of_getElem? (i := 96) rfl) rfl, x_in3 (List.mem_of_getElem? (i := 97) rfl) rfl⟩
theorem x_vl_55 : x_vlP 55 (2, 21, 10, 2) := ⟨by decide, rfl, x_in2 (List.mem_of_getElem? (i := 85) rfl) rfl⟩
theorem x_vl_56 : x_vlP 56 (2, 25, 58, 0) := ⟨x_in3 (List.mem_of_getElem? (i := 74) rfl) rfl, x_in3 (List.mem_of_getElem? (i := 76) rfl) rfl, x_se1 (List.mem_of_getElem? (i := 8) rfl)⟩
theorem x_vl_57 : x_vlP 57 (2, 29, 61, 0) := ⟨x_in3 (List.mem_of_getElem? (i := 87) rfl) rfl, x_in3 (List.mem_of_getElem? (i := 89) rfl) rfl, x_se1 (List.mem_of_getElem? (i := 11) rfl)⟩
theorem x_vl_58 : x_vlP 58 (2, 33, 59, 0) := ⟨x_in3 (List.mem_of_getElem? (i := 78) rfl) rfl, x_in3 (List.mem_of_getElem? (i := 80) rfl) rfl, x_se1 (List.mem_of_getElem? (i := 9) rfl)⟩
theorem x_vl_59 : x_vlP 59 (2, 37, 60, 0) := ⟨x_in3 (List.mem_of_getElem? (i := 82) rfl) rfl, x_in3 (List.mem_of_getElem? (i := 84) rfl) rfl, x_se1 (List.mem_of_getElem? (i := 10) rfl)⟩
theorem x_vl_60 : x_vlP 60 (2, 45, 62, 0) := ⟨x_in3 (List.mem_of_getElem? (i := 91) rfl) rfl, x_in3 (List.mem_of_getElem? (i := 93) rfl) rfl, x_se1 (List.mem_of_getElem? (i := 12) rfl)⟩
theorem x_vl_61 : x_vlP 61 (8, 206, 65, 0) := ⟨x_in3 (List.mem_of_getElem? (i := 103) rfl) rfl, x_in3 (List.mem_of_getElem? (i := 105) rfl) rfl, x_se1 (List.mem_of_getElem? (i := 13) rfl)⟩
theorem x_vl_62 : x_vlP 62 (8, 209, 66, 0) := ⟨x_in3 (List.mem_of_getElem? (i := 107) rfl) rfl, x_in3 (List.mem_of_getElem? (i := 109) rfl) rfl, x_se1 (List.mem_of_getElem? (i := 14) rfl)⟩
theorem x_vl_63 : x_vlP 63 (8, 231, 68, 1) := ⟨x_in3 (List.mem_of_getElem? (i := 114) rfl) rfl, x_in3 (List.mem_of_getElem? (i := 115) rfl) rfl⟩
theorem x_vl_64 : x_vlP 64 (8, 252, 67, 1) := ⟨x_in3 (List.mem_of_getElem? (i := 111) rfl) rfl, x_in3 (List.mem_of_getElem? (i := 112) rfl) rfl⟩
theorem x_vl_65 : x_vlP 65 (8, 218, 70, 0) := ⟨x_in3 (List.mem_of_getElem? (i := 124) rfl) rfl, x_in3 (List.mem_of_getElem? (i := 125) rfl) rfl, x_in3 (List.mem_of_getElem? (i := 126) rfl) rfl⟩
theorem x_vl_66 : x_vlP 66 (0, 31, 71, 1) := ⟨x_in3 (List.mem_of_getElem? (i := 131) rfl) rfl, x_in3 (List.mem_of_getElem? (i := 132) rfl) rfl⟩
theorem x_vl_67 : x_vlP 67 (8, 223, 73, 0) := ⟨x_in3 (List.mem_of_getElem? (i := 138) rfl) rfl, x_in3 (List.mem_of_getElem? (i := 139) rfl) rfl, x_in3 (List.mem_of_getElem? (i := 140) rfl) rfl⟩
theorem x_vl_68 : x_vlP 68 (8, 227, 76, 0) := ⟨x_in3 (List.mem_of_getElem? (i := 150) rfl) rfl, x_in3 (List.mem_of_getElem? (i := 151) rfl) rfl, x_in3 (List.mem_of_getElem? (i := 152) rfl) rfl⟩
theorem x_vl_69 : x_vlP 69 (1, 25, 28, 0) := ⟨x_in3 (List.mem_of_getElem? (i := 154) rfl) rfl, x_in2 (List.mem_of_getElem? (i := 194) rfl) rfl, x_in2 (List.mem_of_getElem? (i := 195) rfl) rfl⟩
theorem x_vl_70 : x_vlP 70 (1, 31, 33, 0) := ⟨x_in3 (List.mem_of_getElem? (i := 155) rfl) rfl, x_in2 (List.mem_of_getElem? (i := 215) rfl) rfl, x_in2 (List.mem_of_getElem? (i := 216) rfl) rfl⟩
theorem x_vl_71 : x_vlP 71 (8, 236, 79, 1) := ⟨x_in3 (List.mem_of_getElem? (i := 164) rfl) rfl, x_in3 (List.mem_of_getElem? (i := 165) rfl) rfl⟩
theorem x_vl_72 : x_vlP 72 (8, 240, 81, 1) := ⟨x_in3 (List.mem_of_getElem? (i := 171) rfl) rfl, x_in3 (List.mem_of_getElem? (i := 172) rfl) rfl⟩
theorem x_vl_73 : x_vlP 73 (8, 243, 84, 0) := ⟨x_in3 (List.mem_of_getElem? (i := 183) rfl) rfl, x_in3 (List.mem_of_getElem? (i := 185) rfl) rfl, x_se1 (List.mem_of_getElem? (i := 15) rfl)⟩
theorem x_vl_74 : x_vlP 74 (8, 246, 86, 0) := ⟨x_in3 (List.mem_of_getElem? (i := 191) rfl) rfl, x_in3 (List.mem_of_getElem? (i := 193) rfl) rfl, x_se2 (List.mem_of_getElem? (i := 0) rfl)⟩
theorem x_vl_75 : x_vlP 75 (8, 267, 29, 0) := ⟨x_in3 (List.mem_of_getElem? (i := 198) rfl) rfl, x_in2 (List.mem_of_getElem? (i := 198) rfl) rfl, x_in2 (List.mem_of_getElem? (i := 199) rfl) rfl⟩
theorem x_vl_76 : x_vlP 76 (8, 268, 30, 0) := ⟨x_in3 (List.mem_of_getElem? (i := 199) rfl) rfl, x_in2 (List.mem_of_getElem? (i := 202) rfl) rfl, x_in2 (List.mem_of_getElem? (i := 203) rfl) rfl⟩
theorem x_vl_77 : x_vlP 77 (8, 249, 38, 0) := ⟨x_in3 (List.mem_of_getElem? (i := 204) rfl) rfl, x_in3 (List.mem_of_getElem? (i := 0) rfl) rfl, x_in3 (List.mem_of_getElem? (i := 1) rfl) rfl⟩
theorem x_vl_78 : x_vlP 78 (9, 52, 96, 1) := ⟨x_in4 (List.mem_of_getElem? (i := 43) rfl) rfl, x_in4 (List.mem_of_getElem? (i := 44) rfl) rfl⟩
theorem x_vl_79 : x_vlP 79 (9, 79, 99, 0) := ⟨x_in4 (List.mem_of_getElem? (i := 54) rfl) rfl, x_in4 (List.mem_of_getElem? (i := 56) rfl) rfl, x_se2 (List.mem_of_getElem? (i := 6) rfl)⟩
theorem x_vl_80 : x_vlP 80 (9, 34, 90, 0) := ⟨x_in3 (List.mem_of_getElem? (i := 219) rfl) rfl, x_in3 (List.mem_of_getElem? (i := 221) rfl) rfl, x_se2 (List.mem_of_getElem? (i := 1) rfl)⟩
theorem x_vl_81 : x_vlP 81 (9, 75, 100, 0) := ⟨x_in4 (List.mem_of_getElem? (i := 58) rfl) rfl, x_in4 (List.mem_of_getElem? (i := 60) rfl) rfl, x_se2 (List.mem_of_getElem? (i := 7) rfl)⟩
theorem x_vl_82 : x_vlP 82 (9, 67, 101, 0) := ⟨x_in4 (List.mem_of_getElem? (i := 62) rfl) rfl, x_in4 (List.mem_of_getElem? (i := 64) rfl) rfl, x_se2 (List.mem_of_getElem? (i := 8) rfl)⟩
theorem x_vl_83 : x_vlP 83 (9, 37, 91, 0) := ⟨x_in3 (List.mem_of_getElem? (i := 223) rfl) rfl, x_in3 (List.mem_of_getElem? (i := 225) rfl) rfl, x_se2 (List.mem_of_getElem? (i := 2) rfl)⟩
theorem x_vl_84 : x_vlP 84 (9, 41, 92, 0) := ⟨x_in3 (List.mem_of_getElem? (i := 227) rfl) rfl, x_in3 (List.mem_of_getElem? (i := 229) rfl) rfl, x_se2 (List.mem_of_getElem? (i := 3) rfl)⟩
theorem x_vl_85 : x_vlP 85 (9, 71, 103, 0) := ⟨x_in4 (List.mem_of_getElem? (i := 70) rfl) rfl, x_in4 (List.mem_of_getElem? (i := 72) rfl) rfl, x_se2 (List.mem_of_getElem? (i := 10) rfl)⟩
theorem x_vl_86 : x_vlP 86 (9, 63, 102, 0) := ⟨x_in4 (List.mem_of_getElem? (i := 66) rfl) rfl, x_in4 (List.mem_of_getElem? (i := 68) rfl) rfl, x_se2 (List.mem_of_getElem? (i := 9) rfl)⟩
theorem x_vl_87 : x_vlP 87 (9, 45, 93, 0) := ⟨x_in3 (List.mem_of_getElem? (i := 231) rfl) rfl, x_in3 (List.mem_of_getElem? (i := 233) rfl) rfl, x_se2 (List.mem_of_getElem? (i := 4) rfl)⟩
theorem x_vl_88 : x_vlP 88 (9, 49, 94, 0) := ⟨x_in3 (List.mem_of_getElem? (i := 235) rfl) rfl, x_in3 (List.mem_of_getElem? (i := 237) rfl) rfl, x_se2 (List.mem_of_getElem? (i := 5) rfl)⟩
theorem x_vl_89 : x_vlP 89 (9, 92, 106, 0) := ⟨x_in4 (List.mem_of_getElem? (i := 82) rfl) rfl, x_in4 (List.mem_of_getElem? (i := 84) rfl) rfl, x_se2 (List.mem_of_getElem? (i := 11) rfl)⟩
theorem x_vl_90 : x_vlP 90 (9, 95, 108, 0) := ⟨x_in4 (List.mem_of_getElem? (i := 90) rfl) rfl, x_in4 (List.mem_of_getElem? (i := 92) rfl) rfl, x_se2 (List.mem_of_getElem? (i := 12) rfl)⟩
theorem x_vl_91 : x_vlP 91 (9, 118, 110, 0) := ⟨x_in4 (List.mem_of_getElem? (i := 98) rfl) rfl, x_in4 (List.mem_of_getElem? (i := 100) rfl) rfl, x_se2 (List.mem_of_getElem? (i := 13) rfl)⟩
theorem x_vl_92 : x_vlP 92 (9, 121, 111, 0) := ⟨x_in4 (List.mem_of_getElem? (i := 102) rfl) rfl, x_in4 (List.mem_of_getElem? (i := 104) rfl) rfl, x_se2 (List.mem_of_getElem? (i := 14) rfl)⟩
theorem x_vl_93 : x_vlP 93 (9, 98, 112, 0) := ⟨x_in4 (List.mem_of_getElem? (i := 106) rfl) rfl, x_in4 (List.mem_of_getElem? (i := 108) rfl) rfl, x_se2 (List.mem_of_getElem? (i := 15) rfl)⟩
theorem x_vl_94 : x_vlP 94 (9, 124, 116, 0) := ⟨x_in4 (List.mem_of_getElem? (i := 120) rfl) rfl, x_in4 (List.mem_of_getElem? (i := 122) rfl) rfl, x_se3 (List.mem_of_getElem? (i := 1) rfl)⟩
theorem x_vl_95 : x_vlP 95 (9, 112, 113, 0) := ⟨x_in4 (List.mem_of_getElem? (i := 110) rfl) rfl, x_in4 (List.mem_of_getElem? (i := 112) rfl) rfl, x_se3 (List.mem_of_getElem? (i := 0) rfl)⟩
theorem x_vl_96 : x_vlP 96 (9, 115, 115, 1) := ⟨x_in4 (List.mem_of_getElem? (i := 117) rfl) rfl, x_in4 (List.mem_of_getElem? (i := 118) rfl) rfl⟩
theorem x_vl_97 : x_vlP 97 (9, 101, 114, 1) := ⟨x_in4 (List.mem_of_getElem? (i := 114) rfl) rfl, x_in4 (List.mem_of_getElem? (i := 115) rfl) rfl⟩
theorem x_vl_98 : x_vlP 98 (9, 108, 117, 0) := ⟨x_in4 (List.mem_of_getElem? (i := 124) rfl) rfl, x_in4 (List.mem_of_getElem? (i := 126) rfl) rfl, x_se3 (List.mem_of_getElem? (i := 2) rfl)⟩
theorem x_vl_99 : x_vlP 99 (9, 104, 118, 0) := ⟨x_in4 (List.mem_of_getElem? (i := 128) rfl) rfl, x_in4 (List.mem_of_getElem? (i := 130) rfl) rfl, x_se3 (List.mem_of_getElem? (i := 3) rfl)⟩
theorem x_vl_100 : x_vlP 100 (9, 127, 120, 0) := ⟨x_in4 (List.mem_of_getElem? (i := 136) rfl) rfl, x_in4 (List.mem_of_getElem? (i := 138) rfl) rfl, x_se3 (List.mem_of_getElem? (i := 4) rfl)⟩
theorem x_vl_101 : x_vlP 101 (9, 130, 131, 0) := ⟨x_in4 (List.mem_of_getElem? (i := 180) rfl) rfl, x_in4 (List.mem_of_getElem? (i := 182) rfl) rfl, x_se3 (List.mem_of_getElem? (i := 5) rfl)⟩
theorem x_vl_102 : x_vlP 102 (9, 133, 136, 0) := ⟨x_in4 (List.mem_of_getElem? (i := 200) rfl) rfl, x_in4 (List.mem_of_getElem? (i := 202) rfl) rfl, x_se3 (List.mem_of_getElem? (i := 6) rfl)⟩
theorem x_vl_103 : x_vlP 103 (10, 13, 15, 0) := ⟨x_in2 (List.mem_of_getElem? (i := 136) rfl) rfl, x_in2 (List.mem_of_getElem? (i := 137) rfl) rfl, x_in2 (List.mem_of_getElem? (i := 138) rfl) rfl⟩
theorem x_vl_104 : x_vlP 104 (10, 17, 95, 0) := ⟨x_in4 (List.mem_of_getElem? (i := 39) rfl) rfl, x_in4 (List.mem_of_getElem? (i := 40) rfl) rfl, x_in4 (List.mem_of_getElem? (i := 41) rfl) rfl⟩
theorem x_vl_105 : x_vlP 105 (10, 18, 16, 0) := ⟨x_in2 (List.mem_of_getElem? (i := 142) rfl) rfl, x_in2 (List.mem_of_getElem? (i := 143) rfl) rfl, x_in2 (List.mem_of_getElem? (i := 144) rfl) rfl⟩
theorem x_vl_106 : x_vlP 106 (10, 22, 97, 0) := ⟨x_in4 (List.mem_of_getElem? (i := 46) rfl) rfl, x_in4 (List.mem_of_getElem? (i := 47) rfl) rfl, x_in4 (List.mem_of_getElem? (i := 48) rfl) rfl⟩
theorem x_vl_107 : x_vlP 107 (10, 23, 17, 0) := ⟨x_in2 (List.mem_of_getElem? (i := 146) rfl) rfl, x_in2 (List.mem_of_getElem? (i := 147) rfl) rfl, x_in2 (List.mem_of_getElem? (i := 148) rfl) rfl⟩
theorem x_vl_108 : x_vlP 108 (10, 26, 98, 0) := ⟨x_in4 (List.mem_of_getElem? (i := 50) rfl) rfl, x_in4 (List.mem_of_getElem? (i := 51) rfl) rfl, x_in4 (List.mem_of_getElem? (i := 52) rfl) rfl⟩
theorem x_vl_109 : x_vlP 109 (10, 27, 18, 0) := ⟨x_in2 (List.mem_of_getElem? (i := 150) rfl) rfl, x_in2 (List.mem_of_getElem? (i := 151) rfl) rfl, x_in2 (List.mem_of_getElem? (i := 152) rfl) rfl⟩
theorem x_vl_110 : x_vlP 110 (10, 30, 104, 0) := ⟨x_in4 (List.mem_of_getElem? (i := 74) rfl) rfl, x_in4 (List.mem_of_getElem? (i := 75) rfl) rfl, x_in4 (List.mem_of_getElem? (i := 76) rfl) rfl⟩
theorem x_vl_111 : x_vlP 111 (10, 31, 22, 0) := ⟨x_in2 (List.mem_of_getElem? (i := 169) rfl) rfl, x_in2 (List.mem_of_getElem? (i := 170) rfl) rfl, x_in2 (List.mem_of_getElem? (i := 171) rfl) rfl⟩
theorem x_vl_112 : x_vlP 112 (10, 35, 105, 0) := ⟨x_in4 (List.mem_of_getElem? (i := 78) rfl) rfl, x_in4 (List.mem_of_getElem? (i := 79) rfl) rfl, x_in4 (List.mem_of_getElem? (i := 80) rfl) rfl⟩
theorem x_vl_113 : x_vlP 113 (10, 36, 23, 0) := ⟨x_in2 (List.mem_of_getElem? (i := 174) rfl) rfl, x_in2 (List.mem_of_getElem? (i := 175) rfl) rfl, x_in2 (List.mem_of_getElem? (i := 176) rfl) rfl⟩
theorem x_vl_114 : x_vlP 114 (10, 39, 107, 0) := ⟨x_in4 (List.mem_of_getElem? (i := 86) rfl) rfl, x_in4 (List.mem_of_getElem? (i := 87) rfl) rfl, x_in4 (List.mem_of_getElem? (i := 88) rfl) rfl⟩
theorem x_vl_115 : x_vlP 115 (10, 40, 26, 0) := ⟨x_in2 (List.mem_of_getElem? (i := 185) rfl) rfl, x_in2 (List.mem_of_getElem? (i := 186) rfl) rfl, x_in2 (List.mem_of_getElem? (i := 187) rfl) rfl⟩
theorem x_vl_116 : x_vlP 116 (10, 43, 109, 0) := ⟨x_in4 (List.mem_of_getElem? (i := 94) rfl) rfl, x_in4 (List.mem_of_getElem? (i := 95) rfl) rfl, x_in4 (List.mem_of_getElem? (i := 96) rfl) rfl⟩
theorem x_vl_117 : x_vlP 117 (10, 44, 35, 0) := ⟨x_in2 (List.mem_of_getElem? (i := 223) rfl) rfl, x_in2 (List.mem_of_getElem? (i := 224) rfl) rfl, x_in2 (List.mem_of_getElem? (i := 225) rfl) rfl⟩
theorem x_vl_118 : x_vlP 118 (10, 47, 119, 0) := ⟨x_in4 (List.mem_of_getElem? (i := 132) rfl) rfl, x_in4 (List.mem_of_getElem? (i := 133) rfl) rfl, x_in4 (List.mem_of_getElem? (i := 134) rfl) rfl⟩
theorem x_vl_119 : x_vlP 119 (10, 48, 39, 0) := ⟨x_in3 (List.mem_of_getElem? (i := 4) rfl) rfl, x_in3 (List.mem_of_getElem? (i := 5) rfl) rfl, x_in3 (List.mem_of_getElem? (i := 6) rfl) rfl⟩
theorem x_vl_120 : x_vlP 120 (10, 51, 121, 0) := ⟨x_in4 (List.mem_of_getElem? (i := 140) rfl) rfl, x_in4 (List.mem_of_getElem? (i := 141) rfl) rfl, x_in4 (List.mem_of_getElem? (i := 142) rfl) rfl⟩
theorem x_vl_121 : x_vlP 121 (10, 52, 41, 0) := ⟨x_in3 (List.mem_of_getElem? (i := 13) rfl) rfl, x_in3 (List.mem_of_getElem? (i := 14) rfl) rfl, x_in3 (List.mem_of_getElem? (i := 15) rfl) rfl⟩
theorem x_vl_122 : x_vlP 122 (10, 55, 122, 0) := ⟨x_in4 (List.mem_of_getElem? (i := 144) rfl) rfl, x_in4 (List.mem_of_getElem? (i := 145) rfl) rfl, x_in4 (List.mem_of_getElem? (i := 146) rfl) rfl⟩
theorem x_vl_123 : x_vlP 123 (10, 56, 42, 0) := ⟨x_in3 (List.mem_of_getElem? (i := 17) rfl) rfl, x_in3 (List.mem_of_getElem? (i := 18) rfl) rfl, x_in3 (List.mem_of_getElem? (i := 19) rfl) rfl⟩
theorem x_vl_124 : x_vlP 124 (10, 59, 123, 0) := ⟨x_in4 (List.mem_of_getElem? (i := 148) rfl) rfl, x_in4 (List.mem_of_getElem? (i := 149) rfl) rfl, x_in4 (List.mem_of_getElem? (i := 150) rfl) rfl⟩
theorem x_vl_125 : x_vlP 125 (10, 60, 44, 0) := ⟨x_in3 (List.mem_of_getElem? (i := 25) rfl) rfl, x_in3 (List.mem_of_getElem? (i := 26) rfl) rfl, x_in3 (List.mem_of_getElem? (i := 27) rfl) rfl⟩
theorem x_vl_126 : x_vlP 126 (10, 63, 124, 0) := ⟨x_in4 (List.mem_of_getElem? (i := 152) rfl) rfl, x_in4 (List.mem_of_getElem? (i := 153) rfl) rfl, x_in4 (List.mem_of_getElem? (i := 154) rfl) rfl⟩
theorem x_vl_127 : x_vlP 127 (10, 64, 45, 0) := ⟨x_in3 (List.mem_of_getElem? (i := 30) rfl) rfl, x_in3 (List.mem_of_getElem? (i := 31) rfl) rfl, x_in3 (List.mem_of_getElem? (i := 32) rfl) rfl⟩
theorem x_vl_128 : x_vlP 128 (10, 67, 125, 0) := ⟨x_in4 (List.mem_of_getElem? (i := 156) rfl) rfl, x_in4 (List.mem_of_getElem? (i := 157) rfl) rfl, x_in4 (List.mem_of_getElem? (i := 158) rfl) rfl⟩
theorem x_vl_129 : x_vlP 129 (10, 68, 47, 0) := ⟨x_in3 (List.mem_of_getElem? (i := 38) rfl) rfl, x_in3 (List.mem_of_getElem? (i := 39) rfl) rfl, x_in3 (List.mem_of_getElem? (i := 40) rfl) rfl⟩
theorem x_vl_130 : x_vlP 130 (10, 71, 126, 0) := ⟨x_in4 (List.mem_of_getElem? (i := 160) rfl) rfl, x_in4 (List.mem_of_getElem? (i := 161) rfl) rfl, x_in4 (List.mem_of_getElem? (i := 162) rfl) rfl⟩
theorem x_vl_131 : x_vlP 131 (10, 72, 48, 0) := ⟨x_in3 (List.mem_of_getElem? (i := 42) rfl) rfl, x_in3 (List.mem_of_getElem? (i := 43) rfl) rfl, x_in3 (List.mem_of_getElem? (i := 44) rfl) rfl⟩
theorem x_vl_132 : x_vlP 132 (10, 75, 127, 0) := ⟨x_in4 (List.mem_of_getElem? (i := 164) rfl) rfl, x_in4 (List.mem_of_getElem? (i := 165) rfl) rfl, x_in4 (List.mem_of_getElem? (i := 166) rfl) rfl⟩
theorem x_vl_133 : x_vlP 133 (10, 76, 55, 0) := ⟨x_in3 (List.mem_of_getElem? (i := 61) rfl) rfl, x_in3 (List.mem_of_getElem? (i := 62) rfl) rfl, x_in3 (List.mem_of_getElem? (i := 63) rfl) rfl⟩
theorem x_vl_134 : x_vlP 134 (10, 79, 128, 0) := ⟨x_in4 (List.mem_of_getElem? (i := 168) rfl) rfl, x_in4 (List.mem_of_getElem? (i := 169) rfl) rfl, x_in4 (List.mem_of_getElem? (i := 170) rfl) rfl⟩
theorem x_vl_135 : x_vlP 135 (10, 80, 56, 0) := ⟨x_in3 (List.mem_of_getElem? (i := 65) rfl) rfl, x_in3 (List.mem_of_getElem? (i := 66) rfl) rfl, x_in3 (List.mem_of_getElem? (i := 67) rfl) rfl⟩
theorem x_vl_136 : x_vlP 136 (10, 83, 129, 0) := ⟨x_in4 (List.mem_of_getElem? (i := 172) rfl) rfl, x_in4 (List.mem_of_getElem? (i := 173) rfl) rfl, x_in4 (List.mem_of_getElem? (i := 174) rfl) rfl⟩
theorem x_vl_137 : x_vlP 137 (10, 84, 64, 0) := ⟨x_in3 (List.mem_of_getElem? (i := 99) rfl) rfl, x_in3 (List.mem_of_getElem? (i := 100) rfl) rfl, x_in3 (List.mem_of_getElem? (i := 101) rfl) rfl⟩
theorem x_vl_138 : x_vlP 138 (10, 87, 130, 0) := ⟨x_in4 (List.mem_of_getElem? (i := 176) rfl) rfl, x_in4 (List.mem_of_getElem? (i := 177) rfl) rfl, x_in4 (List.mem_of_getElem? (i := 178) rfl) rfl⟩
theorem x_vl_139 : x_vlP 139 (10, 88, 69, 0) := ⟨x_in3 (List.mem_of_getElem? (i := 120) rfl) rfl, x_in3 (List.mem_of_getElem? (i := 121) rfl) rfl, x_in3 (List.mem_of_getElem? (i := 122) rfl) rfl⟩
theorem x_vl_140 : x_vlP 140 (10, 91, 132, 0) := ⟨x_in4 (List.mem_of_getElem? (i := 184) rfl) rfl, x_in4 (List.mem_of_getElem? (i := 185) rfl) rfl, x_in4 (List.mem_of_getElem? (i := 186) rfl) rfl⟩
theorem x_vl_141 : x_vlP 141 (10, 92, 72, 0) := ⟨x_in3 (List.mem_of_getElem? (i := 134) rfl) rfl, x_in3 (List.mem_of_getElem? (i := 135) rfl) rfl, x_in3 (List.mem_of_getElem? (i := 136) rfl) rfl⟩
theorem x_vl_142 : x_vlP 142 (10, 96, 133, 0) := ⟨x_in4 (List.mem_of_getElem? (i := 188) rfl) rfl, x_in4 (List.mem_of_getElem? (i := 189) rfl) rfl, x_in4 (List.mem_of_getElem? (i := 190) rfl) rfl⟩
theorem x_vl_143 : x_vlP 143 (10, 97, 74, 0) := ⟨x_in3 (List.mem_of_getElem? (i := 142) rfl) rfl, x_in3 (List.mem_of_getElem? (i := 143) rfl) rfl, x_in3 (List.mem_of_getElem? (i := 144) rfl) rfl⟩
theorem x_vl_144 : x_vlP 144 (10, 100, 134, 0) := ⟨x_in4 (List.mem_of_getElem? (i := 192) rfl) rfl, x_in4 (List.mem_of_getElem? (i := 193) rfl) rfl, x_in4 (List.mem_of_getElem? (i := 194) rfl) rfl⟩
theorem x_vl_145 : x_vlP 145 (10, 101, 75, 0) := ⟨x_in3 (List.mem_of_getElem? (i := 146) rfl) rfl, x_in3 (List.mem_of_getElem? (i := 147) rfl) rfl, x_in3 (List.mem_of_getElem? (i := 148) rfl) rfl⟩
theorem x_vl_146 : x_vlP 146 (10, 104, 135, 0) := ⟨x_in4 (List.mem_of_getElem? (i := 196) rfl) rfl, x_in4 (List.mem_of_getElem? (i := 197) rfl) rfl, x_in4 (List.mem_of_getElem? (i := 198) rfl) rfl⟩
theorem x_vl_147 : x_vlP 147 (10, 105, 77, 0) := ⟨x_in3 (List.mem_of_getElem? (i := 156) rfl) rfl, x_in3 (List.mem_of_getElem? (i := 157) rfl) rfl, x_in3 (List.mem_of_getElem? (i := 158) rfl) rfl⟩
theorem x_vl_148 : x_vlP 148 (10, 108, 137, 0) := ⟨x_in4 (List.mem_of_getElem? (i := 204) rfl) rfl, x_in4 (List.mem_of_getElem? (i := 205) rfl) rfl, x_in4 (List.mem_of_getElem? (i := 206) rfl) rfl⟩
theorem x_vl_149 : x_vlP 149 (10, 109, 78, 0) := ⟨x_in3 (List.mem_of_getElem? (i := 160) rfl) rfl, x_in3 (List.mem_of_getElem? (i := 161) rfl) rfl, x_in3 (List.mem_of_getElem? (i := 162) rfl) rfl⟩
theorem x_vl_150 : x_vlP 150 (10, 112, 138, 0) := ⟨x_in4 (List.mem_of_getElem? (i := 208) rfl) rfl, x_in4 (List.mem_of_getElem? (i := 209) rfl) rfl, x_in4 (List.mem_of_getElem? (i := 210) rfl) rfl⟩
theorem x_vl_151 : x_vlP 151 (10, 113, 80, 0) := ⟨x_in3 (List.mem_of_getElem? (i := 167) rfl) rfl, x_in3 (List.mem_of_getElem? (i := 168) rfl) rfl, x_in3 (List.mem_of_getElem? (i := 169) rfl) rfl⟩
theorem x_vl_152 : x_vlP 152 (10, 116, 139, 0) := ⟨x_in4 (List.mem_of_getElem? (i := 212) rfl) rfl, x_in4 (List.mem_of_getElem? (i := 213) rfl) rfl, x_in4 (List.mem_of_getElem? (i := 214) rfl) rfl⟩
theorem x_vl_153 : x_vlP 153 (10, 117, 82, 0) := ⟨x_in3 (List.mem_of_getElem? (i := 175) rfl) rfl, x_in3 (List.mem_of_getElem? (i := 176) rfl) rfl, x_in3 (List.mem_of_getElem? (i := 177) rfl) rfl⟩
theorem x_vl_154 : x_vlP 154 (10, 120, 140, 0) := ⟨x_in4 (List.mem_of_getElem? (i := 217) rfl) rfl, x_in4 (List.mem_of_getElem? (i := 218) rfl) rfl, x_in4 (List.mem_of_getElem? (i := 219) rfl) rfl⟩
theorem x_vl_155 : x_vlP 155 (10, 121, 83, 0) := ⟨x_in3 (List.mem_of_getElem? (i := 179) rfl) rfl, x_in3 (List.mem_of_getElem? (i := 180) rfl) rfl, x_in3 (List.mem_of_getElem? (i := 181) rfl) rfl⟩
theorem x_vl_156 : x_vlP 156 (10, 124, 141, 0) := ⟨x_in4 (List.mem_of_getElem? (i := 221) rfl) rfl, x_in4 (List.mem_of_getElem? (i := 222) rfl) rfl, x_in4 (List.mem_of_getElem? (i := 223) rfl) rfl⟩
theorem x_vl_157 : x_vlP 157 (10, 125, 85, 0) := ⟨x_in3 (List.mem_of_getElem? (i := 187) rfl) rfl, x_in3 (List.mem_of_getElem? (i := 188) rfl) rfl, x_in3 (List.mem_of_getElem? (i := 189) rfl) rfl⟩
theorem x_vl_158 : x_vlP 158 (10, 128, 142, 0) := ⟨x_in4 (List.mem_of_getElem? (i := 225) rfl) rfl, x_in4 (List.mem_of_getElem? (i := 226) rfl) rfl, x_in4 (List.mem_of_getElem? (i := 227) rfl) rfl⟩
theorem x_vl_159 : x_vlP 159 (10, 129, 87, 0) := ⟨x_in3 (List.mem_of_getElem? (i := 200) rfl) rfl, x_in3 (List.mem_of_getElem? (i := 201) rfl) rfl, x_in3 (List.mem_of_getElem? (i := 202) rfl) rfl⟩
theorem x_vl_160 : x_vlP 160 (10, 132, 143, 0) := ⟨x_in4 (List.mem_of_getElem? (i := 232) rfl) rfl, x_in4 (List.mem_of_getElem? (i := 233) rfl) rfl, x_in4 (List.mem_of_getElem? (i := 234) rfl) rfl⟩
theorem x_vl_161 : x_vlP 161 (10, 133, 88, 0) := ⟨x_in3 (List.mem_of_getElem? (i := 205) rfl) rfl, x_in3 (List.mem_of_getElem? (i := 206) rfl) rfl, x_in3 (List.mem_of_getElem? (i := 207) rfl) rfl⟩
theorem x_vl_162 : x_vlP 162 (10, 136, 144, 0) := ⟨x_in4 (List.mem_of_getElem? (i := 236) rfl) rfl, x_in4 (List.mem_of_getElem? (i := 237) rfl) rfl, x_in4 (List.mem_of_getElem? (i := 238) rfl) rfl⟩
theorem x_vl_163 : x_vlP 163 (10, 137, 89, 0) := ⟨x_in3 (List.mem_of_getElem? (i := 209) rfl) rfl, x_in3 (List.mem_of_getElem? (i := 210) rfl) rfl, x_in3 (List.mem_of_getElem? (i := 211) rfl) rfl⟩
theorem x_vl_164 : x_vlP 164 (10, 140, 145, 0) := ⟨x_in5 (List.mem_of_getElem? (i := 0) rfl) rfl, x_in5 (List.mem_of_getElem? (i := 1) rfl) rfl, x_in5 (List.mem_of_getElem? (i := 2) rfl) rfl⟩
theorem x_vl_ok : x_allP x_vlP 0 x_vl := ⟨x_vl_0, x_vl_1, x_vl_2, x_vl_3, x_vl_4, x_vl_5, x_vl_6, x_vl_7, x_vl_8, x_vl_9, x_vl_10, x_vl_11, x_vl_12, x_vl_13, x_vl_14, x_vl_15, x_vl_16, x_vl_17, x_vl_18, x_vl_19, x_vl_20, x_vl_21, x_vl_22, x_vl_23, x_vl_24, x_vl_25, x_vl_26, x_vl_27, x_vl_28, x_vl_29, x_vl_30, x_vl_31, x_vl_32, x_vl_33, x_vl_34, x_vl_35, x_vl_36, x_vl_37, x_vl_38, x_vl_39, x_vl_40, x_vl_41, x_vl_42, x_vl_43, x_vl_44, x_vl_45, x_vl_46, x_vl_47, x_vl_48, x_vl_49, x_vl_50, x_vl_51, x_vl_52, x_vl_53, x_vl_54, x_vl_55, x_vl_56, x_vl_57, x_vl_58, x_vl_59, x_vl_60, x_vl_61, x_vl_62, x_vl_63, x_vl_64, x_vl_65, x_vl_66, x_vl_67, x_vl_68, x_vl_69, x_vl_70, x_vl_71, x_vl_72, x_vl_73, x_vl_74, x_vl_75, x_vl_76, x_vl_77, x_vl_78, x_vl_79, x_vl_80, x_vl_81, x_vl_82, x_vl_83, x_vl_84, x_vl_85, x_vl_86, x_vl_87, x_vl_88, x_vl_89, x_vl_90, x_vl_91, x_vl_92, x_vl_93, x_vl_94, x_vl_95, x_vl_96, x_vl_97, x_vl_98, x_vl_99, x_vl_100, x_vl_101, x_vl_102, x_vl_103, x_vl_104, x_vl_105, x_vl_106, x_vl_107, x_vl_108, x_vl_109, x_vl_110, x_vl_111, x_vl_112, x_vl_113, x_vl_114, x_vl_115, x_vl_116, x_vl_117, x_vl_118, x_vl_119, x_vl_120, x_vl_121, x_vl_122, x_vl_123, x_vl_124, x_vl_125, x_vl_126, x_vl_127, x_vl_128, x_vl_129, x_vl_130, x_vl_131, x_vl_132, x_vl_133, x_vl_134, x_vl_135, x_vl_136, x_vl_137, x_vl_138, x_vl_139, x_vl_140, x_vl_141, x_vl_142, x_vl_143, x_vl_144, x_vl_145, x_vl_146, x_vl_147, x_vl_148, x_vl_149, x_vl_150, x_vl_151, x_vl_152, x_vl_153, x_vl_154, x_vl_155, x_vl_156, x_vl_157, x_vl_158, x_vl_159, x_vl_160, x_vl_161, x_vl_162, x_vl_163, x_vl_164, trivial⟩
def x_klP (_ : Nat) (q : Nat × Nat × Nat) : Prop := Cond.constant (x_R q.1) q.2.1 (Int32.ofNat q.2.2) ∈ xT
theorem x_kl_ok : x_allP x_klP 0 x_kl := ⟨x_in2 (List.mem_of_getElem? (i := 231) rfl) rfl, x_in3 (List.mem_of_getElem? (i := 117) rfl) rfl, x_in3 (List.mem_of_getElem? (i := 118) rfl) rfl, x_in3 (List.mem_of_getElem? (i := 119) rfl) rfl, trivial⟩
def x_k2P (_ : Nat) (q : Nat × Nat × Nat) : Prop := Cond.constantLong (x_R q.1) q.2.1 (Int64.ofNat q.2.2) ∈ xT
theorem x_k2_ok : x_allP x_k2P 0 x_k2 := ⟨x_in3 (List.mem_of_getElem? (i := 174) rfl) rfl, x_in3 (List.mem_of_getElem? (i := 195) rfl) rfl, x_in3 (List.mem_of_getElem? (i := 196) rfl) rfl, x_in3 (List.mem_of_getElem? (i := 197) rfl) rfl, x_in4 (List.mem_of_getElem? (i := 216) rfl) rfl, x_in4 (List.mem_of_getElem? (i := 229) rfl) rfl, x_in4 (List.mem_of_getElem? (i := 230) rfl) rfl, x_in4 (List.mem_of_getElem? (i := 231) rfl) rfl, trivial⟩
def x_alP (_ : Nat) (q : Nat × Nat) : Prop := Cond.methodLink (x_R q.1) q.2 arraycopyName ∈ xT
theorem x_al_ok : x_allP x_alP 0 x_al := ⟨x_in2 (List.mem_of_getElem? (i := 158) rfl) rfl, x_in2 (List.mem_of_getElem? (i := 238) rfl) rfl, trivial⟩
theorem x_ac_n : Cond.native arraycopyName ∈ xT := x_in2 (List.mem_of_getElem? (i := 160) rfl) rfl
theorem x_ac_s : Cond.static arraycopyName ∈ xT := x_in2 (List.mem_of_getElem? (i := 159) rfl) rfl
theorem x_ac_i : Cond.initialized "java/lang/System" ∈ xT := x_in1 (List.mem_of_getElem? (i := 16) rfl) rfl
def x_xlP (_ : Nat) (q : Nat × Nat × Nat) : Prop := (q.2.2 = 0 ∧ Cond.methodLink (x_R q.1) q.2.1 Lib.Math.max.name ∈ xT) ∨ (q.2.2 = 1 ∧ Cond.methodLink (x_R q.1) q.2.1 Lib.Math.min.name ∈ xT)
theorem x_xl_ok : x_allP x_xlP 0 x_xl := ⟨Or.inl ⟨rfl, x_in3 (List.mem_of_getElem? (i := 86) rfl) rfl⟩, Or.inr ⟨rfl, x_in3 (List.mem_of_getElem? (i := 128) rfl) rfl⟩, trivial⟩
theorem x_max_s : Cond.static Lib.Math.max.name ∈ xT := x_in1 (List.mem_of_getElem? (i := 99) rfl) rfl
theorem x_max_c : Cond.code Lib.Math.max.name Lib.Math.max.code 2 (some .int) ∈ xT := x_in1 (List.mem_of_getElem? (i := 100) rfl) rfl
theorem x_min_s : Cond.static Lib.Math.min.name ∈ xT := x_in3 (List.mem_of_getElem? (i := 129) rfl) rfl
theorem x_min_c : Cond.code Lib.Math.min.name Lib.Math.min.code 2 (some .int) ∈ xT := x_in3 (List.mem_of_getElem? (i := 130) rfl) rfl
theorem x_math_i : Cond.initialized "java/lang/Math" ∈ xT := x_in1 (List.mem_of_getElem? (i := 5) rfl) rfl
def x_meP (_ : Nat) (q : xE) : Prop := Cond.code q.1 q.2.1 q.2.2.1 q.2.2.2.1 ∈ xT ∧ Cond.initialized q.1.cls ∈ xT ∧ q.1.cls = x_R q.2.2.2.2.1 ∧ (plainName q.1.cls = true ∧ q.1.cls ≠ "java/lang/invoke/MethodHandle" ∧ q.1.cls ≠ "java/lang/invoke/VarHandle" ∧ (parseMethodDescriptor q.1.desc).map (fun d => d.parameters.length) = some q.2.2.2.2.2.2 ∧ q.2.2.1 ≤ 41)
theorem x_me_0 : x_meP 0 x_m0 := ⟨x_in1 (List.mem_of_getElem? (i := 239) rfl) rfl, x_in1 (List.mem_of_getElem? (i := 2) rfl) rfl, rfl, by decide +kernel⟩
theorem x_me_1 : x_meP 1 x_m1 := ⟨x_in2 (List.mem_of_getElem? (i := 51) rfl) rfl, x_in1 (List.mem_of_getElem? (i := 2) rfl) rfl, rfl, by decide +kernel⟩
theorem x_me_2 : x_meP 2 x_m2 := ⟨x_in2 (List.mem_of_getElem? (i := 55) rfl) rfl, x_in1 (List.mem_of_getElem? (i := 2) rfl) rfl, rfl, by decide +kernel⟩
theorem x_me_3 : x_meP 3 x_m3 := ⟨x_in2 (List.mem_of_getElem? (i := 59) rfl) rfl, x_in1 (List.mem_of_getElem? (i := 3) rfl) rfl, rfl, by decide +kernel⟩
theorem x_me_4 : x_meP 4 x_m4 := ⟨x_in2 (List.mem_of_getElem? (i := 63) rfl) rfl, x_in1 (List.mem_of_getElem? (i := 2) rfl) rfl, rfl, by decide +kernel⟩
theorem x_me_5 : x_meP 5 x_m5 := ⟨x_in2 (List.mem_of_getElem? (i := 67) rfl) rfl, x_in1 (List.mem_of_getElem? (i := 2) rfl) rfl, rfl, by decide +kernel⟩
theorem x_me_6 : x_meP 6 x_m6 := ⟨x_in2 (List.mem_of_getElem? (i := 71) rfl) rfl, x_in1 (List.mem_of_getElem? (i := 2) rfl) rfl, rfl, by decide +kernel⟩
theorem x_me_7 : x_meP 7 x_m7 := ⟨x_in2 (List.mem_of_getElem? (i := 75) rfl) rfl, x_in1 (List.mem_of_getElem? (i := 2) rfl) rfl, rfl, by decide +kernel⟩
theorem x_me_8 : x_meP 8 x_m8 := ⟨x_in2 (List.mem_of_getElem? (i := 79) rfl) rfl, x_in1 (List.mem_of_getElem? (i := 3) rfl) rfl, rfl, by decide +kernel⟩
theorem x_me_9 : x_meP 9 x_m9 := ⟨x_in2 (List.mem_of_getElem? (i := 83) rfl) rfl, x_in1 (List.mem_of_getElem? (i := 2) rfl) rfl, rfl, by decide +kernel⟩
theorem x_me_10 : x_meP 10 x_m10 := ⟨x_in2 (List.mem_of_getElem? (i := 86) rfl) rfl, x_in1 (List.mem_of_getElem? (i := 1) rfl) rfl, rfl, by decide +kernel⟩
theorem x_me_11 : x_meP 11 x_m11 := ⟨x_in2 (List.mem_of_getElem? (i := 90) rfl) rfl, x_in1 (List.mem_of_getElem? (i := 3) rfl) rfl, rfl, by decide +kernel⟩
theorem x_me_12 : x_meP 12 x_m12 := ⟨x_in2 (List.mem_of_getElem? (i := 94) rfl) rfl, x_in1 (List.mem_of_getElem? (i := 2) rfl) rfl, rfl, by decide +kernel⟩
theorem x_me_13 : x_meP 13 x_m13 := ⟨x_in2 (List.mem_of_getElem? (i := 98) rfl) rfl, x_in1 (List.mem_of_getElem? (i := 3) rfl) rfl, rfl, by decide +kernel⟩
theorem x_me_14 : x_meP 14 x_m14 := ⟨x_in2 (List.mem_of_getElem? (i := 102) rfl) rfl, x_in1 (List.mem_of_getElem? (i := 3) rfl) rfl, rfl, by decide +kernel⟩
theorem x_me_15 : x_meP 15 x_m15 := ⟨x_in2 (List.mem_of_getElem? (i := 139) rfl) rfl, x_in1 (List.mem_of_getElem? (i := 1) rfl) rfl, rfl, by decide +kernel⟩
theorem x_me_16 : x_meP 16 x_m16 := ⟨x_in2 (List.mem_of_getElem? (i := 145) rfl) rfl, x_in1 (List.mem_of_getElem? (i := 1) rfl) rfl, rfl, by decide +kernel⟩
theorem x_me_17 : x_meP 17 x_m17 := ⟨x_in2 (List.mem_of_getElem? (i := 149) rfl) rfl, x_in1 (List.mem_of_getElem? (i := 1) rfl) rfl, rfl, by decide +kernel⟩
theorem x_me_18 : x_meP 18 x_m18 := ⟨x_in2 (List.mem_of_getElem? (i := 153) rfl) rfl, x_in1 (List.mem_of_getElem? (i := 1) rfl) rfl, rfl, by decide +kernel⟩
theorem x_me_19 : x_meP 19 x_m19 := ⟨x_in2 (List.mem_of_getElem? (i := 157) rfl) rfl, x_in1 (List.mem_of_getElem? (i := 3) rfl) rfl, rfl, by decide +kernel⟩
theorem x_me_20 : x_meP 20 x_m20 := ⟨x_in2 (List.mem_of_getElem? (i := 164) rfl) rfl, x_in1 (List.mem_of_getElem? (i := 4) rfl) rfl, rfl, by decide +kernel⟩
theorem x_me_21 : x_meP 21 x_m21 := ⟨x_in2 (List.mem_of_getElem? (i := 168) rfl) rfl, x_in1 (List.mem_of_getElem? (i := 6) rfl) rfl, rfl, by decide +kernel⟩
theorem x_me_22 : x_meP 22 x_m22 := ⟨x_in2 (List.mem_of_getElem? (i := 172) rfl) rfl, x_in1 (List.mem_of_getElem? (i := 1) rfl) rfl, rfl, by decide +kernel⟩
theorem x_me_23 : x_meP 23 x_m23 := ⟨x_in2 (List.mem_of_getElem? (i := 177) rfl) rfl, x_in1 (List.mem_of_getElem? (i := 1) rfl) rfl, rfl, by decide +kernel⟩
theorem x_me_24 : x_meP 24 x_m24 := ⟨x_in2 (List.mem_of_getElem? (i := 181) rfl) rfl, x_in1 (List.mem_of_getElem? (i := 3) rfl) rfl, rfl, by decide +kernel⟩
theorem x_me_25 : x_meP 25 x_m25 := ⟨x_in2 (List.mem_of_getElem? (i := 184) rfl) rfl, x_in1 (List.mem_of_getElem? (i := 1) rfl) rfl, rfl, by decide +kernel⟩
theorem x_me_26 : x_meP 26 x_m26 := ⟨x_in2 (List.mem_of_getElem? (i := 188) rfl) rfl, x_in1 (List.mem_of_getElem? (i := 1) rfl) rfl, rfl, by decide +kernel⟩
theorem x_me_27 : x_meP 27 x_m27 := ⟨x_in2 (List.mem_of_getElem? (i := 192) rfl) rfl, x_in1 (List.mem_of_getElem? (i := 3) rfl) rfl, rfl, by decide +kernel⟩
theorem x_me_28 : x_meP 28 x_m28 := ⟨x_in2 (List.mem_of_getElem? (i := 196) rfl) rfl, x_in1 (List.mem_of_getElem? (i := 7) rfl) rfl, rfl, by decide +kernel⟩
theorem x_me_29 : x_meP 29 x_m29 := ⟨x_in2 (List.mem_of_getElem? (i := 200) rfl) rfl, x_in1 (List.mem_of_getElem? (i := 7) rfl) rfl, rfl, by decide +kernel⟩
theorem x_me_30 : x_meP 30 x_m30 := ⟨x_in2 (List.mem_of_getElem? (i := 204) rfl) rfl, x_in1 (List.mem_of_getElem? (i := 7) rfl) rfl, rfl, by decide +kernel⟩
theorem x_me_31 : x_meP 31 x_m31 := ⟨x_in2 (List.mem_of_getElem? (i := 208) rfl) rfl, x_in1 (List.mem_of_getElem? (i := 7) rfl) rfl, rfl, by decide +kernel⟩
theorem x_me_32 : x_meP 32 x_m32 := ⟨x_in2 (List.mem_of_getElem? (i := 213) rfl) rfl, x_in1 (List.mem_of_getElem? (i := 3) rfl) rfl, rfl, by decide +kernel⟩
theorem x_me_33 : x_meP 33 x_m33 := ⟨x_in2 (List.mem_of_getElem? (i := 217) rfl) rfl, x_in1 (List.mem_of_getElem? (i := 3) rfl) rfl, rfl, by decide +kernel⟩
theorem x_me_34 : x_meP 34 x_m34 := ⟨x_in2 (List.mem_of_getElem? (i := 222) rfl) rfl, x_in1 (List.mem_of_getElem? (i := 7) rfl) rfl, rfl, by decide +kernel⟩
theorem x_me_35 : x_meP 35 x_m35 := ⟨x_in2 (List.mem_of_getElem? (i := 226) rfl) rfl, x_in1 (List.mem_of_getElem? (i := 1) rfl) rfl, rfl, by decide +kernel⟩
theorem x_me_36 : x_meP 36 x_m36 := ⟨x_in2 (List.mem_of_getElem? (i := 230) rfl) rfl, x_in1 (List.mem_of_getElem? (i := 3) rfl) rfl, rfl, by decide +kernel⟩
theorem x_me_37 : x_meP 37 x_m37 := ⟨x_in2 (List.mem_of_getElem? (i := 237) rfl) rfl, x_in1 (List.mem_of_getElem? (i := 4) rfl) rfl, rfl, by decide +kernel⟩
theorem x_me_38 : x_meP 38 x_m38 := ⟨x_in3 (List.mem_of_getElem? (i := 2) rfl) rfl, x_in1 (List.mem_of_getElem? (i := 4) rfl) rfl, rfl, by decide +kernel⟩
theorem x_me_39 : x_meP 39 x_m39 := ⟨x_in3 (List.mem_of_getElem? (i := 7) rfl) rfl, x_in1 (List.mem_of_getElem? (i := 1) rfl) rfl, rfl, by decide +kernel⟩
theorem x_me_40 : x_meP 40 x_m40 := ⟨x_in3 (List.mem_of_getElem? (i := 11) rfl) rfl, x_in1 (List.mem_of_getElem? (i := 3) rfl) rfl, rfl, by decide +kernel⟩
theorem x_me_41 : x_meP 41 x_m41 := ⟨x_in3 (List.mem_of_getElem? (i := 16) rfl) rfl, x_in1 (List.mem_of_getElem? (i := 1) rfl) rfl, rfl, by decide +kernel⟩
theorem x_me_42 : x_meP 42 x_m42 := ⟨x_in3 (List.mem_of_getElem? (i := 20) rfl) rfl, x_in1 (List.mem_of_getElem? (i := 1) rfl) rfl, rfl, by decide +kernel⟩
theorem x_me_43 : x_meP 43 x_m43 := ⟨x_in3 (List.mem_of_getElem? (i := 24) rfl) rfl, x_in1 (List.mem_of_getElem? (i := 4) rfl) rfl, rfl, by decide +kernel⟩
theorem x_me_44 : x_meP 44 x_m44 := ⟨x_in3 (List.mem_of_getElem? (i := 28) rfl) rfl, x_in1 (List.mem_of_getElem? (i := 1) rfl) rfl, rfl, by decide +kernel⟩
theorem x_me_45 : x_meP 45 x_m45 := ⟨x_in3 (List.mem_of_getElem? (i := 33) rfl) rfl, x_in1 (List.mem_of_getElem? (i := 1) rfl) rfl, rfl, by decide +kernel⟩
theorem x_me_46 : x_meP 46 x_m46 := ⟨x_in3 (List.mem_of_getElem? (i := 37) rfl) rfl, x_in1 (List.mem_of_getElem? (i := 1) rfl) rfl, rfl, by decide +kernel⟩
theorem x_me_47 : x_meP 47 x_m47 := ⟨x_in3 (List.mem_of_getElem? (i := 41) rfl) rfl, x_in1 (List.mem_of_getElem? (i := 1) rfl) rfl, rfl, by decide +kernel⟩
theorem x_me_48 : x_meP 48 x_m48 := ⟨x_in3 (List.mem_of_getElem? (i := 45) rfl) rfl, x_in1 (List.mem_of_getElem? (i := 1) rfl) rfl, rfl, by decide +kernel⟩
theorem x_me_49 : x_meP 49 x_m49 := ⟨x_in3 (List.mem_of_getElem? (i := 49) rfl) rfl, x_in1 (List.mem_of_getElem? (i := 8) rfl) rfl, rfl, by decide +kernel⟩
theorem x_me_50 : x_meP 50 x_m50 := ⟨x_in3 (List.mem_of_getElem? (i := 53) rfl) rfl, x_in1 (List.mem_of_getElem? (i := 8) rfl) rfl, rfl, by decide +kernel⟩
theorem x_me_51 : x_meP 51 x_m51 := ⟨x_in3 (List.mem_of_getElem? (i := 53) rfl) rfl, x_in1 (List.mem_of_getElem? (i := 8) rfl) rfl, rfl, by decide +kernel⟩
theorem x_me_52 : x_meP 52 x_m52 := ⟨x_in3 (List.mem_of_getElem? (i := 53) rfl) rfl, x_in1 (List.mem_of_getElem? (i := 8) rfl) rfl, rfl, by decide +kernel⟩
theorem x_me_53 : x_meP 53 x_m53 := ⟨x_in3 (List.mem_of_getElem? (i := 53) rfl) rfl, x_in1 (List.mem_of_getElem? (i := 8) rfl) rfl, rfl, by decide +kernel⟩
theorem x_me_54 : x_meP 54 x_m54 := ⟨x_in3 (List.mem_of_getElem? (i := 58) rfl) rfl, x_in1 (List.mem_of_getElem? (i := 8) rfl) rfl, rfl, by decide +kernel⟩
theorem x_me_55 : x_meP 55 x_m55 := ⟨x_in3 (List.mem_of_getElem? (i := 64) rfl) rfl, x_in1 (List.mem_of_getElem? (i := 1) rfl) rfl, rfl, by decide +kernel⟩
theorem x_me_56 : x_meP 56 x_m56 := ⟨x_in3 (List.mem_of_getElem? (i := 68) rfl) rfl, x_in1 (List.mem_of_getElem? (i := 1) rfl) rfl, rfl, by decide +kernel⟩
theorem x_me_57 : x_meP 57 x_m57 := ⟨x_in3 (List.mem_of_getElem? (i := 72) rfl) rfl, x_in1 (List.mem_of_getElem? (i := 9) rfl) rfl, rfl, by decide +kernel⟩
theorem x_me_58 : x_meP 58 x_m58 := ⟨x_in3 (List.mem_of_getElem? (i := 77) rfl) rfl, x_in1 (List.mem_of_getElem? (i := 9) rfl) rfl, rfl, by decide +kernel⟩
theorem x_me_59 : x_meP 59 x_m59 := ⟨x_in3 (List.mem_of_getElem? (i := 81) rfl) rfl, x_in1 (List.mem_of_getElem? (i := 9) rfl) rfl, rfl, by decide +kernel⟩
theorem x_me_60 : x_meP 60 x_m60 := ⟨x_in3 (List.mem_of_getElem? (i := 85) rfl) rfl, x_in1 (List.mem_of_getElem? (i := 9) rfl) rfl, rfl, by decide +kernel⟩
theorem x_me_61 : x_meP 61 x_m61 := ⟨x_in3 (List.mem_of_getElem? (i := 90) rfl) rfl, x_in1 (List.mem_of_getElem? (i := 9) rfl) rfl, rfl, by decide +kernel⟩
theorem x_me_62 : x_meP 62 x_m62 := ⟨x_in3 (List.mem_of_getElem? (i := 94) rfl) rfl, x_in1 (List.mem_of_getElem? (i := 9) rfl) rfl, rfl, by decide +kernel⟩
theorem x_me_63 : x_meP 63 x_m63 := ⟨x_in3 (List.mem_of_getElem? (i := 98) rfl) rfl, x_in1 (List.mem_of_getElem? (i := 9) rfl) rfl, rfl, by decide +kernel⟩
theorem x_me_64 : x_meP 64 x_m64 := ⟨x_in3 (List.mem_of_getElem? (i := 102) rfl) rfl, x_in1 (List.mem_of_getElem? (i := 1) rfl) rfl, rfl, by decide +kernel⟩
theorem x_me_65 : x_meP 65 x_m65 := ⟨x_in3 (List.mem_of_getElem? (i := 106) rfl) rfl, x_in1 (List.mem_of_getElem? (i := 1) rfl) rfl, rfl, by decide +kernel⟩
theorem x_me_66 : x_meP 66 x_m66 := ⟨x_in3 (List.mem_of_getElem? (i := 110) rfl) rfl, x_in1 (List.mem_of_getElem? (i := 1) rfl) rfl, rfl, by decide +kernel⟩
theorem x_me_67 : x_meP 67 x_m67 := ⟨x_in3 (List.mem_of_getElem? (i := 113) rfl) rfl, x_in1 (List.mem_of_getElem? (i := 1) rfl) rfl, rfl, by decide +kernel⟩
theorem x_me_68 : x_meP 68 x_m68 := ⟨x_in3 (List.mem_of_getElem? (i := 116) rfl) rfl, x_in1 (List.mem_of_getElem? (i := 17) rfl) rfl, rfl, by decide +kernel⟩
theorem x_me_69 : x_meP 69 x_m69 := ⟨x_in3 (List.mem_of_getElem? (i := 123) rfl) rfl, x_in1 (List.mem_of_getElem? (i := 1) rfl) rfl, rfl, by decide +kernel⟩
theorem x_me_70 : x_meP 70 x_m70 := ⟨x_in3 (List.mem_of_getElem? (i := 127) rfl) rfl, x_in1 (List.mem_of_getElem? (i := 10) rfl) rfl, rfl, by decide +kernel⟩
theorem x_me_71 : x_meP 71 x_m71 := ⟨x_in3 (List.mem_of_getElem? (i := 133) rfl) rfl, x_in1 (List.mem_of_getElem? (i := 10) rfl) rfl, rfl, by decide +kernel⟩
theorem x_me_72 : x_meP 72 x_m72 := ⟨x_in3 (List.mem_of_getElem? (i := 137) rfl) rfl, x_in1 (List.mem_of_getElem? (i := 1) rfl) rfl, rfl, by decide +kernel⟩
theorem x_me_73 : x_meP 73 x_m73 := ⟨x_in3 (List.mem_of_getElem? (i := 141) rfl) rfl, x_in1 (List.mem_of_getElem? (i := 6) rfl) rfl, rfl, by decide +kernel⟩
theorem x_me_74 : x_meP 74 x_m74 := ⟨x_in3 (List.mem_of_getElem? (i := 145) rfl) rfl, x_in1 (List.mem_of_getElem? (i := 1) rfl) rfl, rfl, by decide +kernel⟩
theorem x_me_75 : x_meP 75 x_m75 := ⟨x_in3 (List.mem_of_getElem? (i := 149) rfl) rfl, x_in1 (List.mem_of_getElem? (i := 1) rfl) rfl, rfl, by decide +kernel⟩
theorem x_me_76 : x_meP 76 x_m76 := ⟨x_in3 (List.mem_of_getElem? (i := 153) rfl) rfl, x_in1 (List.mem_of_getElem? (i := 6) rfl) rfl, rfl, by decide +kernel⟩
theorem x_me_77 : x_meP 77 x_m77 := ⟨x_in3 (List.mem_of_getElem? (i := 159) rfl) rfl, x_in1 (List.mem_of_getElem? (i := 1) rfl) rfl, rfl, by decide +kernel⟩
theorem x_me_78 : x_meP 78 x_m78 := ⟨x_in3 (List.mem_of_getElem? (i := 163) rfl) rfl, x_in1 (List.mem_of_getElem? (i := 1) rfl) rfl, rfl, by decide +kernel⟩
theorem x_me_79 : x_meP 79 x_m79 := ⟨x_in3 (List.mem_of_getElem? (i := 166) rfl) rfl, x_in1 (List.mem_of_getElem? (i := 1) rfl) rfl, rfl, by decide +kernel⟩
theorem x_me_80 : x_meP 80 x_m80 := ⟨x_in3 (List.mem_of_getElem? (i := 170) rfl) rfl, x_in1 (List.mem_of_getElem? (i := 1) rfl) rfl, rfl, by decide +kernel⟩
theorem x_me_81 : x_meP 81 x_m81 := ⟨x_in3 (List.mem_of_getElem? (i := 173) rfl) rfl, x_in1 (List.mem_of_getElem? (i := 1) rfl) rfl, rfl, by decide +kernel⟩
theorem x_me_82 : x_meP 82 x_m82 := ⟨x_in3 (List.mem_of_getElem? (i := 178) rfl) rfl, x_in1 (List.mem_of_getElem? (i := 1) rfl) rfl, rfl, by decide +kernel⟩
theorem x_me_83 : x_meP 83 x_m83 := ⟨x_in3 (List.mem_of_getElem? (i := 182) rfl) rfl, x_in1 (List.mem_of_getElem? (i := 1) rfl) rfl, rfl, by decide +kernel⟩
theorem x_me_84 : x_meP 84 x_m84 := ⟨x_in3 (List.mem_of_getElem? (i := 186) rfl) rfl, x_in1 (List.mem_of_getElem? (i := 1) rfl) rfl, rfl, by decide +kernel⟩
theorem x_me_85 : x_meP 85 x_m85 := ⟨x_in3 (List.mem_of_getElem? (i := 190) rfl) rfl, x_in1 (List.mem_of_getElem? (i := 1) rfl) rfl, rfl, by decide +kernel⟩
theorem x_me_86 : x_meP 86 x_m86 := ⟨x_in3 (List.mem_of_getElem? (i := 194) rfl) rfl, x_in1 (List.mem_of_getElem? (i := 1) rfl) rfl, rfl, by decide +kernel⟩
theorem x_me_87 : x_meP 87 x_m87 := ⟨x_in3 (List.mem_of_getElem? (i := 203) rfl) rfl, x_in1 (List.mem_of_getElem? (i := 1) rfl) rfl, rfl, by decide +kernel⟩
theorem x_me_88 : x_meP 88 x_m88 := ⟨x_in3 (List.mem_of_getElem? (i := 208) rfl) rfl, x_in1 (List.mem_of_getElem? (i := 1) rfl) rfl, rfl, by decide +kernel⟩
theorem x_me_89 : x_meP 89 x_m89 := ⟨x_in3 (List.mem_of_getElem? (i := 212) rfl) rfl, x_in1 (List.mem_of_getElem? (i := 1) rfl) rfl, rfl, by decide +kernel⟩
theorem x_me_90 : x_meP 90 x_m90 := ⟨x_in3 (List.mem_of_getElem? (i := 222) rfl) rfl, x_in1 (List.mem_of_getElem? (i := 15) rfl) rfl, rfl, by decide +kernel⟩
theorem x_me_91 : x_meP 91 x_m91 := ⟨x_in3 (List.mem_of_getElem? (i := 226) rfl) rfl, x_in1 (List.mem_of_getElem? (i := 15) rfl) rfl, rfl, by decide +kernel⟩
theorem x_me_92 : x_meP 92 x_m92 := ⟨x_in3 (List.mem_of_getElem? (i := 230) rfl) rfl, x_in1 (List.mem_of_getElem? (i := 15) rfl) rfl, rfl, by decide +kernel⟩
theorem x_me_93 : x_meP 93 x_m93 := ⟨x_in3 (List.mem_of_getElem? (i := 234) rfl) rfl, x_in1 (List.mem_of_getElem? (i := 15) rfl) rfl, rfl, by decide +kernel⟩
theorem x_me_94 : x_meP 94 x_m94 := ⟨x_in3 (List.mem_of_getElem? (i := 238) rfl) rfl, x_in1 (List.mem_of_getElem? (i := 15) rfl) rfl, rfl, by decide +kernel⟩
theorem x_me_95 : x_meP 95 x_m95 := ⟨x_in4 (List.mem_of_getElem? (i := 42) rfl) rfl, x_in1 (List.mem_of_getElem? (i := 15) rfl) rfl, rfl, by decide +kernel⟩
theorem x_me_96 : x_meP 96 x_m96 := ⟨x_in4 (List.mem_of_getElem? (i := 45) rfl) rfl, x_in1 (List.mem_of_getElem? (i := 15) rfl) rfl, rfl, by decide +kernel⟩
theorem x_me_97 : x_meP 97 x_m97 := ⟨x_in4 (List.mem_of_getElem? (i := 49) rfl) rfl, x_in1 (List.mem_of_getElem? (i := 15) rfl) rfl, rfl, by decide +kernel⟩
theorem x_me_98 : x_meP 98 x_m98 := ⟨x_in4 (List.mem_of_getElem? (i := 53) rfl) rfl, x_in1 (List.mem_of_getElem? (i := 15) rfl) rfl, rfl, by decide +kernel⟩
theorem x_me_99 : x_meP 99 x_m99 := ⟨x_in4 (List.mem_of_getElem? (i := 57) rfl) rfl, x_in1 (List.mem_of_getElem? (i := 15) rfl) rfl, rfl, by decide +kernel⟩
theorem x_me_100 : x_meP 100 x_m100 := ⟨x_in4 (List.mem_of_getElem? (i := 61) rfl) rfl, x_in1 (List.mem_of_getElem? (i := 15) rfl) rfl, rfl, by decide +kernel⟩
theorem x_me_101 : x_meP 101 x_m101 := ⟨x_in4 (List.mem_of_getElem? (i := 65) rfl) rfl, x_in1 (List.mem_of_getElem? (i := 15) rfl) rfl, rfl, by decide +kernel⟩
theorem x_me_102 : x_meP 102 x_m102 := ⟨x_in4 (List.mem_of_getElem? (i := 69) rfl) rfl, x_in1 (List.mem_of_getElem? (i := 15) rfl) rfl, rfl, by decide +kernel⟩
theorem x_me_103 : x_meP 103 x_m103 := ⟨x_in4 (List.mem_of_getElem? (i := 73) rfl) rfl, x_in1 (List.mem_of_getElem? (i := 15) rfl) rfl, rfl, by decide +kernel⟩
theorem x_me_104 : x_meP 104 x_m104 := ⟨x_in4 (List.mem_of_getElem? (i := 77) rfl) rfl, x_in1 (List.mem_of_getElem? (i := 15) rfl) rfl, rfl, by decide +kernel⟩
theorem x_me_105 : x_meP 105 x_m105 := ⟨x_in4 (List.mem_of_getElem? (i := 81) rfl) rfl, x_in1 (List.mem_of_getElem? (i := 15) rfl) rfl, rfl, by decide +kernel⟩
theorem x_me_106 : x_meP 106 x_m106 := ⟨x_in4 (List.mem_of_getElem? (i := 85) rfl) rfl, x_in1 (List.mem_of_getElem? (i := 15) rfl) rfl, rfl, by decide +kernel⟩
theorem x_me_107 : x_meP 107 x_m107 := ⟨x_in4 (List.mem_of_getElem? (i := 89) rfl) rfl, x_in1 (List.mem_of_getElem? (i := 15) rfl) rfl, rfl, by decide +kernel⟩
theorem x_me_108 : x_meP 108 x_m108 := ⟨x_in4 (List.mem_of_getElem? (i := 93) rfl) rfl, x_in1 (List.mem_of_getElem? (i := 15) rfl) rfl, rfl, by decide +kernel⟩
theorem x_me_109 : x_meP 109 x_m109 := ⟨x_in4 (List.mem_of_getElem? (i := 97) rfl) rfl, x_in1 (List.mem_of_getElem? (i := 15) rfl) rfl, rfl, by decide +kernel⟩
theorem x_me_110 : x_meP 110 x_m110 := ⟨x_in4 (List.mem_of_getElem? (i := 101) rfl) rfl, x_in1 (List.mem_of_getElem? (i := 15) rfl) rfl, rfl, by decide +kernel⟩
theorem x_me_111 : x_meP 111 x_m111 := ⟨x_in4 (List.mem_of_getElem? (i := 105) rfl) rfl, x_in1 (List.mem_of_getElem? (i := 15) rfl) rfl, rfl, by decide +kernel⟩
theorem x_me_112 : x_meP 112 x_m112 := ⟨x_in4 (List.mem_of_getElem? (i := 109) rfl) rfl, x_in1 (List.mem_of_getElem? (i := 15) rfl) rfl, rfl, by decide +kernel⟩
theorem x_me_113 : x_meP 113 x_m113 := ⟨x_in4 (List.mem_of_getElem? (i := 113) rfl) rfl, x_in1 (List.mem_of_getElem? (i := 15) rfl) rfl, rfl, by decide +kernel⟩
theorem x_me_114 : x_meP 114 x_m114 := ⟨x_in4 (List.mem_of_getElem? (i := 116) rfl) rfl, x_in1 (List.mem_of_getElem? (i := 15) rfl) rfl, rfl, by decide +kernel⟩
theorem x_me_115 : x_meP 115 x_m115 := ⟨x_in4 (List.mem_of_getElem? (i := 119) rfl) rfl, x_in1 (List.mem_of_getElem? (i := 15) rfl) rfl, rfl, by decide +kernel⟩
theorem x_me_116 : x_meP 116 x_m116 := ⟨x_in4 (List.mem_of_getElem? (i := 123) rfl) rfl, x_in1 (List.mem_of_getElem? (i := 15) rfl) rfl, rfl, by decide +kernel⟩
theorem x_me_117 : x_meP 117 x_m117 := ⟨x_in4 (List.mem_of_getElem? (i := 127) rfl) rfl, x_in1 (List.mem_of_getElem? (i := 15) rfl) rfl, rfl, by decide +kernel⟩
theorem x_me_118 : x_meP 118 x_m118 := ⟨x_in4 (List.mem_of_getElem? (i := 131) rfl) rfl, x_in1 (List.mem_of_getElem? (i := 15) rfl) rfl, rfl, by decide +kernel⟩
theorem x_me_119 : x_meP 119 x_m119 := ⟨x_in4 (List.mem_of_getElem? (i := 135) rfl) rfl, x_in1 (List.mem_of_getElem? (i := 15) rfl) rfl, rfl, by decide +kernel⟩
theorem x_me_120 : x_meP 120 x_m120 := ⟨x_in4 (List.mem_of_getElem? (i := 139) rfl) rfl, x_in1 (List.mem_of_getElem? (i := 15) rfl) rfl, rfl, by decide +kernel⟩
theorem x_me_121 : x_meP 121 x_m121 := ⟨x_in4 (List.mem_of_getElem? (i := 143) rfl) rfl, x_in1 (List.mem_of_getElem? (i := 15) rfl) rfl, rfl, by decide +kernel⟩
theorem x_me_122 : x_meP 122 x_m122 := ⟨x_in4 (List.mem_of_getElem? (i := 147) rfl) rfl, x_in1 (List.mem_of_getElem? (i := 15) rfl) rfl, rfl, by decide +kernel⟩
theorem x_me_123 : x_meP 123 x_m123 := ⟨x_in4 (List.mem_of_getElem? (i := 151) rfl) rfl, x_in1 (List.mem_of_getElem? (i := 15) rfl) rfl, rfl, by decide +kernel⟩
theorem x_me_124 : x_meP 124 x_m124 := ⟨x_in4 (List.mem_of_getElem? (i := 155) rfl) rfl, x_in1 (List.mem_of_getElem? (i := 15) rfl) rfl, rfl, by decide +kernel⟩
theorem x_me_125 : x_meP 125 x_m125 := ⟨x_in4 (List.mem_of_getElem? (i := 159) rfl) rfl, x_in1 (List.mem_of_getElem? (i := 15) rfl) rfl, rfl, by decide +kernel⟩
theorem x_me_126 : x_meP 126 x_m126 := ⟨x_in4 (List.mem_of_getElem? (i := 163) rfl) rfl, x_in1 (List.mem_of_getElem? (i := 15) rfl) rfl, rfl, by decide +kernel⟩
theorem x_me_127 : x_meP 127 x_m127 := ⟨x_in4 (List.mem_of_getElem? (i := 167) rfl) rfl, x_in1 (List.mem_of_getElem? (i := 15) rfl) rfl, rfl, by decide +kernel⟩
theorem x_me_128 : x_meP 128 x_m128 := ⟨x_in4 (List.mem_of_getElem? (i := 171) rfl) rfl, x_in1 (List.mem_of_getElem? (i := 15) rfl) rfl, rfl, by decide +kernel⟩
theorem x_me_129 : x_meP 129 x_m129 := ⟨x_in4 (List.mem_of_getElem? (i := 175) rfl) rfl, x_in1 (List.mem_of_getElem? (i := 15) rfl) rfl, rfl, by decide +kernel⟩
theorem x_me_130 : x_meP 130 x_m130 := ⟨x_in4 (List.mem_of_getElem? (i := 179) rfl) rfl, x_in1 (List.mem_of_getElem? (i := 15) rfl) rfl, rfl, by decide +kernel⟩
theorem x_me_131 : x_meP 131 x_m131 := ⟨x_in4 (List.mem_of_getElem? (i := 183) rfl) rfl, x_in1 (List.mem_of_getElem? (i := 15) rfl) rfl, rfl, by decide +kernel⟩
theorem x_me_132 : x_meP 132 x_m132 := ⟨x_in4 (List.mem_of_getElem? (i := 187) rfl) rfl, x_in1 (List.mem_of_getElem? (i := 15) rfl) rfl, rfl, by decide +kernel⟩
theorem x_me_133 : x_meP 133 x_m133 := ⟨x_in4 (List.mem_of_getElem? (i := 191) rfl) rfl, x_in1 (List.mem_of_getElem? (i := 15) rfl) rfl, rfl, by decide +kernel⟩
theorem x_me_134 : x_meP 134 x_m134 := ⟨x_in4 (List.mem_of_getElem? (i := 195) rfl) rfl, x_in1 (List.mem_of_getElem? (i := 15) rfl) rfl, rfl, by decide +kernel⟩
theorem x_me_135 : x_meP 135 x_m135 := ⟨x_in4 (List.mem_of_getElem? (i := 199) rfl) rfl, x_in1 (List.mem_of_getElem? (i := 15) rfl) rfl, rfl, by decide +kernel⟩
theorem x_me_136 : x_meP 136 x_m136 := ⟨x_in4 (List.mem_of_getElem? (i := 203) rfl) rfl, x_in1 (List.mem_of_getElem? (i := 15) rfl) rfl, rfl, by decide +kernel⟩
theorem x_me_137 : x_meP 137 x_m137 := ⟨x_in4 (List.mem_of_getElem? (i := 207) rfl) rfl, x_in1 (List.mem_of_getElem? (i := 15) rfl) rfl, rfl, by decide +kernel⟩
theorem x_me_138 : x_meP 138 x_m138 := ⟨x_in4 (List.mem_of_getElem? (i := 211) rfl) rfl, x_in1 (List.mem_of_getElem? (i := 15) rfl) rfl, rfl, by decide +kernel⟩
theorem x_me_139 : x_meP 139 x_m139 := ⟨x_in4 (List.mem_of_getElem? (i := 215) rfl) rfl, x_in1 (List.mem_of_getElem? (i := 15) rfl) rfl, rfl, by decide +kernel⟩
theorem x_me_140 : x_meP 140 x_m140 := ⟨x_in4 (List.mem_of_getElem? (i := 220) rfl) rfl, x_in1 (List.mem_of_getElem? (i := 15) rfl) rfl, rfl, by decide +kernel⟩
theorem x_me_141 : x_meP 141 x_m141 := ⟨x_in4 (List.mem_of_getElem? (i := 224) rfl) rfl, x_in1 (List.mem_of_getElem? (i := 15) rfl) rfl, rfl, by decide +kernel⟩
theorem x_me_142 : x_meP 142 x_m142 := ⟨x_in4 (List.mem_of_getElem? (i := 228) rfl) rfl, x_in1 (List.mem_of_getElem? (i := 15) rfl) rfl, rfl, by decide +kernel⟩
theorem x_me_143 : x_meP 143 x_m143 := ⟨x_in4 (List.mem_of_getElem? (i := 235) rfl) rfl, x_in1 (List.mem_of_getElem? (i := 15) rfl) rfl, rfl, by decide +kernel⟩
theorem x_me_144 : x_meP 144 x_m144 := ⟨x_in4 (List.mem_of_getElem? (i := 239) rfl) rfl, x_in1 (List.mem_of_getElem? (i := 15) rfl) rfl, rfl, by decide +kernel⟩
theorem x_me_145 : x_meP 145 x_m145 := ⟨x_in5 (List.mem_of_getElem? (i := 3) rfl) rfl, x_in1 (List.mem_of_getElem? (i := 15) rfl) rfl, rfl, by decide +kernel⟩
theorem x_me_ok : x_allP x_meP 0 (x_ms.take 146) := ⟨x_me_0, x_me_1, x_me_2, x_me_3, x_me_4, x_me_5, x_me_6, x_me_7, x_me_8, x_me_9, x_me_10, x_me_11, x_me_12, x_me_13, x_me_14, x_me_15, x_me_16, x_me_17, x_me_18, x_me_19, x_me_20, x_me_21, x_me_22, x_me_23, x_me_24, x_me_25, x_me_26, x_me_27, x_me_28, x_me_29, x_me_30, x_me_31, x_me_32, x_me_33, x_me_34, x_me_35, x_me_36, x_me_37, x_me_38, x_me_39, x_me_40, x_me_41, x_me_42, x_me_43, x_me_44, x_me_45, x_me_46, x_me_47, x_me_48, x_me_49, x_me_50, x_me_51, x_me_52, x_me_53, x_me_54, x_me_55, x_me_56, x_me_57, x_me_58, x_me_59, x_me_60, x_me_61, x_me_62, x_me_63, x_me_64, x_me_65, x_me_66, x_me_67, x_me_68, x_me_69, x_me_70, x_me_71, x_me_72, x_me_73, x_me_74, x_me_75, x_me_76, x_me_77, x_me_78, x_me_79, x_me_80, x_me_81, x_me_82, x_me_83, x_me_84, x_me_85, x_me_86, x_me_87, x_me_88, x_me_89, x_me_90, x_me_91, x_me_92, x_me_93, x_me_94, x_me_95, x_me_96, x_me_97, x_me_98, x_me_99, x_me_100, x_me_101, x_me_102, x_me_103, x_me_104, x_me_105, x_me_106, x_me_107, x_me_108, x_me_109, x_me_110, x_me_111, x_me_112, x_me_113, x_me_114, x_me_115, x_me_116, x_me_117, x_me_118, x_me_119, x_me_120, x_me_121, x_me_122, x_me_123, x_me_124, x_me_125, x_me_126, x_me_127, x_me_128, x_me_129, x_me_130, x_me_131, x_me_132, x_me_133, x_me_134, x_me_135, x_me_136, x_me_137, x_me_138, x_me_139, x_me_140, x_me_141, x_me_142, x_me_143, x_me_144, x_me_145, trivial⟩
theorem x_me_at {cm : Nat} (h : cm < 146) : x_meP cm (x_me cm) := by
  have hl : x_ms.length = 147 := rfl
  have e : (x_ms.take 146)[cm]? = some (x_me cm) := by
    rw [List.getElem?_take, if_pos h, x_me, List.getD_eq_getElem?_getD, List.getElem?_eq_getElem (by omega)]
    rfl
  exact x_allP_at x_me_ok e
