/-! the nested classes' constructors: printed by wip/whole/gen/init53.py -/
theorem z_good {w : Cond} (h : w ∈ xT) : GoodIn xT (w :: xT) := fun v hv => xT_self v (by
  rcases List.mem_cons.mp hv with rfl | hv
  · exact h
  · exact hv)
def y_iText : MethodName := ⟨x_R7, "<init>", "()V"⟩
theorem iText_in : Cond.code y_iText prog_9_method_1_code 1 none ∈ xT := x_in1 (List.mem_of_getElem? (i := 30) rfl) rfl
theorem d_iText_0 : decode prog_9_method_1_code 0 = .ok (.aload_n 0, 1) := by decide +kernel
theorem d_iText_1 : decode prog_9_method_1_code 1 = .ok (.invokespecial 3, 3) := by decide +kernel
theorem d_iText_4 : decode prog_9_method_1_code 4 = .ok (.aload_n 0, 1) := by decide +kernel
theorem d_iText_5 : decode prog_9_method_1_code 5 = .ok (.sipush 200, 3) := by decide +kernel
theorem d_iText_8 : decode prog_9_method_1_code 8 = .ok (.newarray .char, 2) := by decide +kernel
theorem d_iText_10 : decode prog_9_method_1_code 10 = .ok (.putfield 9, 3) := by decide +kernel
theorem d_iText_13 : decode prog_9_method_1_code 13 = .ok (.aload_n 0, 1) := by decide +kernel
theorem d_iText_14 : decode prog_9_method_1_code 14 = .ok (.iconst 0, 1) := by decide +kernel
theorem d_iText_15 : decode prog_9_method_1_code 15 = .ok (.putfield 15, 3) := by decide +kernel
theorem d_iText_18 : decode prog_9_method_1_code 18 = .ok (.return_, 1) := by decide +kernel
set_option maxHeartbeats 4000000 in
set_option maxRecDepth 100000 in
theorem c_iText (l : Launch) (D : va_G) (h0 sz : Nat) : Met l y_iText (Cond.code y_iText prog_9_method_1_code 1 none :: xT) ({ frames := 1, cells := 1, slots := 200, locals := 30 }) (va_Pc [.ref h0] (fun U => U.heap.size = sz ∧ va_P D x_cls [(h0, .inr (7, [.null, .int 0]))] U.heap ∧ va_K D x_cls [] U ∧ va_D (fun _ => True) [(h0, .inr (7, [.null, .int 0]))])) (va_Qv (fun _ : Unit => True) (fun _ t => ∃ q1 : Nat, ∃ cA2 : ClassId, va_P D x_cls [(h0, .inr (7, [.ref q1, .int 0])), (q1, .inl (cA2, 200, .inl (fun _ => 0)))] t.heap ∧ va_K D x_cls [(cA2, .char)] t ∧ va_D (va_A [(h0, .inr (7, [.null, .int 0]))] sz) [(h0, .inr (7, [.ref q1, .int 0])), (q1, .inl (cA2, 200, .inl (fun _ => 0)))]) (va_A [(h0, .inr (7, [.null, .int 0]))] sz)) 1 200 (va_A [(h0, .inr (7, [.null, .int 0]))] sz) := by
  refine Met.ofW (cc := prog_9_method_1_code) (maxL := 1) (ret := none) (by decide) rfl ?_
  intro p e s m args below meth c s₁ B hml hv
  obtain ⟨rfl, hsz, hP, hK, hD0⟩ := hv
  have hx := B.exec
  have hb := B.bytes
  have hr := B.returns
  have hts0 := atoms_spec (ws := Cond.code y_iText prog_9_method_1_code 1 none :: xT) B.pre
  have hts : ∀ w ∈ xT, w.before _ s = true := fun w hw => hts0 w (List.mem_cons_of_mem _ hw)
  have hown : s.vm.findClass x_R7 = some m.cls := findClass_of_methodNamed B.named
  have hlocks := B.notSynchronized
  have hin : meth.name = "<init>" := (name_of_methodNamed B.named B.method).1
  subst hsz
  have hD := hD0.self (sz := s.heap.size)
  generalize hAe : va_A [(h0, .inr (7, [.null, .int 0]))] s.heap.size = A at hD ⊢
  have hA : ∀ q : Nat, s.heap.size ≤ q → A q := fun q h => by rw [← hAe]; exact Or.inr h
  have hS : va_S A s.heap s.heap [] := va_S.rf
  have hP : va_P D x_cls [(h0, .inr (7, [.null, .int 0]))] s.heap := hP
  have hl := lv_entry ([.ref h0]) (n := 1) (Nat.le_of_ble_eq_true rfl)
  rw [lg_entry_eq]
  generalize (lg_sl ([.ref h0]) ++ List.replicate (1 - (lg_sl ([.ref h0])).length) Slot.unset).toArray = ls at hl ⊢
  have hl : lv_has ls 1 [(0, .ref h0)] := hl
  refine lv_aload_n hx hb d_iText_0 rfl (lv_at hl 0 rfl) ?_
  refine W.objInit hx hb hown (hts (.methodLink x_R7 3 Lib.objectInit) (x_in1 (List.mem_of_getElem? (i := 31) rfl) rfl)) (hts (.instanceMethod Lib.objectInit) (x_in1 (List.mem_of_getElem? (i := 24) rfl) rfl)) (hts (.code Lib.objectInit ⟨#[0xb1]⟩ 1 none) (x_in1 (List.mem_of_getElem? (i := 25) rfl) rfl)) rfl (by rw [hml]; exact hl.1) rfl d_iText_1 (Nat.le_of_ble_eq_true rfl) (Nat.le_of_ble_eq_true rfl) ?_
  refine W.eq (g2 := F0 m 4 ls []) rfl ?_
  refine lv_aload_n hx hb d_iText_4 rfl (lv_at hl 0 rfl) ?_
  refine lv_sipush (v := 200) hx hb d_iText_5 (by decide) ?_
  refine va_newa (atype := .char) (ty := .char) (a0 := (200, .inl (fun _ => 0))) hx hb (hts (.arrayClass .char) (x_in1 (List.mem_of_getElem? (i := 40) rfl) rfl)) rfl hK hP hD hS hA (fun _ => rfl) (by decide) (by decide) (by decide) (by decide) (by decide) d_iText_8 (fun q1 cA2 H hK hP hD hS => ?_)
  have hP : va_P D x_cls [(h0, .inr (7, [.null, .int 0])), (q1, .inl (cA2, 200, .inl (fun _ => 0)))] H := hP
  have hD : va_D A [(h0, .inr (7, [.null, .int 0])), (q1, .inl (cA2, 200, .inl (fun _ => 0)))] := hD
  have hK : va_K D x_cls [(cA2, .char)] s := hK
  refine W.widen (k := 1) (n := 200) (by decide) (by decide) ?_
  refine va_putF (D := D) (ci := 7) (v := .ref q1) (ty := .array .char) (C := x_R7) (T := x_T7) (N := 2) hx hb hts x_lay7 x_ty7 x_tyk7 x_nm7 hown hK hP hD hS 0 rfl rfl 0 (by decide) (hts (.fieldLink x_R7 9 "BackColumns$Text" "letters" "[C") (x_in1 (List.mem_of_getElem? (i := 32) rfl) rfl)) (fun _ h9 => h9) rfl hin rfl (by decide +kernel) rfl rfl (Nat.le_of_ble_eq_true rfl) d_iText_10 (fun H locs hP hD hS => ?_)
  have hP : va_P D x_cls [(h0, .inr (7, [.ref q1, .int 0])), (q1, .inl (cA2, 200, .inl (fun _ => 0)))] H := hP
  have hD : va_D A [(h0, .inr (7, [.ref q1, .int 0])), (q1, .inl (cA2, 200, .inl (fun _ => 0)))] := hD
  refine lv_aload_n hx hb d_iText_13 rfl (lv_at hl 0 rfl) ?_
  refine lv_iconst (v := 0) hx hb d_iText_14 (by decide) ?_
  refine va_put (D := D) (ci := 7) (v := .int 0) (ty := .int) (C := x_R7) (T := x_T7) (N := 2) hx hb hts x_lay7 x_ty7 x_tyk7 x_nm7 hown hK hP hD hS 0 rfl rfl 1 (by decide) (hts (.fieldLink x_R7 15 "BackColumns$Text" "length" "I") (x_in1 (List.mem_of_getElem? (i := 33) rfl) rfl)) (fun _ h9 => h9) rfl (by decide +kernel) rfl rfl (Nat.le_of_ble_eq_true rfl) d_iText_15 (fun H locs hP hD hS => ?_)
  have hP : va_P D x_cls [(h0, .inr (7, [.ref q1, .int 0])), (q1, .inl (cA2, 200, .inl (fun _ => 0)))] H := hP
  have hD : va_D A [(h0, .inr (7, [.ref q1, .int 0])), (q1, .inl (cA2, 200, .inl (fun _ => 0)))] := hD
  have hP9 := hP.sub (ws' := [(h0, .inr (7, [.ref q1, .int 0])), (q1, .inl (cA2, 200, .inl (fun _ => 0)))]) [0, 1] rfl
  have hD9 := hD.sub (ws' := [(h0, .inr (7, [.ref q1, .int 0])), (q1, .inl (cA2, 200, .inl (fun _ => 0)))]) [0, 1] (by decide) rfl
  have hK9 := hK.sub (tys' := [(cA2, .char)]) [0] rfl
  exact W.vret hx hb hr (fun t ht hW => ⟨⟨(), rfl, trivial, q1, cA2, by rw [ht]; exact hP9, va_K.moved hW.alike hK9, hD9⟩, hS.F ht⟩) hS.2.2 d_iText_18
def y_iPaper : MethodName := ⟨x_R3, "<init>", "()V"⟩
theorem iPaper_in : Cond.code y_iPaper prog_5_method_1_code 1 none ∈ xT := x_in1 (List.mem_of_getElem? (i := 45) rfl) rfl
theorem d_iPaper_0 : decode prog_5_method_1_code 0 = .ok (.aload_n 0, 1) := by decide +kernel
theorem d_iPaper_1 : decode prog_5_method_1_code 1 = .ok (.invokespecial 3, 3) := by decide +kernel
theorem d_iPaper_4 : decode prog_5_method_1_code 4 = .ok (.aload_n 0, 1) := by decide +kernel
theorem d_iPaper_5 : decode prog_5_method_1_code 5 = .ok (.bipush 8, 2) := by decide +kernel
theorem d_iPaper_7 : decode prog_5_method_1_code 7 = .ok (.newarray .int, 2) := by decide +kernel
theorem d_iPaper_9 : decode prog_5_method_1_code 9 = .ok (.putfield 9, 3) := by decide +kernel
theorem d_iPaper_12 : decode prog_5_method_1_code 12 = .ok (.aload_n 0, 1) := by decide +kernel
theorem d_iPaper_13 : decode prog_5_method_1_code 13 = .ok (.bipush 8, 2) := by decide +kernel
theorem d_iPaper_15 : decode prog_5_method_1_code 15 = .ok (.newarray .int, 2) := by decide +kernel
theorem d_iPaper_17 : decode prog_5_method_1_code 17 = .ok (.putfield 15, 3) := by decide +kernel
theorem d_iPaper_20 : decode prog_5_method_1_code 20 = .ok (.aload_n 0, 1) := by decide +kernel
theorem d_iPaper_21 : decode prog_5_method_1_code 21 = .ok (.bipush 8, 2) := by decide +kernel
theorem d_iPaper_23 : decode prog_5_method_1_code 23 = .ok (.newarray .int, 2) := by decide +kernel
theorem d_iPaper_25 : decode prog_5_method_1_code 25 = .ok (.putfield 18, 3) := by decide +kernel
theorem d_iPaper_28 : decode prog_5_method_1_code 28 = .ok (.aload_n 0, 1) := by decide +kernel
theorem d_iPaper_29 : decode prog_5_method_1_code 29 = .ok (.bipush 6, 2) := by decide +kernel
theorem d_iPaper_31 : decode prog_5_method_1_code 31 = .ok (.newarray .int, 2) := by decide +kernel
theorem d_iPaper_33 : decode prog_5_method_1_code 33 = .ok (.putfield 21, 3) := by decide +kernel
theorem d_iPaper_36 : decode prog_5_method_1_code 36 = .ok (.aload_n 0, 1) := by decide +kernel
theorem d_iPaper_37 : decode prog_5_method_1_code 37 = .ok (.bipush 6, 2) := by decide +kernel
theorem d_iPaper_39 : decode prog_5_method_1_code 39 = .ok (.newarray .int, 2) := by decide +kernel
theorem d_iPaper_41 : decode prog_5_method_1_code 41 = .ok (.putfield 24, 3) := by decide +kernel
theorem d_iPaper_44 : decode prog_5_method_1_code 44 = .ok (.aload_n 0, 1) := by decide +kernel
theorem d_iPaper_45 : decode prog_5_method_1_code 45 = .ok (.bipush 6, 2) := by decide +kernel
theorem d_iPaper_47 : decode prog_5_method_1_code 47 = .ok (.newarray .int, 2) := by decide +kernel
theorem d_iPaper_49 : decode prog_5_method_1_code 49 = .ok (.putfield 27, 3) := by decide +kernel
theorem d_iPaper_52 : decode prog_5_method_1_code 52 = .ok (.aload_n 0, 1) := by decide +kernel
theorem d_iPaper_53 : decode prog_5_method_1_code 53 = .ok (.iconst 0, 1) := by decide +kernel
theorem d_iPaper_54 : decode prog_5_method_1_code 54 = .ok (.putfield 30, 3) := by decide +kernel
theorem d_iPaper_57 : decode prog_5_method_1_code 57 = .ok (.aload_n 0, 1) := by decide +kernel
theorem d_iPaper_58 : decode prog_5_method_1_code 58 = .ok (.iconst 0, 1) := by decide +kernel
theorem d_iPaper_59 : decode prog_5_method_1_code 59 = .ok (.putfield 34, 3) := by decide +kernel
theorem d_iPaper_62 : decode prog_5_method_1_code 62 = .ok (.aload_n 0, 1) := by decide +kernel
theorem d_iPaper_63 : decode prog_5_method_1_code 63 = .ok (.iconst 0, 1) := by decide +kernel
theorem d_iPaper_64 : decode prog_5_method_1_code 64 = .ok (.putfield 37, 3) := by decide +kernel
theorem d_iPaper_67 : decode prog_5_method_1_code 67 = .ok (.return_, 1) := by decide +kernel
set_option maxHeartbeats 4000000 in
set_option maxRecDepth 100000 in
theorem c_iPaper (l : Launch) (D : va_G) (h0 sz : Nat) : Met l y_iPaper (Cond.code y_iPaper prog_5_method_1_code 1 none :: xT) ({ frames := 1, cells := 6, slots := 42, locals := 30 }) (va_Pc [.ref h0] (fun U => U.heap.size = sz ∧ va_P D x_cls [(h0, .inr (3, [.null, .null, .null, .null, .null, .null, .int 0, .int 0, .int 0]))] U.heap ∧ va_K D x_cls [] U ∧ va_D (fun _ => True) [(h0, .inr (3, [.null, .null, .null, .null, .null, .null, .int 0, .int 0, .int 0]))])) (va_Qv (fun _ : Unit => True) (fun _ t => ∃ q1 q3 q5 q7 q9 q11 : Nat, ∃ cA2 cA4 cA6 cA8 cA10 cA12 : ClassId, va_P D x_cls [(h0, .inr (3, [.ref q1, .ref q3, .ref q5, .ref q7, .ref q9, .ref q11, .int 0, .int 0, .int 0])), (q1, .inl (cA2, 8, .inl (fun _ => 0))), (q3, .inl (cA4, 8, .inl (fun _ => 0))), (q5, .inl (cA6, 8, .inl (fun _ => 0))), (q7, .inl (cA8, 6, .inl (fun _ => 0))), (q9, .inl (cA10, 6, .inl (fun _ => 0))), (q11, .inl (cA12, 6, .inl (fun _ => 0)))] t.heap ∧ va_K D x_cls [(cA2, .int), (cA4, .int), (cA6, .int), (cA8, .int), (cA10, .int), (cA12, .int)] t ∧ va_D (va_A [(h0, .inr (3, [.null, .null, .null, .null, .null, .null, .int 0, .int 0, .int 0]))] sz) [(h0, .inr (3, [.ref q1, .ref q3, .ref q5, .ref q7, .ref q9, .ref q11, .int 0, .int 0, .int 0])), (q1, .inl (cA2, 8, .inl (fun _ => 0))), (q3, .inl (cA4, 8, .inl (fun _ => 0))), (q5, .inl (cA6, 8, .inl (fun _ => 0))), (q7, .inl (cA8, 6, .inl (fun _ => 0))), (q9, .inl (cA10, 6, .inl (fun _ => 0))), (q11, .inl (cA12, 6, .inl (fun _ => 0)))]) (va_A [(h0, .inr (3, [.null, .null, .null, .null, .null, .null, .int 0, .int 0, .int 0]))] sz)) 6 42 (va_A [(h0, .inr (3, [.null, .null, .null, .null, .null, .null, .int 0, .int 0, .int 0]))] sz) := by
  refine Met.ofW (cc := prog_5_method_1_code) (maxL := 1) (ret := none) (by decide) rfl ?_
  intro p e s m args below meth c s₁ B hml hv
  obtain ⟨rfl, hsz, hP, hK, hD0⟩ := hv
  have hx := B.exec
  have hb := B.bytes
  have hr := B.returns
  have hts0 := atoms_spec (ws := Cond.code y_iPaper prog_5_method_1_code 1 none :: xT) B.pre
  have hts : ∀ w ∈ xT, w.before _ s = true := fun w hw => hts0 w (List.mem_cons_of_mem _ hw)
  have hown : s.vm.findClass x_R3 = some m.cls := findClass_of_methodNamed B.named
  have hlocks := B.notSynchronized
  have hin : meth.name = "<init>" := (name_of_methodNamed B.named B.method).1
  subst hsz
  have hD := hD0.self (sz := s.heap.size)
  generalize hAe : va_A [(h0, .inr (3, [.null, .null, .null, .null, .null, .null, .int 0, .int 0, .int 0]))] s.heap.size = A at hD ⊢
  have hA : ∀ q : Nat, s.heap.size ≤ q → A q := fun q h => by rw [← hAe]; exact Or.inr h
  have hS : va_S A s.heap s.heap [] := va_S.rf
  have hP : va_P D x_cls [(h0, .inr (3, [.null, .null, .null, .null, .null, .null, .int 0, .int 0, .int 0]))] s.heap := hP
  have hl := lv_entry ([.ref h0]) (n := 1) (Nat.le_of_ble_eq_true rfl)
  rw [lg_entry_eq]
  generalize (lg_sl ([.ref h0]) ++ List.replicate (1 - (lg_sl ([.ref h0])).length) Slot.unset).toArray = ls at hl ⊢
  have hl : lv_has ls 1 [(0, .ref h0)] := hl
  refine lv_aload_n hx hb d_iPaper_0 rfl (lv_at hl 0 rfl) ?_
  refine W.objInit hx hb hown (hts (.methodLink x_R3 3 Lib.objectInit) (x_in1 (List.mem_of_getElem? (i := 46) rfl) rfl)) (hts (.instanceMethod Lib.objectInit) (x_in1 (List.mem_of_getElem? (i := 24) rfl) rfl)) (hts (.code Lib.objectInit ⟨#[0xb1]⟩ 1 none) (x_in1 (List.mem_of_getElem? (i := 25) rfl) rfl)) rfl (by rw [hml]; exact hl.1) rfl d_iPaper_1 (Nat.le_of_ble_eq_true rfl) (Nat.le_of_ble_eq_true rfl) ?_
  refine W.eq (g2 := F0 m 4 ls []) rfl ?_
  refine lv_aload_n hx hb d_iPaper_4 rfl (lv_at hl 0 rfl) ?_
  refine lv_bipush (v := 8) hx hb d_iPaper_5 (by decide) ?_
  refine va_newa (atype := .int) (ty := .int) (a0 := (8, .inl (fun _ => 0))) hx hb (hts (.arrayClass .int) (x_in1 (List.mem_of_getElem? (i := 91) rfl) rfl)) rfl hK hP hD hS hA (fun _ => rfl) (by decide) (by decide) (by decide) (by decide) (by decide) d_iPaper_7 (fun q1 cA2 H hK hP hD hS => ?_)
  have hP : va_P D x_cls [(h0, .inr (3, [.null, .null, .null, .null, .null, .null, .int 0, .int 0, .int 0])), (q1, .inl (cA2, 8, .inl (fun _ => 0)))] H := hP
  have hD : va_D A [(h0, .inr (3, [.null, .null, .null, .null, .null, .null, .int 0, .int 0, .int 0])), (q1, .inl (cA2, 8, .inl (fun _ => 0)))] := hD
  have hK : va_K D x_cls [(cA2, .int)] s := hK
  refine W.widen (k := 1) (n := 8) (by decide) (by decide) ?_
  refine va_putF (D := D) (ci := 3) (v := .ref q1) (ty := .array .int) (C := x_R3) (T := x_T3) (N := 9) hx hb hts x_lay3 x_ty3 x_tyk3 x_nm3 hown hK hP hD hS 0 rfl rfl 0 (by decide) (hts (.fieldLink x_R3 9 "BackColumns$Paper" "cost" "[I") (x_in1 (List.mem_of_getElem? (i := 47) rfl) rfl)) (fun _ h9 => h9) rfl hin rfl (by decide +kernel) rfl rfl (Nat.le_of_ble_eq_true rfl) d_iPaper_9 (fun H locs hP hD hS => ?_)
  have hP : va_P D x_cls [(h0, .inr (3, [.ref q1, .null, .null, .null, .null, .null, .int 0, .int 0, .int 0])), (q1, .inl (cA2, 8, .inl (fun _ => 0)))] H := hP
  have hD : va_D A [(h0, .inr (3, [.ref q1, .null, .null, .null, .null, .null, .int 0, .int 0, .int 0])), (q1, .inl (cA2, 8, .inl (fun _ => 0)))] := hD
  refine lv_aload_n hx hb d_iPaper_12 rfl (lv_at hl 0 rfl) ?_
  refine lv_bipush (v := 8) hx hb d_iPaper_13 (by decide) ?_
  refine va_newa (atype := .int) (ty := .int) (a0 := (8, .inl (fun _ => 0))) hx hb (hts (.arrayClass .int) (x_in1 (List.mem_of_getElem? (i := 91) rfl) rfl)) rfl hK hP hD hS hA (fun _ => rfl) (by decide) (by decide) (by decide) (by decide) (by decide) d_iPaper_15 (fun q3 cA4 H hK hP hD hS => ?_)
  have hP : va_P D x_cls [(h0, .inr (3, [.ref q1, .null, .null, .null, .null, .null, .int 0, .int 0, .int 0])), (q1, .inl (cA2, 8, .inl (fun _ => 0))), (q3, .inl (cA4, 8, .inl (fun _ => 0)))] H := hP
  have hD : va_D A [(h0, .inr (3, [.ref q1, .null, .null, .null, .null, .null, .int 0, .int 0, .int 0])), (q1, .inl (cA2, 8, .inl (fun _ => 0))), (q3, .inl (cA4, 8, .inl (fun _ => 0)))] := hD
  have hK : va_K D x_cls [(cA2, .int), (cA4, .int)] s := hK
  refine W.widen (k := 2) (n := 16) (by decide) (by decide) ?_
  refine va_putF (D := D) (ci := 3) (v := .ref q3) (ty := .array .int) (C := x_R3) (T := x_T3) (N := 9) hx hb hts x_lay3 x_ty3 x_tyk3 x_nm3 hown hK hP hD hS 0 rfl rfl 1 (by decide) (hts (.fieldLink x_R3 15 "BackColumns$Paper" "meaning" "[I") (x_in1 (List.mem_of_getElem? (i := 50) rfl) rfl)) (fun _ h9 => h9) rfl hin rfl (by decide +kernel) rfl rfl (Nat.le_of_ble_eq_true rfl) d_iPaper_17 (fun H locs hP hD hS => ?_)
  have hP : va_P D x_cls [(h0, .inr (3, [.ref q1, .ref q3, .null, .null, .null, .null, .int 0, .int 0, .int 0])), (q1, .inl (cA2, 8, .inl (fun _ => 0))), (q3, .inl (cA4, 8, .inl (fun _ => 0)))] H := hP
  have hD : va_D A [(h0, .inr (3, [.ref q1, .ref q3, .null, .null, .null, .null, .int 0, .int 0, .int 0])), (q1, .inl (cA2, 8, .inl (fun _ => 0))), (q3, .inl (cA4, 8, .inl (fun _ => 0)))] := hD
  refine lv_aload_n hx hb d_iPaper_20 rfl (lv_at hl 0 rfl) ?_
  refine lv_bipush (v := 8) hx hb d_iPaper_21 (by decide) ?_
  refine va_newa (atype := .int) (ty := .int) (a0 := (8, .inl (fun _ => 0))) hx hb (hts (.arrayClass .int) (x_in1 (List.mem_of_getElem? (i := 91) rfl) rfl)) rfl hK hP hD hS hA (fun _ => rfl) (by decide) (by decide) (by decide) (by decide) (by decide) d_iPaper_23 (fun q5 cA6 H hK hP hD hS => ?_)
  have hP : va_P D x_cls [(h0, .inr (3, [.ref q1, .ref q3, .null, .null, .null, .null, .int 0, .int 0, .int 0])), (q1, .inl (cA2, 8, .inl (fun _ => 0))), (q3, .inl (cA4, 8, .inl (fun _ => 0))), (q5, .inl (cA6, 8, .inl (fun _ => 0)))] H := hP
  have hD : va_D A [(h0, .inr (3, [.ref q1, .ref q3, .null, .null, .null, .null, .int 0, .int 0, .int 0])), (q1, .inl (cA2, 8, .inl (fun _ => 0))), (q3, .inl (cA4, 8, .inl (fun _ => 0))), (q5, .inl (cA6, 8, .inl (fun _ => 0)))] := hD
  have hK : va_K D x_cls [(cA2, .int), (cA4, .int), (cA6, .int)] s := hK
  refine W.widen (k := 3) (n := 24) (by decide) (by decide) ?_
  refine va_putF (D := D) (ci := 3) (v := .ref q5) (ty := .array .int) (C := x_R3) (T := x_T3) (N := 9) hx hb hts x_lay3 x_ty3 x_tyk3 x_nm3 hown hK hP hD hS 0 rfl rfl 2 (by decide) (hts (.fieldLink x_R3 18 "BackColumns$Paper" "takenFor" "[I") (x_in1 (List.mem_of_getElem? (i := 53) rfl) rfl)) (fun _ h9 => h9) rfl hin rfl (by decide +kernel) rfl rfl (Nat.le_of_ble_eq_true rfl) d_iPaper_25 (fun H locs hP hD hS => ?_)
  have hP : va_P D x_cls [(h0, .inr (3, [.ref q1, .ref q3, .ref q5, .null, .null, .null, .int 0, .int 0, .int 0])), (q1, .inl (cA2, 8, .inl (fun _ => 0))), (q3, .inl (cA4, 8, .inl (fun _ => 0))), (q5, .inl (cA6, 8, .inl (fun _ => 0)))] H := hP
  have hD : va_D A [(h0, .inr (3, [.ref q1, .ref q3, .ref q5, .null, .null, .null, .int 0, .int 0, .int 0])), (q1, .inl (cA2, 8, .inl (fun _ => 0))), (q3, .inl (cA4, 8, .inl (fun _ => 0))), (q5, .inl (cA6, 8, .inl (fun _ => 0)))] := hD
  refine lv_aload_n hx hb d_iPaper_28 rfl (lv_at hl 0 rfl) ?_
  refine lv_bipush (v := 6) hx hb d_iPaper_29 (by decide) ?_
  refine va_newa (atype := .int) (ty := .int) (a0 := (6, .inl (fun _ => 0))) hx hb (hts (.arrayClass .int) (x_in1 (List.mem_of_getElem? (i := 91) rfl) rfl)) rfl hK hP hD hS hA (fun _ => rfl) (by decide) (by decide) (by decide) (by decide) (by decide) d_iPaper_31 (fun q7 cA8 H hK hP hD hS => ?_)
  have hP : va_P D x_cls [(h0, .inr (3, [.ref q1, .ref q3, .ref q5, .null, .null, .null, .int 0, .int 0, .int 0])), (q1, .inl (cA2, 8, .inl (fun _ => 0))), (q3, .inl (cA4, 8, .inl (fun _ => 0))), (q5, .inl (cA6, 8, .inl (fun _ => 0))), (q7, .inl (cA8, 6, .inl (fun _ => 0)))] H := hP
  have hD : va_D A [(h0, .inr (3, [.ref q1, .ref q3, .ref q5, .null, .null, .null, .int 0, .int 0, .int 0])), (q1, .inl (cA2, 8, .inl (fun _ => 0))), (q3, .inl (cA4, 8, .inl (fun _ => 0))), (q5, .inl (cA6, 8, .inl (fun _ => 0))), (q7, .inl (cA8, 6, .inl (fun _ => 0)))] := hD
  have hK : va_K D x_cls [(cA2, .int), (cA4, .int), (cA6, .int), (cA8, .int)] s := hK
  refine W.widen (k := 4) (n := 30) (by decide) (by decide) ?_
  refine va_putF (D := D) (ci := 3) (v := .ref q7) (ty := .array .int) (C := x_R3) (T := x_T3) (N := 9) hx hb hts x_lay3 x_ty3 x_tyk3 x_nm3 hown hK hP hD hS 0 rfl rfl 3 (by decide) (hts (.fieldLink x_R3 21 "BackColumns$Paper" "kind" "[I") (x_in1 (List.mem_of_getElem? (i := 57) rfl) rfl)) (fun _ h9 => h9) rfl hin rfl (by decide +kernel) rfl rfl (Nat.le_of_ble_eq_true rfl) d_iPaper_33 (fun H locs hP hD hS => ?_)
  have hP : va_P D x_cls [(h0, .inr (3, [.ref q1, .ref q3, .ref q5, .ref q7, .null, .null, .int 0, .int 0, .int 0])), (q1, .inl (cA2, 8, .inl (fun _ => 0))), (q3, .inl (cA4, 8, .inl (fun _ => 0))), (q5, .inl (cA6, 8, .inl (fun _ => 0))), (q7, .inl (cA8, 6, .inl (fun _ => 0)))] H := hP
  have hD : va_D A [(h0, .inr (3, [.ref q1, .ref q3, .ref q5, .ref q7, .null, .null, .int 0, .int 0, .int 0])), (q1, .inl (cA2, 8, .inl (fun _ => 0))), (q3, .inl (cA4, 8, .inl (fun _ => 0))), (q5, .inl (cA6, 8, .inl (fun _ => 0))), (q7, .inl (cA8, 6, .inl (fun _ => 0)))] := hD
  refine lv_aload_n hx hb d_iPaper_36 rfl (lv_at hl 0 rfl) ?_
  refine lv_bipush (v := 6) hx hb d_iPaper_37 (by decide) ?_
  refine va_newa (atype := .int) (ty := .int) (a0 := (6, .inl (fun _ => 0))) hx hb (hts (.arrayClass .int) (x_in1 (List.mem_of_getElem? (i := 91) rfl) rfl)) rfl hK hP hD hS hA (fun _ => rfl) (by decide) (by decide) (by decide) (by decide) (by decide) d_iPaper_39 (fun q9 cA10 H hK hP hD hS => ?_)
  have hP : va_P D x_cls [(h0, .inr (3, [.ref q1, .ref q3, .ref q5, .ref q7, .null, .null, .int 0, .int 0, .int 0])), (q1, .inl (cA2, 8, .inl (fun _ => 0))), (q3, .inl (cA4, 8, .inl (fun _ => 0))), (q5, .inl (cA6, 8, .inl (fun _ => 0))), (q7, .inl (cA8, 6, .inl (fun _ => 0))), (q9, .inl (cA10, 6, .inl (fun _ => 0)))] H := hP
  have hD : va_D A [(h0, .inr (3, [.ref q1, .ref q3, .ref q5, .ref q7, .null, .null, .int 0, .int 0, .int 0])), (q1, .inl (cA2, 8, .inl (fun _ => 0))), (q3, .inl (cA4, 8, .inl (fun _ => 0))), (q5, .inl (cA6, 8, .inl (fun _ => 0))), (q7, .inl (cA8, 6, .inl (fun _ => 0))), (q9, .inl (cA10, 6, .inl (fun _ => 0)))] := hD
  have hK : va_K D x_cls [(cA2, .int), (cA4, .int), (cA6, .int), (cA8, .int), (cA10, .int)] s := hK
  refine W.widen (k := 5) (n := 36) (by decide) (by decide) ?_
  refine va_putF (D := D) (ci := 3) (v := .ref q9) (ty := .array .int) (C := x_R3) (T := x_T3) (N := 9) hx hb hts x_lay3 x_ty3 x_tyk3 x_nm3 hown hK hP hD hS 0 rfl rfl 4 (by decide) (hts (.fieldLink x_R3 24 "BackColumns$Paper" "want" "[I") (x_in1 (List.mem_of_getElem? (i := 59) rfl) rfl)) (fun _ h9 => h9) rfl hin rfl (by decide +kernel) rfl rfl (Nat.le_of_ble_eq_true rfl) d_iPaper_41 (fun H locs hP hD hS => ?_)
  have hP : va_P D x_cls [(h0, .inr (3, [.ref q1, .ref q3, .ref q5, .ref q7, .ref q9, .null, .int 0, .int 0, .int 0])), (q1, .inl (cA2, 8, .inl (fun _ => 0))), (q3, .inl (cA4, 8, .inl (fun _ => 0))), (q5, .inl (cA6, 8, .inl (fun _ => 0))), (q7, .inl (cA8, 6, .inl (fun _ => 0))), (q9, .inl (cA10, 6, .inl (fun _ => 0)))] H := hP
  have hD : va_D A [(h0, .inr (3, [.ref q1, .ref q3, .ref q5, .ref q7, .ref q9, .null, .int 0, .int 0, .int 0])), (q1, .inl (cA2, 8, .inl (fun _ => 0))), (q3, .inl (cA4, 8, .inl (fun _ => 0))), (q5, .inl (cA6, 8, .inl (fun _ => 0))), (q7, .inl (cA8, 6, .inl (fun _ => 0))), (q9, .inl (cA10, 6, .inl (fun _ => 0)))] := hD
  refine lv_aload_n hx hb d_iPaper_44 rfl (lv_at hl 0 rfl) ?_
  refine lv_bipush (v := 6) hx hb d_iPaper_45 (by decide) ?_
  refine va_newa (atype := .int) (ty := .int) (a0 := (6, .inl (fun _ => 0))) hx hb (hts (.arrayClass .int) (x_in1 (List.mem_of_getElem? (i := 91) rfl) rfl)) rfl hK hP hD hS hA (fun _ => rfl) (by decide) (by decide) (by decide) (by decide) (by decide) d_iPaper_47 (fun q11 cA12 H hK hP hD hS => ?_)
  have hP : va_P D x_cls [(h0, .inr (3, [.ref q1, .ref q3, .ref q5, .ref q7, .ref q9, .null, .int 0, .int 0, .int 0])), (q1, .inl (cA2, 8, .inl (fun _ => 0))), (q3, .inl (cA4, 8, .inl (fun _ => 0))), (q5, .inl (cA6, 8, .inl (fun _ => 0))), (q7, .inl (cA8, 6, .inl (fun _ => 0))), (q9, .inl (cA10, 6, .inl (fun _ => 0))), (q11, .inl (cA12, 6, .inl (fun _ => 0)))] H := hP
  have hD : va_D A [(h0, .inr (3, [.ref q1, .ref q3, .ref q5, .ref q7, .ref q9, .null, .int 0, .int 0, .int 0])), (q1, .inl (cA2, 8, .inl (fun _ => 0))), (q3, .inl (cA4, 8, .inl (fun _ => 0))), (q5, .inl (cA6, 8, .inl (fun _ => 0))), (q7, .inl (cA8, 6, .inl (fun _ => 0))), (q9, .inl (cA10, 6, .inl (fun _ => 0))), (q11, .inl (cA12, 6, .inl (fun _ => 0)))] := hD
  have hK : va_K D x_cls [(cA2, .int), (cA4, .int), (cA6, .int), (cA8, .int), (cA10, .int), (cA12, .int)] s := hK
  refine W.widen (k := 6) (n := 42) (by decide) (by decide) ?_
  refine va_putF (D := D) (ci := 3) (v := .ref q11) (ty := .array .int) (C := x_R3) (T := x_T3) (N := 9) hx hb hts x_lay3 x_ty3 x_tyk3 x_nm3 hown hK hP hD hS 0 rfl rfl 5 (by decide) (hts (.fieldLink x_R3 27 "BackColumns$Paper" "code" "[I") (x_in1 (List.mem_of_getElem? (i := 61) rfl) rfl)) (fun _ h9 => h9) rfl hin rfl (by decide +kernel) rfl rfl (Nat.le_of_ble_eq_true rfl) d_iPaper_49 (fun H locs hP hD hS => ?_)
  have hP : va_P D x_cls [(h0, .inr (3, [.ref q1, .ref q3, .ref q5, .ref q7, .ref q9, .ref q11, .int 0, .int 0, .int 0])), (q1, .inl (cA2, 8, .inl (fun _ => 0))), (q3, .inl (cA4, 8, .inl (fun _ => 0))), (q5, .inl (cA6, 8, .inl (fun _ => 0))), (q7, .inl (cA8, 6, .inl (fun _ => 0))), (q9, .inl (cA10, 6, .inl (fun _ => 0))), (q11, .inl (cA12, 6, .inl (fun _ => 0)))] H := hP
  have hD : va_D A [(h0, .inr (3, [.ref q1, .ref q3, .ref q5, .ref q7, .ref q9, .ref q11, .int 0, .int 0, .int 0])), (q1, .inl (cA2, 8, .inl (fun _ => 0))), (q3, .inl (cA4, 8, .inl (fun _ => 0))), (q5, .inl (cA6, 8, .inl (fun _ => 0))), (q7, .inl (cA8, 6, .inl (fun _ => 0))), (q9, .inl (cA10, 6, .inl (fun _ => 0))), (q11, .inl (cA12, 6, .inl (fun _ => 0)))] := hD
  refine lv_aload_n hx hb d_iPaper_52 rfl (lv_at hl 0 rfl) ?_
  refine lv_iconst (v := 0) hx hb d_iPaper_53 (by decide) ?_
  refine va_put (D := D) (ci := 3) (v := .int 0) (ty := .int) (C := x_R3) (T := x_T3) (N := 9) hx hb hts x_lay3 x_ty3 x_tyk3 x_nm3 hown hK hP hD hS 0 rfl rfl 6 (by decide) (hts (.fieldLink x_R3 30 "BackColumns$Paper" "words" "I") (x_in1 (List.mem_of_getElem? (i := 64) rfl) rfl)) (fun _ h9 => h9) rfl (by decide +kernel) rfl rfl (Nat.le_of_ble_eq_true rfl) d_iPaper_54 (fun H locs hP hD hS => ?_)
  have hP : va_P D x_cls [(h0, .inr (3, [.ref q1, .ref q3, .ref q5, .ref q7, .ref q9, .ref q11, .int 0, .int 0, .int 0])), (q1, .inl (cA2, 8, .inl (fun _ => 0))), (q3, .inl (cA4, 8, .inl (fun _ => 0))), (q5, .inl (cA6, 8, .inl (fun _ => 0))), (q7, .inl (cA8, 6, .inl (fun _ => 0))), (q9, .inl (cA10, 6, .inl (fun _ => 0))), (q11, .inl (cA12, 6, .inl (fun _ => 0)))] H := hP
  have hD : va_D A [(h0, .inr (3, [.ref q1, .ref q3, .ref q5, .ref q7, .ref q9, .ref q11, .int 0, .int 0, .int 0])), (q1, .inl (cA2, 8, .inl (fun _ => 0))), (q3, .inl (cA4, 8, .inl (fun _ => 0))), (q5, .inl (cA6, 8, .inl (fun _ => 0))), (q7, .inl (cA8, 6, .inl (fun _ => 0))), (q9, .inl (cA10, 6, .inl (fun _ => 0))), (q11, .inl (cA12, 6, .inl (fun _ => 0)))] := hD
  refine lv_aload_n hx hb d_iPaper_57 rfl (lv_at hl 0 rfl) ?_
  refine lv_iconst (v := 0) hx hb d_iPaper_58 (by decide) ?_
  refine va_put (D := D) (ci := 3) (v := .int 0) (ty := .int) (C := x_R3) (T := x_T3) (N := 9) hx hb hts x_lay3 x_ty3 x_tyk3 x_nm3 hown hK hP hD hS 0 rfl rfl 7 (by decide) (hts (.fieldLink x_R3 34 "BackColumns$Paper" "readers" "I") (x_in1 (List.mem_of_getElem? (i := 67) rfl) rfl)) (fun _ h9 => h9) rfl (by decide +kernel) rfl rfl (Nat.le_of_ble_eq_true rfl) d_iPaper_59 (fun H locs hP hD hS => ?_)
  have hP : va_P D x_cls [(h0, .inr (3, [.ref q1, .ref q3, .ref q5, .ref q7, .ref q9, .ref q11, .int 0, .int 0, .int 0])), (q1, .inl (cA2, 8, .inl (fun _ => 0))), (q3, .inl (cA4, 8, .inl (fun _ => 0))), (q5, .inl (cA6, 8, .inl (fun _ => 0))), (q7, .inl (cA8, 6, .inl (fun _ => 0))), (q9, .inl (cA10, 6, .inl (fun _ => 0))), (q11, .inl (cA12, 6, .inl (fun _ => 0)))] H := hP
  have hD : va_D A [(h0, .inr (3, [.ref q1, .ref q3, .ref q5, .ref q7, .ref q9, .ref q11, .int 0, .int 0, .int 0])), (q1, .inl (cA2, 8, .inl (fun _ => 0))), (q3, .inl (cA4, 8, .inl (fun _ => 0))), (q5, .inl (cA6, 8, .inl (fun _ => 0))), (q7, .inl (cA8, 6, .inl (fun _ => 0))), (q9, .inl (cA10, 6, .inl (fun _ => 0))), (q11, .inl (cA12, 6, .inl (fun _ => 0)))] := hD
  refine lv_aload_n hx hb d_iPaper_62 rfl (lv_at hl 0 rfl) ?_
  refine lv_iconst (v := 0) hx hb d_iPaper_63 (by decide) ?_
  refine va_put (D := D) (ci := 3) (v := .int 0) (ty := .int) (C := x_R3) (T := x_T3) (N := 9) hx hb hts x_lay3 x_ty3 x_tyk3 x_nm3 hown hK hP hD hS 0 rfl rfl 8 (by decide) (hts (.fieldLink x_R3 37 "BackColumns$Paper" "notices" "I") (x_in1 (List.mem_of_getElem? (i := 69) rfl) rfl)) (fun _ h9 => h9) rfl (by decide +kernel) rfl rfl (Nat.le_of_ble_eq_true rfl) d_iPaper_64 (fun H locs hP hD hS => ?_)
  have hP : va_P D x_cls [(h0, .inr (3, [.ref q1, .ref q3, .ref q5, .ref q7, .ref q9, .ref q11, .int 0, .int 0, .int 0])), (q1, .inl (cA2, 8, .inl (fun _ => 0))), (q3, .inl (cA4, 8, .inl (fun _ => 0))), (q5, .inl (cA6, 8, .inl (fun _ => 0))), (q7, .inl (cA8, 6, .inl (fun _ => 0))), (q9, .inl (cA10, 6, .inl (fun _ => 0))), (q11, .inl (cA12, 6, .inl (fun _ => 0)))] H := hP
  have hD : va_D A [(h0, .inr (3, [.ref q1, .ref q3, .ref q5, .ref q7, .ref q9, .ref q11, .int 0, .int 0, .int 0])), (q1, .inl (cA2, 8, .inl (fun _ => 0))), (q3, .inl (cA4, 8, .inl (fun _ => 0))), (q5, .inl (cA6, 8, .inl (fun _ => 0))), (q7, .inl (cA8, 6, .inl (fun _ => 0))), (q9, .inl (cA10, 6, .inl (fun _ => 0))), (q11, .inl (cA12, 6, .inl (fun _ => 0)))] := hD
  have hP9 := hP.sub (ws' := [(h0, .inr (3, [.ref q1, .ref q3, .ref q5, .ref q7, .ref q9, .ref q11, .int 0, .int 0, .int 0])), (q1, .inl (cA2, 8, .inl (fun _ => 0))), (q3, .inl (cA4, 8, .inl (fun _ => 0))), (q5, .inl (cA6, 8, .inl (fun _ => 0))), (q7, .inl (cA8, 6, .inl (fun _ => 0))), (q9, .inl (cA10, 6, .inl (fun _ => 0))), (q11, .inl (cA12, 6, .inl (fun _ => 0)))]) [0, 1, 2, 3, 4, 5, 6] rfl
  have hD9 := hD.sub (ws' := [(h0, .inr (3, [.ref q1, .ref q3, .ref q5, .ref q7, .ref q9, .ref q11, .int 0, .int 0, .int 0])), (q1, .inl (cA2, 8, .inl (fun _ => 0))), (q3, .inl (cA4, 8, .inl (fun _ => 0))), (q5, .inl (cA6, 8, .inl (fun _ => 0))), (q7, .inl (cA8, 6, .inl (fun _ => 0))), (q9, .inl (cA10, 6, .inl (fun _ => 0))), (q11, .inl (cA12, 6, .inl (fun _ => 0)))]) [0, 1, 2, 3, 4, 5, 6] (by decide) rfl
  have hK9 := hK.sub (tys' := [(cA2, .int), (cA4, .int), (cA6, .int), (cA8, .int), (cA10, .int), (cA12, .int)]) [0, 1, 2, 3, 4, 5] rfl
  exact W.vret hx hb hr (fun t ht hW => ⟨⟨(), rfl, trivial, q1, q3, q5, q7, q9, q11, cA2, cA4, cA6, cA8, cA10, cA12, by rw [ht]; exact hP9, va_K.moved hW.alike hK9, hD9⟩, hS.F ht⟩) hS.2.2 d_iPaper_67
def y_iHearsay : MethodName := ⟨x_R1, "<init>", "()V"⟩
theorem iHearsay_in : Cond.code y_iHearsay prog_3_method_1_code 1 none ∈ xT := x_in1 (List.mem_of_getElem? (i := 116) rfl) rfl
theorem d_iHearsay_0 : decode prog_3_method_1_code 0 = .ok (.aload_n 0, 1) := by decide +kernel
theorem d_iHearsay_1 : decode prog_3_method_1_code 1 = .ok (.invokespecial 3, 3) := by decide +kernel
theorem d_iHearsay_4 : decode prog_3_method_1_code 4 = .ok (.aload_n 0, 1) := by decide +kernel
theorem d_iHearsay_5 : decode prog_3_method_1_code 5 = .ok (.bipush 8, 2) := by decide +kernel
theorem d_iHearsay_7 : decode prog_3_method_1_code 7 = .ok (.newarray .int, 2) := by decide +kernel
theorem d_iHearsay_9 : decode prog_3_method_1_code 9 = .ok (.putfield 9, 3) := by decide +kernel
theorem d_iHearsay_12 : decode prog_3_method_1_code 12 = .ok (.aload_n 0, 1) := by decide +kernel
theorem d_iHearsay_13 : decode prog_3_method_1_code 13 = .ok (.bipush 8, 2) := by decide +kernel
theorem d_iHearsay_15 : decode prog_3_method_1_code 15 = .ok (.newarray .int, 2) := by decide +kernel
theorem d_iHearsay_17 : decode prog_3_method_1_code 17 = .ok (.putfield 15, 3) := by decide +kernel
theorem d_iHearsay_20 : decode prog_3_method_1_code 20 = .ok (.aload_n 0, 1) := by decide +kernel
theorem d_iHearsay_21 : decode prog_3_method_1_code 21 = .ok (.bipush 8, 2) := by decide +kernel
theorem d_iHearsay_23 : decode prog_3_method_1_code 23 = .ok (.newarray .int, 2) := by decide +kernel
theorem d_iHearsay_25 : decode prog_3_method_1_code 25 = .ok (.putfield 18, 3) := by decide +kernel
theorem d_iHearsay_28 : decode prog_3_method_1_code 28 = .ok (.aload_n 0, 1) := by decide +kernel
theorem d_iHearsay_29 : decode prog_3_method_1_code 29 = .ok (.iconst 0, 1) := by decide +kernel
theorem d_iHearsay_30 : decode prog_3_method_1_code 30 = .ok (.putfield 21, 3) := by decide +kernel
theorem d_iHearsay_33 : decode prog_3_method_1_code 33 = .ok (.return_, 1) := by decide +kernel
set_option maxHeartbeats 4000000 in
set_option maxRecDepth 100000 in
theorem c_iHearsay (l : Launch) (D : va_G) (h0 sz : Nat) : Met l y_iHearsay (Cond.code y_iHearsay prog_3_method_1_code 1 none :: xT) ({ frames := 1, cells := 3, slots := 24, locals := 30 }) (va_Pc [.ref h0] (fun U => U.heap.size = sz ∧ va_P D x_cls [(h0, .inr (1, [.null, .null, .null, .int 0]))] U.heap ∧ va_K D x_cls [] U ∧ va_D (fun _ => True) [(h0, .inr (1, [.null, .null, .null, .int 0]))])) (va_Qv (fun _ : Unit => True) (fun _ t => ∃ q1 q3 q5 : Nat, ∃ cA2 cA4 cA6 : ClassId, va_P D x_cls [(h0, .inr (1, [.ref q1, .ref q3, .ref q5, .int 0])), (q1, .inl (cA2, 8, .inl (fun _ => 0))), (q3, .inl (cA4, 8, .inl (fun _ => 0))), (q5, .inl (cA6, 8, .inl (fun _ => 0)))] t.heap ∧ va_K D x_cls [(cA2, .int), (cA4, .int), (cA6, .int)] t ∧ va_D (va_A [(h0, .inr (1, [.null, .null, .null, .int 0]))] sz) [(h0, .inr (1, [.ref q1, .ref q3, .ref q5, .int 0])), (q1, .inl (cA2, 8, .inl (fun _ => 0))), (q3, .inl (cA4, 8, .inl (fun _ => 0))), (q5, .inl (cA6, 8, .inl (fun _ => 0)))]) (va_A [(h0, .inr (1, [.null, .null, .null, .int 0]))] sz)) 3 24 (va_A [(h0, .inr (1, [.null, .null, .null, .int 0]))] sz) := by
  refine Met.ofW (cc := prog_3_method_1_code) (maxL := 1) (ret := none) (by decide) rfl ?_
  intro p e s m args below meth c s₁ B hml hv
  obtain ⟨rfl, hsz, hP, hK, hD0⟩ := hv
  have hx := B.exec
  have hb := B.bytes
  have hr := B.returns
  have hts0 := atoms_spec (ws := Cond.code y_iHearsay prog_3_method_1_code 1 none :: xT) B.pre
  have hts : ∀ w ∈ xT, w.before _ s = true := fun w hw => hts0 w (List.mem_cons_of_mem _ hw)
  have hown : s.vm.findClass x_R1 = some m.cls := findClass_of_methodNamed B.named
  have hlocks := B.notSynchronized
  have hin : meth.name = "<init>" := (name_of_methodNamed B.named B.method).1
  subst hsz
  have hD := hD0.self (sz := s.heap.size)
  generalize hAe : va_A [(h0, .inr (1, [.null, .null, .null, .int 0]))] s.heap.size = A at hD ⊢
  have hA : ∀ q : Nat, s.heap.size ≤ q → A q := fun q h => by rw [← hAe]; exact Or.inr h
  have hS : va_S A s.heap s.heap [] := va_S.rf
  have hP : va_P D x_cls [(h0, .inr (1, [.null, .null, .null, .int 0]))] s.heap := hP
  have hl := lv_entry ([.ref h0]) (n := 1) (Nat.le_of_ble_eq_true rfl)
  rw [lg_entry_eq]
  generalize (lg_sl ([.ref h0]) ++ List.replicate (1 - (lg_sl ([.ref h0])).length) Slot.unset).toArray = ls at hl ⊢
  have hl : lv_has ls 1 [(0, .ref h0)] := hl
  refine lv_aload_n hx hb d_iHearsay_0 rfl (lv_at hl 0 rfl) ?_
  refine W.objInit hx hb hown (hts (.methodLink x_R1 3 Lib.objectInit) (x_in1 (List.mem_of_getElem? (i := 117) rfl) rfl)) (hts (.instanceMethod Lib.objectInit) (x_in1 (List.mem_of_getElem? (i := 24) rfl) rfl)) (hts (.code Lib.objectInit ⟨#[0xb1]⟩ 1 none) (x_in1 (List.mem_of_getElem? (i := 25) rfl) rfl)) rfl (by rw [hml]; exact hl.1) rfl d_iHearsay_1 (Nat.le_of_ble_eq_true rfl) (Nat.le_of_ble_eq_true rfl) ?_
  refine W.eq (g2 := F0 m 4 ls []) rfl ?_
  refine lv_aload_n hx hb d_iHearsay_4 rfl (lv_at hl 0 rfl) ?_
  refine lv_bipush (v := 8) hx hb d_iHearsay_5 (by decide) ?_
  refine va_newa (atype := .int) (ty := .int) (a0 := (8, .inl (fun _ => 0))) hx hb (hts (.arrayClass .int) (x_in1 (List.mem_of_getElem? (i := 91) rfl) rfl)) rfl hK hP hD hS hA (fun _ => rfl) (by decide) (by decide) (by decide) (by decide) (by decide) d_iHearsay_7 (fun q1 cA2 H hK hP hD hS => ?_)
  have hP : va_P D x_cls [(h0, .inr (1, [.null, .null, .null, .int 0])), (q1, .inl (cA2, 8, .inl (fun _ => 0)))] H := hP
  have hD : va_D A [(h0, .inr (1, [.null, .null, .null, .int 0])), (q1, .inl (cA2, 8, .inl (fun _ => 0)))] := hD
  have hK : va_K D x_cls [(cA2, .int)] s := hK
  refine W.widen (k := 1) (n := 8) (by decide) (by decide) ?_
  refine va_putF (D := D) (ci := 1) (v := .ref q1) (ty := .array .int) (C := x_R1) (T := x_T1) (N := 4) hx hb hts x_lay1 x_ty1 x_tyk1 x_nm1 hown hK hP hD hS 0 rfl rfl 0 (by decide) (hts (.fieldLink x_R1 9 "BackColumns$Hearsay" "who" "[I") (x_in1 (List.mem_of_getElem? (i := 118) rfl) rfl)) (fun _ h9 => h9) rfl hin rfl (by decide +kernel) rfl rfl (Nat.le_of_ble_eq_true rfl) d_iHearsay_9 (fun H locs hP hD hS => ?_)
  have hP : va_P D x_cls [(h0, .inr (1, [.ref q1, .null, .null, .int 0])), (q1, .inl (cA2, 8, .inl (fun _ => 0)))] H := hP
  have hD : va_D A [(h0, .inr (1, [.ref q1, .null, .null, .int 0])), (q1, .inl (cA2, 8, .inl (fun _ => 0)))] := hD
  refine lv_aload_n hx hb d_iHearsay_12 rfl (lv_at hl 0 rfl) ?_
  refine lv_bipush (v := 8) hx hb d_iHearsay_13 (by decide) ?_
  refine va_newa (atype := .int) (ty := .int) (a0 := (8, .inl (fun _ => 0))) hx hb (hts (.arrayClass .int) (x_in1 (List.mem_of_getElem? (i := 91) rfl) rfl)) rfl hK hP hD hS hA (fun _ => rfl) (by decide) (by decide) (by decide) (by decide) (by decide) d_iHearsay_15 (fun q3 cA4 H hK hP hD hS => ?_)
  have hP : va_P D x_cls [(h0, .inr (1, [.ref q1, .null, .null, .int 0])), (q1, .inl (cA2, 8, .inl (fun _ => 0))), (q3, .inl (cA4, 8, .inl (fun _ => 0)))] H := hP
  have hD : va_D A [(h0, .inr (1, [.ref q1, .null, .null, .int 0])), (q1, .inl (cA2, 8, .inl (fun _ => 0))), (q3, .inl (cA4, 8, .inl (fun _ => 0)))] := hD
  have hK : va_K D x_cls [(cA2, .int), (cA4, .int)] s := hK
  refine W.widen (k := 2) (n := 16) (by decide) (by decide) ?_
  refine va_putF (D := D) (ci := 1) (v := .ref q3) (ty := .array .int) (C := x_R1) (T := x_T1) (N := 4) hx hb hts x_lay1 x_ty1 x_tyk1 x_nm1 hown hK hP hD hS 0 rfl rfl 1 (by decide) (hts (.fieldLink x_R1 15 "BackColumns$Hearsay" "code" "[I") (x_in1 (List.mem_of_getElem? (i := 119) rfl) rfl)) (fun _ h9 => h9) rfl hin rfl (by decide +kernel) rfl rfl (Nat.le_of_ble_eq_true rfl) d_iHearsay_17 (fun H locs hP hD hS => ?_)
  have hP : va_P D x_cls [(h0, .inr (1, [.ref q1, .ref q3, .null, .int 0])), (q1, .inl (cA2, 8, .inl (fun _ => 0))), (q3, .inl (cA4, 8, .inl (fun _ => 0)))] H := hP
  have hD : va_D A [(h0, .inr (1, [.ref q1, .ref q3, .null, .int 0])), (q1, .inl (cA2, 8, .inl (fun _ => 0))), (q3, .inl (cA4, 8, .inl (fun _ => 0)))] := hD
  refine lv_aload_n hx hb d_iHearsay_20 rfl (lv_at hl 0 rfl) ?_
  refine lv_bipush (v := 8) hx hb d_iHearsay_21 (by decide) ?_
  refine va_newa (atype := .int) (ty := .int) (a0 := (8, .inl (fun _ => 0))) hx hb (hts (.arrayClass .int) (x_in1 (List.mem_of_getElem? (i := 91) rfl) rfl)) rfl hK hP hD hS hA (fun _ => rfl) (by decide) (by decide) (by decide) (by decide) (by decide) d_iHearsay_23 (fun q5 cA6 H hK hP hD hS => ?_)
  have hP : va_P D x_cls [(h0, .inr (1, [.ref q1, .ref q3, .null, .int 0])), (q1, .inl (cA2, 8, .inl (fun _ => 0))), (q3, .inl (cA4, 8, .inl (fun _ => 0))), (q5, .inl (cA6, 8, .inl (fun _ => 0)))] H := hP
  have hD : va_D A [(h0, .inr (1, [.ref q1, .ref q3, .null, .int 0])), (q1, .inl (cA2, 8, .inl (fun _ => 0))), (q3, .inl (cA4, 8, .inl (fun _ => 0))), (q5, .inl (cA6, 8, .inl (fun _ => 0)))] := hD
  have hK : va_K D x_cls [(cA2, .int), (cA4, .int), (cA6, .int)] s := hK
  refine W.widen (k := 3) (n := 24) (by decide) (by decide) ?_
  refine va_putF (D := D) (ci := 1) (v := .ref q5) (ty := .array .int) (C := x_R1) (T := x_T1) (N := 4) hx hb hts x_lay1 x_ty1 x_tyk1 x_nm1 hown hK hP hD hS 0 rfl rfl 2 (by decide) (hts (.fieldLink x_R1 18 "BackColumns$Hearsay" "answered" "[I") (x_in1 (List.mem_of_getElem? (i := 120) rfl) rfl)) (fun _ h9 => h9) rfl hin rfl (by decide +kernel) rfl rfl (Nat.le_of_ble_eq_true rfl) d_iHearsay_25 (fun H locs hP hD hS => ?_)
  have hP : va_P D x_cls [(h0, .inr (1, [.ref q1, .ref q3, .ref q5, .int 0])), (q1, .inl (cA2, 8, .inl (fun _ => 0))), (q3, .inl (cA4, 8, .inl (fun _ => 0))), (q5, .inl (cA6, 8, .inl (fun _ => 0)))] H := hP
  have hD : va_D A [(h0, .inr (1, [.ref q1, .ref q3, .ref q5, .int 0])), (q1, .inl (cA2, 8, .inl (fun _ => 0))), (q3, .inl (cA4, 8, .inl (fun _ => 0))), (q5, .inl (cA6, 8, .inl (fun _ => 0)))] := hD
  refine lv_aload_n hx hb d_iHearsay_28 rfl (lv_at hl 0 rfl) ?_
  refine lv_iconst (v := 0) hx hb d_iHearsay_29 (by decide) ?_
  refine va_put (D := D) (ci := 1) (v := .int 0) (ty := .int) (C := x_R1) (T := x_T1) (N := 4) hx hb hts x_lay1 x_ty1 x_tyk1 x_nm1 hown hK hP hD hS 0 rfl rfl 3 (by decide) (hts (.fieldLink x_R1 21 "BackColumns$Hearsay" "size" "I") (x_in1 (List.mem_of_getElem? (i := 121) rfl) rfl)) (fun _ h9 => h9) rfl (by decide +kernel) rfl rfl (Nat.le_of_ble_eq_true rfl) d_iHearsay_30 (fun H locs hP hD hS => ?_)
  have hP : va_P D x_cls [(h0, .inr (1, [.ref q1, .ref q3, .ref q5, .int 0])), (q1, .inl (cA2, 8, .inl (fun _ => 0))), (q3, .inl (cA4, 8, .inl (fun _ => 0))), (q5, .inl (cA6, 8, .inl (fun _ => 0)))] H := hP
  have hD : va_D A [(h0, .inr (1, [.ref q1, .ref q3, .ref q5, .int 0])), (q1, .inl (cA2, 8, .inl (fun _ => 0))), (q3, .inl (cA4, 8, .inl (fun _ => 0))), (q5, .inl (cA6, 8, .inl (fun _ => 0)))] := hD
  have hP9 := hP.sub (ws' := [(h0, .inr (1, [.ref q1, .ref q3, .ref q5, .int 0])), (q1, .inl (cA2, 8, .inl (fun _ => 0))), (q3, .inl (cA4, 8, .inl (fun _ => 0))), (q5, .inl (cA6, 8, .inl (fun _ => 0)))]) [0, 1, 2, 3] rfl
  have hD9 := hD.sub (ws' := [(h0, .inr (1, [.ref q1, .ref q3, .ref q5, .int 0])), (q1, .inl (cA2, 8, .inl (fun _ => 0))), (q3, .inl (cA4, 8, .inl (fun _ => 0))), (q5, .inl (cA6, 8, .inl (fun _ => 0)))]) [0, 1, 2, 3] (by decide) rfl
  have hK9 := hK.sub (tys' := [(cA2, .int), (cA4, .int), (cA6, .int)]) [0, 1, 2] rfl
  exact W.vret hx hb hr (fun t ht hW => ⟨⟨(), rfl, trivial, q1, q3, q5, cA2, cA4, cA6, by rw [ht]; exact hP9, va_K.moved hW.alike hK9, hD9⟩, hS.F ht⟩) hS.2.2 d_iHearsay_33
def y_iReading : MethodName := ⟨x_R4, "<init>", "()V"⟩
theorem iReading_in : Cond.code y_iReading prog_6_method_1_code 1 none ∈ xT := x_in1 (List.mem_of_getElem? (i := 136) rfl) rfl
theorem d_iReading_0 : decode prog_6_method_1_code 0 = .ok (.aload_n 0, 1) := by decide +kernel
theorem d_iReading_1 : decode prog_6_method_1_code 1 = .ok (.invokespecial 3, 3) := by decide +kernel
theorem d_iReading_4 : decode prog_6_method_1_code 4 = .ok (.aload_n 0, 1) := by decide +kernel
theorem d_iReading_5 : decode prog_6_method_1_code 5 = .ok (.iconst 0, 1) := by decide +kernel
theorem d_iReading_6 : decode prog_6_method_1_code 6 = .ok (.putfield 9, 3) := by decide +kernel
theorem d_iReading_9 : decode prog_6_method_1_code 9 = .ok (.aload_n 0, 1) := by decide +kernel
theorem d_iReading_10 : decode prog_6_method_1_code 10 = .ok (.iconst 0, 1) := by decide +kernel
theorem d_iReading_11 : decode prog_6_method_1_code 11 = .ok (.putfield 15, 3) := by decide +kernel
theorem d_iReading_14 : decode prog_6_method_1_code 14 = .ok (.aload_n 0, 1) := by decide +kernel
theorem d_iReading_15 : decode prog_6_method_1_code 15 = .ok (.iconst 0, 1) := by decide +kernel
theorem d_iReading_16 : decode prog_6_method_1_code 16 = .ok (.putfield 18, 3) := by decide +kernel
theorem d_iReading_19 : decode prog_6_method_1_code 19 = .ok (.aload_n 0, 1) := by decide +kernel
theorem d_iReading_20 : decode prog_6_method_1_code 20 = .ok (.iconst 0, 1) := by decide +kernel
theorem d_iReading_21 : decode prog_6_method_1_code 21 = .ok (.putfield 21, 3) := by decide +kernel
theorem d_iReading_24 : decode prog_6_method_1_code 24 = .ok (.aload_n 0, 1) := by decide +kernel
theorem d_iReading_25 : decode prog_6_method_1_code 25 = .ok (.iconst 0, 1) := by decide +kernel
theorem d_iReading_26 : decode prog_6_method_1_code 26 = .ok (.putfield 24, 3) := by decide +kernel
theorem d_iReading_29 : decode prog_6_method_1_code 29 = .ok (.aload_n 0, 1) := by decide +kernel
theorem d_iReading_30 : decode prog_6_method_1_code 30 = .ok (.iconst 0, 1) := by decide +kernel
theorem d_iReading_31 : decode prog_6_method_1_code 31 = .ok (.putfield 27, 3) := by decide +kernel
theorem d_iReading_34 : decode prog_6_method_1_code 34 = .ok (.aload_n 0, 1) := by decide +kernel
theorem d_iReading_35 : decode prog_6_method_1_code 35 = .ok (.iconst 0, 1) := by decide +kernel
theorem d_iReading_36 : decode prog_6_method_1_code 36 = .ok (.putfield 30, 3) := by decide +kernel
theorem d_iReading_39 : decode prog_6_method_1_code 39 = .ok (.return_, 1) := by decide +kernel
set_option maxHeartbeats 4000000 in
set_option maxRecDepth 100000 in
theorem c_iReading (l : Launch) (D : va_G) (h0 sz : Nat) : Met l y_iReading (Cond.code y_iReading prog_6_method_1_code 1 none :: xT) ({ frames := 1, cells := 0, slots := 0, locals := 30 }) (va_Pc [.ref h0] (fun U => U.heap.size = sz ∧ va_P D x_cls [(h0, .inr (4, [.int 0, .int 0, .int 0, .int 0, .int 0, .int 0, .int 0]))] U.heap ∧ va_K D x_cls [] U ∧ va_D (fun _ => True) [(h0, .inr (4, [.int 0, .int 0, .int 0, .int 0, .int 0, .int 0, .int 0]))])) (va_Qv (fun _ : Unit => True) (fun _ t => va_P D x_cls [(h0, .inr (4, [.int 0, .int 0, .int 0, .int 0, .int 0, .int 0, .int 0]))] t.heap ∧ va_K D x_cls [] t ∧ va_D (va_A [(h0, .inr (4, [.int 0, .int 0, .int 0, .int 0, .int 0, .int 0, .int 0]))] sz) [(h0, .inr (4, [.int 0, .int 0, .int 0, .int 0, .int 0, .int 0, .int 0]))]) (va_A [(h0, .inr (4, [.int 0, .int 0, .int 0, .int 0, .int 0, .int 0, .int 0]))] sz)) 0 0 (va_A [(h0, .inr (4, [.int 0, .int 0, .int 0, .int 0, .int 0, .int 0, .int 0]))] sz) := by
  refine Met.ofW (cc := prog_6_method_1_code) (maxL := 1) (ret := none) (by decide) rfl ?_
  intro p e s m args below meth c s₁ B hml hv
  obtain ⟨rfl, hsz, hP, hK, hD0⟩ := hv
  have hx := B.exec
  have hb := B.bytes
  have hr := B.returns
  have hts0 := atoms_spec (ws := Cond.code y_iReading prog_6_method_1_code 1 none :: xT) B.pre
  have hts : ∀ w ∈ xT, w.before _ s = true := fun w hw => hts0 w (List.mem_cons_of_mem _ hw)
  have hown : s.vm.findClass x_R4 = some m.cls := findClass_of_methodNamed B.named
  have hlocks := B.notSynchronized
  have hin : meth.name = "<init>" := (name_of_methodNamed B.named B.method).1
  subst hsz
  have hD := hD0.self (sz := s.heap.size)
  generalize hAe : va_A [(h0, .inr (4, [.int 0, .int 0, .int 0, .int 0, .int 0, .int 0, .int 0]))] s.heap.size = A at hD ⊢
  have hA : ∀ q : Nat, s.heap.size ≤ q → A q := fun q h => by rw [← hAe]; exact Or.inr h
  have hS : va_S A s.heap s.heap [] := va_S.rf
  have hP : va_P D x_cls [(h0, .inr (4, [.int 0, .int 0, .int 0, .int 0, .int 0, .int 0, .int 0]))] s.heap := hP
  have hl := lv_entry ([.ref h0]) (n := 1) (Nat.le_of_ble_eq_true rfl)
  rw [lg_entry_eq]
  generalize (lg_sl ([.ref h0]) ++ List.replicate (1 - (lg_sl ([.ref h0])).length) Slot.unset).toArray = ls at hl ⊢
  have hl : lv_has ls 1 [(0, .ref h0)] := hl
  refine lv_aload_n hx hb d_iReading_0 rfl (lv_at hl 0 rfl) ?_
  refine W.objInit hx hb hown (hts (.methodLink x_R4 3 Lib.objectInit) (x_in1 (List.mem_of_getElem? (i := 137) rfl) rfl)) (hts (.instanceMethod Lib.objectInit) (x_in1 (List.mem_of_getElem? (i := 24) rfl) rfl)) (hts (.code Lib.objectInit ⟨#[0xb1]⟩ 1 none) (x_in1 (List.mem_of_getElem? (i := 25) rfl) rfl)) rfl (by rw [hml]; exact hl.1) rfl d_iReading_1 (Nat.le_of_ble_eq_true rfl) (Nat.le_of_ble_eq_true rfl) ?_
  refine W.eq (g2 := F0 m 4 ls []) rfl ?_
  refine lv_aload_n hx hb d_iReading_4 rfl (lv_at hl 0 rfl) ?_
  refine lv_iconst (v := 0) hx hb d_iReading_5 (by decide) ?_
  refine va_put (D := D) (ci := 4) (v := .int 0) (ty := .int) (C := x_R4) (T := x_T4) (N := 7) hx hb hts x_lay4 x_ty4 x_tyk4 x_nm4 hown hK hP hD hS 0 rfl rfl 0 (by decide) (hts (.fieldLink x_R4 9 "BackColumns$Reading" "code" "I") (x_in1 (List.mem_of_getElem? (i := 138) rfl) rfl)) (fun _ h9 => h9) rfl (by decide +kernel) rfl rfl (Nat.le_of_ble_eq_true rfl) d_iReading_6 (fun H locs hP hD hS => ?_)
  have hP : va_P D x_cls [(h0, .inr (4, [.int 0, .int 0, .int 0, .int 0, .int 0, .int 0, .int 0]))] H := hP
  have hD : va_D A [(h0, .inr (4, [.int 0, .int 0, .int 0, .int 0, .int 0, .int 0, .int 0]))] := hD
  refine lv_aload_n hx hb d_iReading_9 rfl (lv_at hl 0 rfl) ?_
  refine lv_iconst (v := 0) hx hb d_iReading_10 (by decide) ?_
  refine va_put (D := D) (ci := 4) (v := .int 0) (ty := .int) (C := x_R4) (T := x_T4) (N := 7) hx hb hts x_lay4 x_ty4 x_tyk4 x_nm4 hown hK hP hD hS 0 rfl rfl 1 (by decide) (hts (.fieldLink x_R4 15 "BackColumns$Reading" "length" "I") (x_in1 (List.mem_of_getElem? (i := 141) rfl) rfl)) (fun _ h9 => h9) rfl (by decide +kernel) rfl rfl (Nat.le_of_ble_eq_true rfl) d_iReading_11 (fun H locs hP hD hS => ?_)
  have hP : va_P D x_cls [(h0, .inr (4, [.int 0, .int 0, .int 0, .int 0, .int 0, .int 0, .int 0]))] H := hP
  have hD : va_D A [(h0, .inr (4, [.int 0, .int 0, .int 0, .int 0, .int 0, .int 0, .int 0]))] := hD
  refine lv_aload_n hx hb d_iReading_14 rfl (lv_at hl 0 rfl) ?_
  refine lv_iconst (v := 0) hx hb d_iReading_15 (by decide) ?_
  refine va_put (D := D) (ci := 4) (v := .int 0) (ty := .int) (C := x_R4) (T := x_T4) (N := 7) hx hb hts x_lay4 x_ty4 x_tyk4 x_nm4 hown hK hP hD hS 0 rfl rfl 2 (by decide) (hts (.fieldLink x_R4 18 "BackColumns$Reading" "cost" "I") (x_in1 (List.mem_of_getElem? (i := 143) rfl) rfl)) (fun _ h9 => h9) rfl (by decide +kernel) rfl rfl (Nat.le_of_ble_eq_true rfl) d_iReading_16 (fun H locs hP hD hS => ?_)
  have hP : va_P D x_cls [(h0, .inr (4, [.int 0, .int 0, .int 0, .int 0, .int 0, .int 0, .int 0]))] H := hP
  have hD : va_D A [(h0, .inr (4, [.int 0, .int 0, .int 0, .int 0, .int 0, .int 0, .int 0]))] := hD
  refine lv_aload_n hx hb d_iReading_19 rfl (lv_at hl 0 rfl) ?_
  refine lv_iconst (v := 0) hx hb d_iReading_20 (by decide) ?_
  refine va_put (D := D) (ci := 4) (v := .int 0) (ty := .int) (C := x_R4) (T := x_T4) (N := 7) hx hb hts x_lay4 x_ty4 x_tyk4 x_nm4 hown hK hP hD hS 0 rfl rfl 3 (by decide) (hts (.fieldLink x_R4 21 "BackColumns$Reading" "seen" "I") (x_in1 (List.mem_of_getElem? (i := 146) rfl) rfl)) (fun _ h9 => h9) rfl (by decide +kernel) rfl rfl (Nat.le_of_ble_eq_true rfl) d_iReading_21 (fun H locs hP hD hS => ?_)
  have hP : va_P D x_cls [(h0, .inr (4, [.int 0, .int 0, .int 0, .int 0, .int 0, .int 0, .int 0]))] H := hP
  have hD : va_D A [(h0, .inr (4, [.int 0, .int 0, .int 0, .int 0, .int 0, .int 0, .int 0]))] := hD
  refine lv_aload_n hx hb d_iReading_24 rfl (lv_at hl 0 rfl) ?_
  refine lv_iconst (v := 0) hx hb d_iReading_25 (by decide) ?_
  refine va_put (D := D) (ci := 4) (v := .int 0) (ty := .int) (C := x_R4) (T := x_T4) (N := 7) hx hb hts x_lay4 x_ty4 x_tyk4 x_nm4 hown hK hP hD hS 0 rfl rfl 4 (by decide) (hts (.fieldLink x_R4 24 "BackColumns$Reading" "plain" "I") (x_in1 (List.mem_of_getElem? (i := 148) rfl) rfl)) (fun _ h9 => h9) rfl (by decide +kernel) rfl rfl (Nat.le_of_ble_eq_true rfl) d_iReading_26 (fun H locs hP hD hS => ?_)
  have hP : va_P D x_cls [(h0, .inr (4, [.int 0, .int 0, .int 0, .int 0, .int 0, .int 0, .int 0]))] H := hP
  have hD : va_D A [(h0, .inr (4, [.int 0, .int 0, .int 0, .int 0, .int 0, .int 0, .int 0]))] := hD
  refine lv_aload_n hx hb d_iReading_29 rfl (lv_at hl 0 rfl) ?_
  refine lv_iconst (v := 0) hx hb d_iReading_30 (by decide) ?_
  refine va_put (D := D) (ci := 4) (v := .int 0) (ty := .int) (C := x_R4) (T := x_T4) (N := 7) hx hb hts x_lay4 x_ty4 x_tyk4 x_nm4 hown hK hP hD hS 0 rfl rfl 5 (by decide) (hts (.fieldLink x_R4 27 "BackColumns$Reading" "knowing" "I") (x_in1 (List.mem_of_getElem? (i := 149) rfl) rfl)) (fun _ h9 => h9) rfl (by decide +kernel) rfl rfl (Nat.le_of_ble_eq_true rfl) d_iReading_31 (fun H locs hP hD hS => ?_)
  have hP : va_P D x_cls [(h0, .inr (4, [.int 0, .int 0, .int 0, .int 0, .int 0, .int 0, .int 0]))] H := hP
  have hD : va_D A [(h0, .inr (4, [.int 0, .int 0, .int 0, .int 0, .int 0, .int 0, .int 0]))] := hD
  refine lv_aload_n hx hb d_iReading_34 rfl (lv_at hl 0 rfl) ?_
  refine lv_iconst (v := 0) hx hb d_iReading_35 (by decide) ?_
  refine va_put (D := D) (ci := 4) (v := .int 0) (ty := .int) (C := x_R4) (T := x_T4) (N := 7) hx hb hts x_lay4 x_ty4 x_tyk4 x_nm4 hown hK hP hD hS 0 rfl rfl 6 (by decide) (hts (.fieldLink x_R4 30 "BackColumns$Reading" "fond" "I") (x_in1 (List.mem_of_getElem? (i := 150) rfl) rfl)) (fun _ h9 => h9) rfl (by decide +kernel) rfl rfl (Nat.le_of_ble_eq_true rfl) d_iReading_36 (fun H locs hP hD hS => ?_)
  have hP : va_P D x_cls [(h0, .inr (4, [.int 0, .int 0, .int 0, .int 0, .int 0, .int 0, .int 0]))] H := hP
  have hD : va_D A [(h0, .inr (4, [.int 0, .int 0, .int 0, .int 0, .int 0, .int 0, .int 0]))] := hD
  have hP9 := hP.sub (ws' := [(h0, .inr (4, [.int 0, .int 0, .int 0, .int 0, .int 0, .int 0, .int 0]))]) [0] rfl
  have hD9 := hD.sub (ws' := [(h0, .inr (4, [.int 0, .int 0, .int 0, .int 0, .int 0, .int 0, .int 0]))]) [0] (by decide) rfl
  have hK9 := hK.sub (tys' := []) [] rfl
  exact W.vret hx hb hr (fun t ht hW => ⟨⟨(), rfl, trivial, by rw [ht]; exact hP9, va_K.moved hW.alike hK9, hD9⟩, hS.F ht⟩) hS.2.2 d_iReading_39
def y_iMatching : MethodName := ⟨x_R2, "<init>", "()V"⟩
theorem iMatching_in : Cond.code y_iMatching prog_4_method_1_code 1 none ∈ xT := x_in1 (List.mem_of_getElem? (i := 194) rfl) rfl
theorem d_iMatching_0 : decode prog_4_method_1_code 0 = .ok (.aload_n 0, 1) := by decide +kernel
theorem d_iMatching_1 : decode prog_4_method_1_code 1 = .ok (.invokespecial 3, 3) := by decide +kernel
theorem d_iMatching_4 : decode prog_4_method_1_code 4 = .ok (.aload_n 0, 1) := by decide +kernel
theorem d_iMatching_5 : decode prog_4_method_1_code 5 = .ok (.bipush 6, 2) := by decide +kernel
theorem d_iMatching_7 : decode prog_4_method_1_code 7 = .ok (.newarray .int, 2) := by decide +kernel
theorem d_iMatching_9 : decode prog_4_method_1_code 9 = .ok (.putfield 9, 3) := by decide +kernel
theorem d_iMatching_12 : decode prog_4_method_1_code 12 = .ok (.aload_n 0, 1) := by decide +kernel
theorem d_iMatching_13 : decode prog_4_method_1_code 13 = .ok (.bipush 6, 2) := by decide +kernel
theorem d_iMatching_15 : decode prog_4_method_1_code 15 = .ok (.newarray .int, 2) := by decide +kernel
theorem d_iMatching_17 : decode prog_4_method_1_code 17 = .ok (.putfield 15, 3) := by decide +kernel
theorem d_iMatching_20 : decode prog_4_method_1_code 20 = .ok (.aload_n 0, 1) := by decide +kernel
theorem d_iMatching_21 : decode prog_4_method_1_code 21 = .ok (.sipush 448, 3) := by decide +kernel
theorem d_iMatching_24 : decode prog_4_method_1_code 24 = .ok (.newarray .int, 2) := by decide +kernel
theorem d_iMatching_26 : decode prog_4_method_1_code 26 = .ok (.putfield 18, 3) := by decide +kernel
theorem d_iMatching_29 : decode prog_4_method_1_code 29 = .ok (.return_, 1) := by decide +kernel
set_option maxHeartbeats 4000000 in
set_option maxRecDepth 100000 in
theorem c_iMatching (l : Launch) (D : va_G) (h0 sz : Nat) : Met l y_iMatching (Cond.code y_iMatching prog_4_method_1_code 1 none :: xT) ({ frames := 1, cells := 3, slots := 460, locals := 30 }) (va_Pc [.ref h0] (fun U => U.heap.size = sz ∧ va_P D x_cls [(h0, .inr (2, [.null, .null, .null]))] U.heap ∧ va_K D x_cls [] U ∧ va_D (fun _ => True) [(h0, .inr (2, [.null, .null, .null]))])) (va_Qv (fun _ : Unit => True) (fun _ t => ∃ q1 q3 q5 : Nat, ∃ cA2 cA4 cA6 : ClassId, va_P D x_cls [(h0, .inr (2, [.ref q1, .ref q3, .ref q5])), (q1, .inl (cA2, 6, .inl (fun _ => 0))), (q3, .inl (cA4, 6, .inl (fun _ => 0))), (q5, .inl (cA6, 448, .inl (fun _ => 0)))] t.heap ∧ va_K D x_cls [(cA2, .int), (cA4, .int), (cA6, .int)] t ∧ va_D (va_A [(h0, .inr (2, [.null, .null, .null]))] sz) [(h0, .inr (2, [.ref q1, .ref q3, .ref q5])), (q1, .inl (cA2, 6, .inl (fun _ => 0))), (q3, .inl (cA4, 6, .inl (fun _ => 0))), (q5, .inl (cA6, 448, .inl (fun _ => 0)))]) (va_A [(h0, .inr (2, [.null, .null, .null]))] sz)) 3 460 (va_A [(h0, .inr (2, [.null, .null, .null]))] sz) := by
  refine Met.ofW (cc := prog_4_method_1_code) (maxL := 1) (ret := none) (by decide) rfl ?_
  intro p e s m args below meth c s₁ B hml hv
  obtain ⟨rfl, hsz, hP, hK, hD0⟩ := hv
  have hx := B.exec
  have hb := B.bytes
  have hr := B.returns
  have hts0 := atoms_spec (ws := Cond.code y_iMatching prog_4_method_1_code 1 none :: xT) B.pre
  have hts : ∀ w ∈ xT, w.before _ s = true := fun w hw => hts0 w (List.mem_cons_of_mem _ hw)
  have hown : s.vm.findClass x_R2 = some m.cls := findClass_of_methodNamed B.named
  have hlocks := B.notSynchronized
  have hin : meth.name = "<init>" := (name_of_methodNamed B.named B.method).1
  subst hsz
  have hD := hD0.self (sz := s.heap.size)
  generalize hAe : va_A [(h0, .inr (2, [.null, .null, .null]))] s.heap.size = A at hD ⊢
  have hA : ∀ q : Nat, s.heap.size ≤ q → A q := fun q h => by rw [← hAe]; exact Or.inr h
  have hS : va_S A s.heap s.heap [] := va_S.rf
  have hP : va_P D x_cls [(h0, .inr (2, [.null, .null, .null]))] s.heap := hP
  have hl := lv_entry ([.ref h0]) (n := 1) (Nat.le_of_ble_eq_true rfl)
  rw [lg_entry_eq]
  generalize (lg_sl ([.ref h0]) ++ List.replicate (1 - (lg_sl ([.ref h0])).length) Slot.unset).toArray = ls at hl ⊢
  have hl : lv_has ls 1 [(0, .ref h0)] := hl
  refine lv_aload_n hx hb d_iMatching_0 rfl (lv_at hl 0 rfl) ?_
  refine W.objInit hx hb hown (hts (.methodLink x_R2 3 Lib.objectInit) (x_in1 (List.mem_of_getElem? (i := 195) rfl) rfl)) (hts (.instanceMethod Lib.objectInit) (x_in1 (List.mem_of_getElem? (i := 24) rfl) rfl)) (hts (.code Lib.objectInit ⟨#[0xb1]⟩ 1 none) (x_in1 (List.mem_of_getElem? (i := 25) rfl) rfl)) rfl (by rw [hml]; exact hl.1) rfl d_iMatching_1 (Nat.le_of_ble_eq_true rfl) (Nat.le_of_ble_eq_true rfl) ?_
  refine W.eq (g2 := F0 m 4 ls []) rfl ?_
  refine lv_aload_n hx hb d_iMatching_4 rfl (lv_at hl 0 rfl) ?_
  refine lv_bipush (v := 6) hx hb d_iMatching_5 (by decide) ?_
  refine va_newa (atype := .int) (ty := .int) (a0 := (6, .inl (fun _ => 0))) hx hb (hts (.arrayClass .int) (x_in1 (List.mem_of_getElem? (i := 91) rfl) rfl)) rfl hK hP hD hS hA (fun _ => rfl) (by decide) (by decide) (by decide) (by decide) (by decide) d_iMatching_7 (fun q1 cA2 H hK hP hD hS => ?_)
  have hP : va_P D x_cls [(h0, .inr (2, [.null, .null, .null])), (q1, .inl (cA2, 6, .inl (fun _ => 0)))] H := hP
  have hD : va_D A [(h0, .inr (2, [.null, .null, .null])), (q1, .inl (cA2, 6, .inl (fun _ => 0)))] := hD
  have hK : va_K D x_cls [(cA2, .int)] s := hK
  refine W.widen (k := 1) (n := 6) (by decide) (by decide) ?_
  refine va_putF (D := D) (ci := 2) (v := .ref q1) (ty := .array .int) (C := x_R2) (T := x_T2) (N := 3) hx hb hts x_lay2 x_ty2 x_tyk2 x_nm2 hown hK hP hD hS 0 rfl rfl 0 (by decide) (hts (.fieldLink x_R2 9 "BackColumns$Matching" "answered" "[I") (x_in1 (List.mem_of_getElem? (i := 196) rfl) rfl)) (fun _ h9 => h9) rfl hin rfl (by decide +kernel) rfl rfl (Nat.le_of_ble_eq_true rfl) d_iMatching_9 (fun H locs hP hD hS => ?_)
  have hP : va_P D x_cls [(h0, .inr (2, [.ref q1, .null, .null])), (q1, .inl (cA2, 6, .inl (fun _ => 0)))] H := hP
  have hD : va_D A [(h0, .inr (2, [.ref q1, .null, .null])), (q1, .inl (cA2, 6, .inl (fun _ => 0)))] := hD
  refine lv_aload_n hx hb d_iMatching_12 rfl (lv_at hl 0 rfl) ?_
  refine lv_bipush (v := 6) hx hb d_iMatching_13 (by decide) ?_
  refine va_newa (atype := .int) (ty := .int) (a0 := (6, .inl (fun _ => 0))) hx hb (hts (.arrayClass .int) (x_in1 (List.mem_of_getElem? (i := 91) rfl) rfl)) rfl hK hP hD hS hA (fun _ => rfl) (by decide) (by decide) (by decide) (by decide) (by decide) d_iMatching_15 (fun q3 cA4 H hK hP hD hS => ?_)
  have hP : va_P D x_cls [(h0, .inr (2, [.ref q1, .null, .null])), (q1, .inl (cA2, 6, .inl (fun _ => 0))), (q3, .inl (cA4, 6, .inl (fun _ => 0)))] H := hP
  have hD : va_D A [(h0, .inr (2, [.ref q1, .null, .null])), (q1, .inl (cA2, 6, .inl (fun _ => 0))), (q3, .inl (cA4, 6, .inl (fun _ => 0)))] := hD
  have hK : va_K D x_cls [(cA2, .int), (cA4, .int)] s := hK
  refine W.widen (k := 2) (n := 12) (by decide) (by decide) ?_
  refine va_putF (D := D) (ci := 2) (v := .ref q3) (ty := .array .int) (C := x_R2) (T := x_T2) (N := 3) hx hb hts x_lay2 x_ty2 x_tyk2 x_nm2 hown hK hP hD hS 0 rfl rfl 1 (by decide) (hts (.fieldLink x_R2 15 "BackColumns$Matching" "owner" "[I") (x_in1 (List.mem_of_getElem? (i := 198) rfl) rfl)) (fun _ h9 => h9) rfl hin rfl (by decide +kernel) rfl rfl (Nat.le_of_ble_eq_true rfl) d_iMatching_17 (fun H locs hP hD hS => ?_)
  have hP : va_P D x_cls [(h0, .inr (2, [.ref q1, .ref q3, .null])), (q1, .inl (cA2, 6, .inl (fun _ => 0))), (q3, .inl (cA4, 6, .inl (fun _ => 0)))] H := hP
  have hD : va_D A [(h0, .inr (2, [.ref q1, .ref q3, .null])), (q1, .inl (cA2, 6, .inl (fun _ => 0))), (q3, .inl (cA4, 6, .inl (fun _ => 0)))] := hD
  refine lv_aload_n hx hb d_iMatching_20 rfl (lv_at hl 0 rfl) ?_
  refine lv_sipush (v := 448) hx hb d_iMatching_21 (by decide) ?_
  refine va_newa (atype := .int) (ty := .int) (a0 := (448, .inl (fun _ => 0))) hx hb (hts (.arrayClass .int) (x_in1 (List.mem_of_getElem? (i := 91) rfl) rfl)) rfl hK hP hD hS hA (fun _ => rfl) (by decide) (by decide) (by decide) (by decide) (by decide) d_iMatching_24 (fun q5 cA6 H hK hP hD hS => ?_)
  have hP : va_P D x_cls [(h0, .inr (2, [.ref q1, .ref q3, .null])), (q1, .inl (cA2, 6, .inl (fun _ => 0))), (q3, .inl (cA4, 6, .inl (fun _ => 0))), (q5, .inl (cA6, 448, .inl (fun _ => 0)))] H := hP
  have hD : va_D A [(h0, .inr (2, [.ref q1, .ref q3, .null])), (q1, .inl (cA2, 6, .inl (fun _ => 0))), (q3, .inl (cA4, 6, .inl (fun _ => 0))), (q5, .inl (cA6, 448, .inl (fun _ => 0)))] := hD
  have hK : va_K D x_cls [(cA2, .int), (cA4, .int), (cA6, .int)] s := hK
  refine W.widen (k := 3) (n := 460) (by decide) (by decide) ?_
  refine va_putF (D := D) (ci := 2) (v := .ref q5) (ty := .array .int) (C := x_R2) (T := x_T2) (N := 3) hx hb hts x_lay2 x_ty2 x_tyk2 x_nm2 hown hK hP hD hS 0 rfl rfl 2 (by decide) (hts (.fieldLink x_R2 18 "BackColumns$Matching" "most" "[I") (x_in1 (List.mem_of_getElem? (i := 200) rfl) rfl)) (fun _ h9 => h9) rfl hin rfl (by decide +kernel) rfl rfl (Nat.le_of_ble_eq_true rfl) d_iMatching_26 (fun H locs hP hD hS => ?_)
  have hP : va_P D x_cls [(h0, .inr (2, [.ref q1, .ref q3, .ref q5])), (q1, .inl (cA2, 6, .inl (fun _ => 0))), (q3, .inl (cA4, 6, .inl (fun _ => 0))), (q5, .inl (cA6, 448, .inl (fun _ => 0)))] H := hP
  have hD : va_D A [(h0, .inr (2, [.ref q1, .ref q3, .ref q5])), (q1, .inl (cA2, 6, .inl (fun _ => 0))), (q3, .inl (cA4, 6, .inl (fun _ => 0))), (q5, .inl (cA6, 448, .inl (fun _ => 0)))] := hD
  have hP9 := hP.sub (ws' := [(h0, .inr (2, [.ref q1, .ref q3, .ref q5])), (q1, .inl (cA2, 6, .inl (fun _ => 0))), (q3, .inl (cA4, 6, .inl (fun _ => 0))), (q5, .inl (cA6, 448, .inl (fun _ => 0)))]) [0, 1, 2, 3] rfl
  have hD9 := hD.sub (ws' := [(h0, .inr (2, [.ref q1, .ref q3, .ref q5])), (q1, .inl (cA2, 6, .inl (fun _ => 0))), (q3, .inl (cA4, 6, .inl (fun _ => 0))), (q5, .inl (cA6, 448, .inl (fun _ => 0)))]) [0, 1, 2, 3] (by decide) rfl
  have hK9 := hK.sub (tys' := [(cA2, .int), (cA4, .int), (cA6, .int)]) [0, 1, 2] rfl
  exact W.vret hx hb hr (fun t ht hW => ⟨⟨(), rfl, trivial, q1, q3, q5, cA2, cA4, cA6, by rw [ht]; exact hP9, va_K.moved hW.alike hK9, hD9⟩, hS.F ht⟩) hS.2.2 d_iMatching_29
def y_iColumn : MethodName := ⟨x_R0, "<init>", "()V"⟩
theorem iColumn_in : Cond.code y_iColumn prog_2_method_1_code 1 none ∈ xT := x_in1 (List.mem_of_getElem? (i := 212) rfl) rfl
theorem d_iColumn_0 : decode prog_2_method_1_code 0 = .ok (.aload_n 0, 1) := by decide +kernel
theorem d_iColumn_1 : decode prog_2_method_1_code 1 = .ok (.invokespecial 3, 3) := by decide +kernel
theorem d_iColumn_4 : decode prog_2_method_1_code 4 = .ok (.aload_n 0, 1) := by decide +kernel
theorem d_iColumn_5 : decode prog_2_method_1_code 5 = .ok (.bipush 6, 2) := by decide +kernel
theorem d_iColumn_7 : decode prog_2_method_1_code 7 = .ok (.newarray .int, 2) := by decide +kernel
theorem d_iColumn_9 : decode prog_2_method_1_code 9 = .ok (.putfield 9, 3) := by decide +kernel
theorem d_iColumn_12 : decode prog_2_method_1_code 12 = .ok (.aload_n 0, 1) := by decide +kernel
theorem d_iColumn_13 : decode prog_2_method_1_code 13 = .ok (.bipush 6, 2) := by decide +kernel
theorem d_iColumn_15 : decode prog_2_method_1_code 15 = .ok (.newarray .int, 2) := by decide +kernel
theorem d_iColumn_17 : decode prog_2_method_1_code 17 = .ok (.putfield 15, 3) := by decide +kernel
theorem d_iColumn_20 : decode prog_2_method_1_code 20 = .ok (.aload_n 0, 1) := by decide +kernel
theorem d_iColumn_21 : decode prog_2_method_1_code 21 = .ok (.iconst 0, 1) := by decide +kernel
theorem d_iColumn_22 : decode prog_2_method_1_code 22 = .ok (.putfield 18, 3) := by decide +kernel
theorem d_iColumn_25 : decode prog_2_method_1_code 25 = .ok (.aload_n 0, 1) := by decide +kernel
theorem d_iColumn_26 : decode prog_2_method_1_code 26 = .ok (.iconst 0, 1) := by decide +kernel
theorem d_iColumn_27 : decode prog_2_method_1_code 27 = .ok (.putfield 22, 3) := by decide +kernel
theorem d_iColumn_30 : decode prog_2_method_1_code 30 = .ok (.return_, 1) := by decide +kernel
set_option maxHeartbeats 4000000 in
set_option maxRecDepth 100000 in
theorem c_iColumn (l : Launch) (D : va_G) (h0 sz : Nat) : Met l y_iColumn (Cond.code y_iColumn prog_2_method_1_code 1 none :: xT) ({ frames := 1, cells := 2, slots := 12, locals := 30 }) (va_Pc [.ref h0] (fun U => U.heap.size = sz ∧ va_P D x_cls [(h0, .inr (0, [.null, .null, .int 0, .int 0]))] U.heap ∧ va_K D x_cls [] U ∧ va_D (fun _ => True) [(h0, .inr (0, [.null, .null, .int 0, .int 0]))])) (va_Qv (fun _ : Unit => True) (fun _ t => ∃ q1 q3 : Nat, ∃ cA2 cA4 : ClassId, va_P D x_cls [(h0, .inr (0, [.ref q1, .ref q3, .int 0, .int 0])), (q1, .inl (cA2, 6, .inl (fun _ => 0))), (q3, .inl (cA4, 6, .inl (fun _ => 0)))] t.heap ∧ va_K D x_cls [(cA2, .int), (cA4, .int)] t ∧ va_D (va_A [(h0, .inr (0, [.null, .null, .int 0, .int 0]))] sz) [(h0, .inr (0, [.ref q1, .ref q3, .int 0, .int 0])), (q1, .inl (cA2, 6, .inl (fun _ => 0))), (q3, .inl (cA4, 6, .inl (fun _ => 0)))]) (va_A [(h0, .inr (0, [.null, .null, .int 0, .int 0]))] sz)) 2 12 (va_A [(h0, .inr (0, [.null, .null, .int 0, .int 0]))] sz) := by
  refine Met.ofW (cc := prog_2_method_1_code) (maxL := 1) (ret := none) (by decide) rfl ?_
  intro p e s m args below meth c s₁ B hml hv
  obtain ⟨rfl, hsz, hP, hK, hD0⟩ := hv
  have hx := B.exec
  have hb := B.bytes
  have hr := B.returns
  have hts0 := atoms_spec (ws := Cond.code y_iColumn prog_2_method_1_code 1 none :: xT) B.pre
  have hts : ∀ w ∈ xT, w.before _ s = true := fun w hw => hts0 w (List.mem_cons_of_mem _ hw)
  have hown : s.vm.findClass x_R0 = some m.cls := findClass_of_methodNamed B.named
  have hlocks := B.notSynchronized
  have hin : meth.name = "<init>" := (name_of_methodNamed B.named B.method).1
  subst hsz
  have hD := hD0.self (sz := s.heap.size)
  generalize hAe : va_A [(h0, .inr (0, [.null, .null, .int 0, .int 0]))] s.heap.size = A at hD ⊢
  have hA : ∀ q : Nat, s.heap.size ≤ q → A q := fun q h => by rw [← hAe]; exact Or.inr h
  have hS : va_S A s.heap s.heap [] := va_S.rf
  have hP : va_P D x_cls [(h0, .inr (0, [.null, .null, .int 0, .int 0]))] s.heap := hP
  have hl := lv_entry ([.ref h0]) (n := 1) (Nat.le_of_ble_eq_true rfl)
  rw [lg_entry_eq]
  generalize (lg_sl ([.ref h0]) ++ List.replicate (1 - (lg_sl ([.ref h0])).length) Slot.unset).toArray = ls at hl ⊢
  have hl : lv_has ls 1 [(0, .ref h0)] := hl
  refine lv_aload_n hx hb d_iColumn_0 rfl (lv_at hl 0 rfl) ?_
  refine W.objInit hx hb hown (hts (.methodLink x_R0 3 Lib.objectInit) (x_in1 (List.mem_of_getElem? (i := 213) rfl) rfl)) (hts (.instanceMethod Lib.objectInit) (x_in1 (List.mem_of_getElem? (i := 24) rfl) rfl)) (hts (.code Lib.objectInit ⟨#[0xb1]⟩ 1 none) (x_in1 (List.mem_of_getElem? (i := 25) rfl) rfl)) rfl (by rw [hml]; exact hl.1) rfl d_iColumn_1 (Nat.le_of_ble_eq_true rfl) (Nat.le_of_ble_eq_true rfl) ?_
  refine W.eq (g2 := F0 m 4 ls []) rfl ?_
  refine lv_aload_n hx hb d_iColumn_4 rfl (lv_at hl 0 rfl) ?_
  refine lv_bipush (v := 6) hx hb d_iColumn_5 (by decide) ?_
  refine va_newa (atype := .int) (ty := .int) (a0 := (6, .inl (fun _ => 0))) hx hb (hts (.arrayClass .int) (x_in1 (List.mem_of_getElem? (i := 91) rfl) rfl)) rfl hK hP hD hS hA (fun _ => rfl) (by decide) (by decide) (by decide) (by decide) (by decide) d_iColumn_7 (fun q1 cA2 H hK hP hD hS => ?_)
  have hP : va_P D x_cls [(h0, .inr (0, [.null, .null, .int 0, .int 0])), (q1, .inl (cA2, 6, .inl (fun _ => 0)))] H := hP
  have hD : va_D A [(h0, .inr (0, [.null, .null, .int 0, .int 0])), (q1, .inl (cA2, 6, .inl (fun _ => 0)))] := hD
  have hK : va_K D x_cls [(cA2, .int)] s := hK
  refine W.widen (k := 1) (n := 6) (by decide) (by decide) ?_
  refine va_putF (D := D) (ci := 0) (v := .ref q1) (ty := .array .int) (C := x_R0) (T := x_T0) (N := 4) hx hb hts x_lay0 x_ty0 x_tyk0 x_nm0 hown hK hP hD hS 0 rfl rfl 0 (by decide) (hts (.fieldLink x_R0 9 "BackColumns$Column" "costs" "[I") (x_in1 (List.mem_of_getElem? (i := 214) rfl) rfl)) (fun _ h9 => h9) rfl hin rfl (by decide +kernel) rfl rfl (Nat.le_of_ble_eq_true rfl) d_iColumn_9 (fun H locs hP hD hS => ?_)
  have hP : va_P D x_cls [(h0, .inr (0, [.ref q1, .null, .int 0, .int 0])), (q1, .inl (cA2, 6, .inl (fun _ => 0)))] H := hP
  have hD : va_D A [(h0, .inr (0, [.ref q1, .null, .int 0, .int 0])), (q1, .inl (cA2, 6, .inl (fun _ => 0)))] := hD
  refine lv_aload_n hx hb d_iColumn_12 rfl (lv_at hl 0 rfl) ?_
  refine lv_bipush (v := 6) hx hb d_iColumn_13 (by decide) ?_
  refine va_newa (atype := .int) (ty := .int) (a0 := (6, .inl (fun _ => 0))) hx hb (hts (.arrayClass .int) (x_in1 (List.mem_of_getElem? (i := 91) rfl) rfl)) rfl hK hP hD hS hA (fun _ => rfl) (by decide) (by decide) (by decide) (by decide) (by decide) d_iColumn_15 (fun q3 cA4 H hK hP hD hS => ?_)
  have hP : va_P D x_cls [(h0, .inr (0, [.ref q1, .null, .int 0, .int 0])), (q1, .inl (cA2, 6, .inl (fun _ => 0))), (q3, .inl (cA4, 6, .inl (fun _ => 0)))] H := hP
  have hD : va_D A [(h0, .inr (0, [.ref q1, .null, .int 0, .int 0])), (q1, .inl (cA2, 6, .inl (fun _ => 0))), (q3, .inl (cA4, 6, .inl (fun _ => 0)))] := hD
  have hK : va_K D x_cls [(cA2, .int), (cA4, .int)] s := hK
  refine W.widen (k := 2) (n := 12) (by decide) (by decide) ?_
  refine va_putF (D := D) (ci := 0) (v := .ref q3) (ty := .array .int) (C := x_R0) (T := x_T0) (N := 4) hx hb hts x_lay0 x_ty0 x_tyk0 x_nm0 hown hK hP hD hS 0 rfl rfl 1 (by decide) (hts (.fieldLink x_R0 15 "BackColumns$Column" "lengths" "[I") (x_in1 (List.mem_of_getElem? (i := 216) rfl) rfl)) (fun _ h9 => h9) rfl hin rfl (by decide +kernel) rfl rfl (Nat.le_of_ble_eq_true rfl) d_iColumn_17 (fun H locs hP hD hS => ?_)
  have hP : va_P D x_cls [(h0, .inr (0, [.ref q1, .ref q3, .int 0, .int 0])), (q1, .inl (cA2, 6, .inl (fun _ => 0))), (q3, .inl (cA4, 6, .inl (fun _ => 0)))] H := hP
  have hD : va_D A [(h0, .inr (0, [.ref q1, .ref q3, .int 0, .int 0])), (q1, .inl (cA2, 6, .inl (fun _ => 0))), (q3, .inl (cA4, 6, .inl (fun _ => 0)))] := hD
  refine lv_aload_n hx hb d_iColumn_20 rfl (lv_at hl 0 rfl) ?_
  refine lv_iconst (v := 0) hx hb d_iColumn_21 (by decide) ?_
  refine va_put (D := D) (ci := 0) (v := .int 0) (ty := .int) (C := x_R0) (T := x_T0) (N := 4) hx hb hts x_lay0 x_ty0 x_tyk0 x_nm0 hown hK hP hD hS 0 rfl rfl 2 (by decide) (hts (.fieldLink x_R0 18 "BackColumns$Column" "bestSet" "I") (x_in1 (List.mem_of_getElem? (i := 218) rfl) rfl)) (fun _ h9 => h9) rfl (by decide +kernel) rfl rfl (Nat.le_of_ble_eq_true rfl) d_iColumn_22 (fun H locs hP hD hS => ?_)
  have hP : va_P D x_cls [(h0, .inr (0, [.ref q1, .ref q3, .int 0, .int 0])), (q1, .inl (cA2, 6, .inl (fun _ => 0))), (q3, .inl (cA4, 6, .inl (fun _ => 0)))] H := hP
  have hD : va_D A [(h0, .inr (0, [.ref q1, .ref q3, .int 0, .int 0])), (q1, .inl (cA2, 6, .inl (fun _ => 0))), (q3, .inl (cA4, 6, .inl (fun _ => 0)))] := hD
  refine lv_aload_n hx hb d_iColumn_25 rfl (lv_at hl 0 rfl) ?_
  refine lv_iconst (v := 0) hx hb d_iColumn_26 (by decide) ?_
  refine va_put (D := D) (ci := 0) (v := .int 0) (ty := .int) (C := x_R0) (T := x_T0) (N := 4) hx hb hts x_lay0 x_ty0 x_tyk0 x_nm0 hown hK hP hD hS 0 rfl rfl 3 (by decide) (hts (.fieldLink x_R0 22 "BackColumns$Column" "bestCost" "I") (x_in1 (List.mem_of_getElem? (i := 220) rfl) rfl)) (fun _ h9 => h9) rfl (by decide +kernel) rfl rfl (Nat.le_of_ble_eq_true rfl) d_iColumn_27 (fun H locs hP hD hS => ?_)
  have hP : va_P D x_cls [(h0, .inr (0, [.ref q1, .ref q3, .int 0, .int 0])), (q1, .inl (cA2, 6, .inl (fun _ => 0))), (q3, .inl (cA4, 6, .inl (fun _ => 0)))] H := hP
  have hD : va_D A [(h0, .inr (0, [.ref q1, .ref q3, .int 0, .int 0])), (q1, .inl (cA2, 6, .inl (fun _ => 0))), (q3, .inl (cA4, 6, .inl (fun _ => 0)))] := hD
  have hP9 := hP.sub (ws' := [(h0, .inr (0, [.ref q1, .ref q3, .int 0, .int 0])), (q1, .inl (cA2, 6, .inl (fun _ => 0))), (q3, .inl (cA4, 6, .inl (fun _ => 0)))]) [0, 1, 2] rfl
  have hD9 := hD.sub (ws' := [(h0, .inr (0, [.ref q1, .ref q3, .int 0, .int 0])), (q1, .inl (cA2, 6, .inl (fun _ => 0))), (q3, .inl (cA4, 6, .inl (fun _ => 0)))]) [0, 1, 2] (by decide) rfl
  have hK9 := hK.sub (tys' := [(cA2, .int), (cA4, .int)]) [0, 1] rfl
  exact W.vret hx hb hr (fun t ht hW => ⟨⟨(), rfl, trivial, q1, q3, cA2, cA4, by rw [ht]; exact hP9, va_K.moved hW.alike hK9, hD9⟩, hS.F ht⟩) hS.2.2 d_iColumn_30
def y_iShelf : MethodName := ⟨x_R6, "<init>", "(I)V"⟩
theorem iShelf_in : Cond.code y_iShelf prog_8_method_1_code 2 none ∈ xT := x_in1 (List.mem_of_getElem? (i := 96) rfl) rfl
theorem d_iShelf_0 : decode prog_8_method_1_code 0 = .ok (.aload_n 0, 1) := by decide +kernel
theorem d_iShelf_1 : decode prog_8_method_1_code 1 = .ok (.invokespecial 5, 3) := by decide +kernel
theorem d_iShelf_4 : decode prog_8_method_1_code 4 = .ok (.aload_n 0, 1) := by decide +kernel
theorem d_iShelf_5 : decode prog_8_method_1_code 5 = .ok (.iconst 0, 1) := by decide +kernel
theorem d_iShelf_6 : decode prog_8_method_1_code 6 = .ok (.putfield 11, 3) := by decide +kernel
theorem d_iShelf_9 : decode prog_8_method_1_code 9 = .ok (.aload_n 0, 1) := by decide +kernel
theorem d_iShelf_10 : decode prog_8_method_1_code 10 = .ok (.iload_n 1, 1) := by decide +kernel
theorem d_iShelf_11 : decode prog_8_method_1_code 11 = .ok (.iconst 1, 1) := by decide +kernel
theorem d_iShelf_12 : decode prog_8_method_1_code 12 = .ok (.invokestatic 15, 3) := by decide +kernel
theorem d_iShelf_15 : decode prog_8_method_1_code 15 = .ok (.putfield 21, 3) := by decide +kernel
theorem d_iShelf_18 : decode prog_8_method_1_code 18 = .ok (.aload_n 0, 1) := by decide +kernel
theorem d_iShelf_19 : decode prog_8_method_1_code 19 = .ok (.aload_n 0, 1) := by decide +kernel
theorem d_iShelf_20 : decode prog_8_method_1_code 20 = .ok (.getfield 21, 3) := by decide +kernel
theorem d_iShelf_23 : decode prog_8_method_1_code 23 = .ok (.bipush 15, 2) := by decide +kernel
theorem d_iShelf_25 : decode prog_8_method_1_code 25 = .ok (.imul, 1) := by decide +kernel
theorem d_iShelf_26 : decode prog_8_method_1_code 26 = .ok (.newarray .int, 2) := by decide +kernel
theorem d_iShelf_28 : decode prog_8_method_1_code 28 = .ok (.putfield 24, 3) := by decide +kernel
theorem d_iShelf_31 : decode prog_8_method_1_code 31 = .ok (.return_, 1) := by decide +kernel
set_option maxHeartbeats 4000000 in
set_option maxRecDepth 100000 in
theorem c_iShelf8 (l : Launch) (D : va_G) (h0 sz : Nat) : Met l y_iShelf (Cond.code y_iShelf prog_8_method_1_code 2 none :: xT) ({ frames := 1, cells := 1, slots := 120, locals := 30 }) (va_Pc [.ref h0, .int 8] (fun U => U.heap.size = sz ∧ va_P D x_cls [(h0, .inr (6, [.int 0, .null, .int 0]))] U.heap ∧ va_K D x_cls [] U ∧ va_D (fun _ => True) [(h0, .inr (6, [.int 0, .null, .int 0]))])) (va_Qv (fun _ : Unit => True) (fun _ t => ∃ q1 : Nat, ∃ cA2 : ClassId, va_P D x_cls [(h0, .inr (6, [.int 8, .ref q1, .int 0])), (q1, .inl (cA2, 120, .inl (fun _ => 0)))] t.heap ∧ va_K D x_cls [(cA2, .int)] t ∧ va_D (va_A [(h0, .inr (6, [.int 0, .null, .int 0]))] sz) [(h0, .inr (6, [.int 8, .ref q1, .int 0])), (q1, .inl (cA2, 120, .inl (fun _ => 0)))]) (va_A [(h0, .inr (6, [.int 0, .null, .int 0]))] sz)) 1 120 (va_A [(h0, .inr (6, [.int 0, .null, .int 0]))] sz) := by
  refine Met.ofW (cc := prog_8_method_1_code) (maxL := 2) (ret := none) (by decide) rfl ?_
  intro p e s m args below meth c s₁ B hml hv
  obtain ⟨rfl, hsz, hP, hK, hD0⟩ := hv
  have hx := B.exec
  have hb := B.bytes
  have hr := B.returns
  have hts0 := atoms_spec (ws := Cond.code y_iShelf prog_8_method_1_code 2 none :: xT) B.pre
  have hts : ∀ w ∈ xT, w.before _ s = true := fun w hw => hts0 w (List.mem_cons_of_mem _ hw)
  have hown : s.vm.findClass x_R6 = some m.cls := findClass_of_methodNamed B.named
  have hlocks := B.notSynchronized
  have hin : meth.name = "<init>" := (name_of_methodNamed B.named B.method).1
  subst hsz
  have hD := hD0.self (sz := s.heap.size)
  generalize hAe : va_A [(h0, .inr (6, [.int 0, .null, .int 0]))] s.heap.size = A at hD ⊢
  have hA : ∀ q : Nat, s.heap.size ≤ q → A q := fun q h => by rw [← hAe]; exact Or.inr h
  have hS : va_S A s.heap s.heap [] := va_S.rf
  have hP : va_P D x_cls [(h0, .inr (6, [.int 0, .null, .int 0]))] s.heap := hP
  have hl := lv_entry ([.ref h0, .int 8]) (n := 2) (Nat.le_of_ble_eq_true rfl)
  rw [lg_entry_eq]
  generalize (lg_sl ([.ref h0, .int 8]) ++ List.replicate (2 - (lg_sl ([.ref h0, .int 8])).length) Slot.unset).toArray = ls at hl ⊢
  have hl : lv_has ls 2 [(0, .ref h0), (1, .int 8)] := hl
  refine lv_aload_n hx hb d_iShelf_0 rfl (lv_at hl 0 rfl) ?_
  refine W.objInit hx hb hown (hts (.methodLink x_R6 5 Lib.objectInit) (x_in1 (List.mem_of_getElem? (i := 97) rfl) rfl)) (hts (.instanceMethod Lib.objectInit) (x_in1 (List.mem_of_getElem? (i := 24) rfl) rfl)) (hts (.code Lib.objectInit ⟨#[0xb1]⟩ 1 none) (x_in1 (List.mem_of_getElem? (i := 25) rfl) rfl)) rfl (by rw [hml]; exact hl.1) rfl d_iShelf_1 (Nat.le_of_ble_eq_true rfl) (Nat.le_of_ble_eq_true rfl) ?_
  refine W.eq (g2 := F0 m 4 ls []) rfl ?_
  refine lv_aload_n hx hb d_iShelf_4 rfl (lv_at hl 0 rfl) ?_
  refine lv_iconst (v := 0) hx hb d_iShelf_5 (by decide) ?_
  refine va_put (D := D) (ci := 6) (v := .int 0) (ty := .int) (C := x_R6) (T := x_T6) (N := 3) hx hb hts x_lay6 x_ty6 x_tyk6 x_nm6 hown hK hP hD hS 0 rfl rfl 2 (by decide) (hts (.fieldLink x_R6 11 "BackColumns$Shelf" "size" "I") (x_in1 (List.mem_of_getElem? (i := 103) rfl) rfl)) (fun _ h9 => h9) rfl (by decide +kernel) rfl rfl (Nat.le_of_ble_eq_true rfl) d_iShelf_6 (fun H locs hP hD hS => ?_)
  have hP : va_P D x_cls [(h0, .inr (6, [.int 0, .null, .int 0]))] H := hP
  have hD : va_D A [(h0, .inr (6, [.int 0, .null, .int 0]))] := hD
  refine lv_aload_n hx hb d_iShelf_9 rfl (lv_at hl 0 rfl) ?_
  refine lv_iload_n hx hb d_iShelf_10 rfl (lv_at hl 1 rfl) ?_
  refine lv_iconst (v := 1) hx hb d_iShelf_11 (by decide) ?_
  refine va_mmax hx hb (by rw [hml]; exact hl.1.symm) hown (hts (.methodLink x_R6 15 Lib.Math.max.name) (x_in1 (List.mem_of_getElem? (i := 98) rfl) rfl)) (hts (.static Lib.Math.max.name) (x_in1 (List.mem_of_getElem? (i := 99) rfl) rfl)) (hts (.initialized "java/lang/Math") (x_in1 (List.mem_of_getElem? (i := 5) rfl) rfl)) (hts (.code Lib.Math.max.name Lib.Math.max.code 2 (some .int)) (x_in1 (List.mem_of_getElem? (i := 100) rfl) rfl)) (by decide) (Nat.le_of_ble_eq_true rfl) (by decide) (by decide) d_iShelf_12 ?_
  rw [show (if (8 : Int32) < 1 then (1 : Int32) else 8) = 8 from by decide]
  refine va_putF (D := D) (ci := 6) (v := .int 8) (ty := .int) (C := x_R6) (T := x_T6) (N := 3) hx hb hts x_lay6 x_ty6 x_tyk6 x_nm6 hown hK hP hD hS 0 rfl rfl 0 (by decide) (hts (.fieldLink x_R6 21 "BackColumns$Shelf" "most" "I") (x_in1 (List.mem_of_getElem? (i := 101) rfl) rfl)) (fun _ h9 => h9) rfl hin rfl (by decide +kernel) rfl rfl (Nat.le_of_ble_eq_true rfl) d_iShelf_15 (fun H locs hP hD hS => ?_)
  have hP : va_P D x_cls [(h0, .inr (6, [.int 8, .null, .int 0]))] H := hP
  have hD : va_D A [(h0, .inr (6, [.int 8, .null, .int 0]))] := hD
  refine lv_aload_n hx hb d_iShelf_18 rfl (lv_at hl 0 rfl) ?_
  refine lv_aload_n hx hb d_iShelf_19 rfl (lv_at hl 0 rfl) ?_
  refine va_get (D := D) (ci := 6) (v := .int 8) (C := x_R6) (T := x_T6) (N := 3) hx hb hts x_lay6 hown hK hP 0 rfl rfl 0 (by decide) (hts (.fieldLink x_R6 21 "BackColumns$Shelf" "most" "I") (x_in1 (List.mem_of_getElem? (i := 101) rfl) rfl)) (fun _ h9 => h9) rfl d_iShelf_20 ?_
  refine lv_bipush (v := 15) hx hb d_iShelf_23 (by decide) ?_
  refine lv_imul hx hb d_iShelf_25 ?_
  rw [show (8 : Int32) * 15 = 120 from by decide]
  refine va_newa (atype := .int) (ty := .int) (a0 := (120, .inl (fun _ => 0))) hx hb (hts (.arrayClass .int) (x_in1 (List.mem_of_getElem? (i := 91) rfl) rfl)) rfl hK hP hD hS hA (fun _ => rfl) (by decide) (by decide) (by decide) (by decide) (by decide) d_iShelf_26 (fun q1 cA2 H hK hP hD hS => ?_)
  have hP : va_P D x_cls [(h0, .inr (6, [.int 8, .null, .int 0])), (q1, .inl (cA2, 120, .inl (fun _ => 0)))] H := hP
  have hD : va_D A [(h0, .inr (6, [.int 8, .null, .int 0])), (q1, .inl (cA2, 120, .inl (fun _ => 0)))] := hD
  have hK : va_K D x_cls [(cA2, .int)] s := hK
  refine W.widen (k := 1) (n := 120) (by decide) (by decide) ?_
  refine va_putF (D := D) (ci := 6) (v := .ref q1) (ty := .array .int) (C := x_R6) (T := x_T6) (N := 3) hx hb hts x_lay6 x_ty6 x_tyk6 x_nm6 hown hK hP hD hS 0 rfl rfl 1 (by decide) (hts (.fieldLink x_R6 24 "BackColumns$Shelf" "rows" "[I") (x_in1 (List.mem_of_getElem? (i := 102) rfl) rfl)) (fun _ h9 => h9) rfl hin rfl (by decide +kernel) rfl rfl (Nat.le_of_ble_eq_true rfl) d_iShelf_28 (fun H locs hP hD hS => ?_)
  have hP : va_P D x_cls [(h0, .inr (6, [.int 8, .ref q1, .int 0])), (q1, .inl (cA2, 120, .inl (fun _ => 0)))] H := hP
  have hD : va_D A [(h0, .inr (6, [.int 8, .ref q1, .int 0])), (q1, .inl (cA2, 120, .inl (fun _ => 0)))] := hD
  have hP9 := hP.sub (ws' := [(h0, .inr (6, [.int 8, .ref q1, .int 0])), (q1, .inl (cA2, 120, .inl (fun _ => 0)))]) [0, 1] rfl
  have hD9 := hD.sub (ws' := [(h0, .inr (6, [.int 8, .ref q1, .int 0])), (q1, .inl (cA2, 120, .inl (fun _ => 0)))]) [0, 1] (by decide) rfl
  have hK9 := hK.sub (tys' := [(cA2, .int)]) [0] rfl
  exact W.vret hx hb hr (fun t ht hW => ⟨⟨(), rfl, trivial, q1, cA2, by rw [ht]; exact hP9, va_K.moved hW.alike hK9, hD9⟩, hS.F ht⟩) hS.2.2 d_iShelf_31
set_option maxHeartbeats 4000000 in
set_option maxRecDepth 100000 in
theorem c_iShelf2 (l : Launch) (D : va_G) (h0 sz : Nat) : Met l y_iShelf (Cond.code y_iShelf prog_8_method_1_code 2 none :: xT) ({ frames := 1, cells := 1, slots := 30, locals := 30 }) (va_Pc [.ref h0, .int 2] (fun U => U.heap.size = sz ∧ va_P D x_cls [(h0, .inr (6, [.int 0, .null, .int 0]))] U.heap ∧ va_K D x_cls [] U ∧ va_D (fun _ => True) [(h0, .inr (6, [.int 0, .null, .int 0]))])) (va_Qv (fun _ : Unit => True) (fun _ t => ∃ q1 : Nat, ∃ cA2 : ClassId, va_P D x_cls [(h0, .inr (6, [.int 2, .ref q1, .int 0])), (q1, .inl (cA2, 30, .inl (fun _ => 0)))] t.heap ∧ va_K D x_cls [(cA2, .int)] t ∧ va_D (va_A [(h0, .inr (6, [.int 0, .null, .int 0]))] sz) [(h0, .inr (6, [.int 2, .ref q1, .int 0])), (q1, .inl (cA2, 30, .inl (fun _ => 0)))]) (va_A [(h0, .inr (6, [.int 0, .null, .int 0]))] sz)) 1 30 (va_A [(h0, .inr (6, [.int 0, .null, .int 0]))] sz) := by
  refine Met.ofW (cc := prog_8_method_1_code) (maxL := 2) (ret := none) (by decide) rfl ?_
  intro p e s m args below meth c s₁ B hml hv
  obtain ⟨rfl, hsz, hP, hK, hD0⟩ := hv
  have hx := B.exec
  have hb := B.bytes
  have hr := B.returns
  have hts0 := atoms_spec (ws := Cond.code y_iShelf prog_8_method_1_code 2 none :: xT) B.pre
  have hts : ∀ w ∈ xT, w.before _ s = true := fun w hw => hts0 w (List.mem_cons_of_mem _ hw)
  have hown : s.vm.findClass x_R6 = some m.cls := findClass_of_methodNamed B.named
  have hlocks := B.notSynchronized
  have hin : meth.name = "<init>" := (name_of_methodNamed B.named B.method).1
  subst hsz
  have hD := hD0.self (sz := s.heap.size)
  generalize hAe : va_A [(h0, .inr (6, [.int 0, .null, .int 0]))] s.heap.size = A at hD ⊢
  have hA : ∀ q : Nat, s.heap.size ≤ q → A q := fun q h => by rw [← hAe]; exact Or.inr h
  have hS : va_S A s.heap s.heap [] := va_S.rf
  have hP : va_P D x_cls [(h0, .inr (6, [.int 0, .null, .int 0]))] s.heap := hP
  have hl := lv_entry ([.ref h0, .int 2]) (n := 2) (Nat.le_of_ble_eq_true rfl)
  rw [lg_entry_eq]
  generalize (lg_sl ([.ref h0, .int 2]) ++ List.replicate (2 - (lg_sl ([.ref h0, .int 2])).length) Slot.unset).toArray = ls at hl ⊢
  have hl : lv_has ls 2 [(0, .ref h0), (1, .int 2)] := hl
  refine lv_aload_n hx hb d_iShelf_0 rfl (lv_at hl 0 rfl) ?_
  refine W.objInit hx hb hown (hts (.methodLink x_R6 5 Lib.objectInit) (x_in1 (List.mem_of_getElem? (i := 97) rfl) rfl)) (hts (.instanceMethod Lib.objectInit) (x_in1 (List.mem_of_getElem? (i := 24) rfl) rfl)) (hts (.code Lib.objectInit ⟨#[0xb1]⟩ 1 none) (x_in1 (List.mem_of_getElem? (i := 25) rfl) rfl)) rfl (by rw [hml]; exact hl.1) rfl d_iShelf_1 (Nat.le_of_ble_eq_true rfl) (Nat.le_of_ble_eq_true rfl) ?_
  refine W.eq (g2 := F0 m 4 ls []) rfl ?_
  refine lv_aload_n hx hb d_iShelf_4 rfl (lv_at hl 0 rfl) ?_
  refine lv_iconst (v := 0) hx hb d_iShelf_5 (by decide) ?_
  refine va_put (D := D) (ci := 6) (v := .int 0) (ty := .int) (C := x_R6) (T := x_T6) (N := 3) hx hb hts x_lay6 x_ty6 x_tyk6 x_nm6 hown hK hP hD hS 0 rfl rfl 2 (by decide) (hts (.fieldLink x_R6 11 "BackColumns$Shelf" "size" "I") (x_in1 (List.mem_of_getElem? (i := 103) rfl) rfl)) (fun _ h9 => h9) rfl (by decide +kernel) rfl rfl (Nat.le_of_ble_eq_true rfl) d_iShelf_6 (fun H locs hP hD hS => ?_)
  have hP : va_P D x_cls [(h0, .inr (6, [.int 0, .null, .int 0]))] H := hP
  have hD : va_D A [(h0, .inr (6, [.int 0, .null, .int 0]))] := hD
  refine lv_aload_n hx hb d_iShelf_9 rfl (lv_at hl 0 rfl) ?_
  refine lv_iload_n hx hb d_iShelf_10 rfl (lv_at hl 1 rfl) ?_
  refine lv_iconst (v := 1) hx hb d_iShelf_11 (by decide) ?_
  refine va_mmax hx hb (by rw [hml]; exact hl.1.symm) hown (hts (.methodLink x_R6 15 Lib.Math.max.name) (x_in1 (List.mem_of_getElem? (i := 98) rfl) rfl)) (hts (.static Lib.Math.max.name) (x_in1 (List.mem_of_getElem? (i := 99) rfl) rfl)) (hts (.initialized "java/lang/Math") (x_in1 (List.mem_of_getElem? (i := 5) rfl) rfl)) (hts (.code Lib.Math.max.name Lib.Math.max.code 2 (some .int)) (x_in1 (List.mem_of_getElem? (i := 100) rfl) rfl)) (by decide) (Nat.le_of_ble_eq_true rfl) (by decide) (by decide) d_iShelf_12 ?_
  rw [show (if (2 : Int32) < 1 then (1 : Int32) else 2) = 2 from by decide]
  refine va_putF (D := D) (ci := 6) (v := .int 2) (ty := .int) (C := x_R6) (T := x_T6) (N := 3) hx hb hts x_lay6 x_ty6 x_tyk6 x_nm6 hown hK hP hD hS 0 rfl rfl 0 (by decide) (hts (.fieldLink x_R6 21 "BackColumns$Shelf" "most" "I") (x_in1 (List.mem_of_getElem? (i := 101) rfl) rfl)) (fun _ h9 => h9) rfl hin rfl (by decide +kernel) rfl rfl (Nat.le_of_ble_eq_true rfl) d_iShelf_15 (fun H locs hP hD hS => ?_)
  have hP : va_P D x_cls [(h0, .inr (6, [.int 2, .null, .int 0]))] H := hP
  have hD : va_D A [(h0, .inr (6, [.int 2, .null, .int 0]))] := hD
  refine lv_aload_n hx hb d_iShelf_18 rfl (lv_at hl 0 rfl) ?_
  refine lv_aload_n hx hb d_iShelf_19 rfl (lv_at hl 0 rfl) ?_
  refine va_get (D := D) (ci := 6) (v := .int 2) (C := x_R6) (T := x_T6) (N := 3) hx hb hts x_lay6 hown hK hP 0 rfl rfl 0 (by decide) (hts (.fieldLink x_R6 21 "BackColumns$Shelf" "most" "I") (x_in1 (List.mem_of_getElem? (i := 101) rfl) rfl)) (fun _ h9 => h9) rfl d_iShelf_20 ?_
  refine lv_bipush (v := 15) hx hb d_iShelf_23 (by decide) ?_
  refine lv_imul hx hb d_iShelf_25 ?_
  rw [show (2 : Int32) * 15 = 30 from by decide]
  refine va_newa (atype := .int) (ty := .int) (a0 := (30, .inl (fun _ => 0))) hx hb (hts (.arrayClass .int) (x_in1 (List.mem_of_getElem? (i := 91) rfl) rfl)) rfl hK hP hD hS hA (fun _ => rfl) (by decide) (by decide) (by decide) (by decide) (by decide) d_iShelf_26 (fun q1 cA2 H hK hP hD hS => ?_)
  have hP : va_P D x_cls [(h0, .inr (6, [.int 2, .null, .int 0])), (q1, .inl (cA2, 30, .inl (fun _ => 0)))] H := hP
  have hD : va_D A [(h0, .inr (6, [.int 2, .null, .int 0])), (q1, .inl (cA2, 30, .inl (fun _ => 0)))] := hD
  have hK : va_K D x_cls [(cA2, .int)] s := hK
  refine W.widen (k := 1) (n := 30) (by decide) (by decide) ?_
  refine va_putF (D := D) (ci := 6) (v := .ref q1) (ty := .array .int) (C := x_R6) (T := x_T6) (N := 3) hx hb hts x_lay6 x_ty6 x_tyk6 x_nm6 hown hK hP hD hS 0 rfl rfl 1 (by decide) (hts (.fieldLink x_R6 24 "BackColumns$Shelf" "rows" "[I") (x_in1 (List.mem_of_getElem? (i := 102) rfl) rfl)) (fun _ h9 => h9) rfl hin rfl (by decide +kernel) rfl rfl (Nat.le_of_ble_eq_true rfl) d_iShelf_28 (fun H locs hP hD hS => ?_)
  have hP : va_P D x_cls [(h0, .inr (6, [.int 2, .ref q1, .int 0])), (q1, .inl (cA2, 30, .inl (fun _ => 0)))] H := hP
  have hD : va_D A [(h0, .inr (6, [.int 2, .ref q1, .int 0])), (q1, .inl (cA2, 30, .inl (fun _ => 0)))] := hD
  have hP9 := hP.sub (ws' := [(h0, .inr (6, [.int 2, .ref q1, .int 0])), (q1, .inl (cA2, 30, .inl (fun _ => 0)))]) [0, 1] rfl
  have hD9 := hD.sub (ws' := [(h0, .inr (6, [.int 2, .ref q1, .int 0])), (q1, .inl (cA2, 30, .inl (fun _ => 0)))]) [0, 1] (by decide) rfl
  have hK9 := hK.sub (tys' := [(cA2, .int)]) [0] rfl
  exact W.vret hx hb hr (fun t ht hW => ⟨⟨(), rfl, trivial, q1, cA2, by rw [ht]; exact hP9, va_K.moved hW.alike hK9, hD9⟩, hS.F ht⟩) hS.2.2 d_iShelf_31
def y_iSearch : MethodName := ⟨x_R5, "<init>", "()V"⟩
theorem iSearch_in : Cond.code y_iSearch prog_7_method_1_code 2 none ∈ xT := x_in1 (List.mem_of_getElem? (i := 170) rfl) rfl
theorem d_iSearch_0 : decode prog_7_method_1_code 0 = .ok (.aload_n 0, 1) := by decide +kernel
theorem d_iSearch_1 : decode prog_7_method_1_code 1 = .ok (.invokespecial 3, 3) := by decide +kernel
theorem d_iSearch_4 : decode prog_7_method_1_code 4 = .ok (.aload_n 0, 1) := by decide +kernel
theorem d_iSearch_5 : decode prog_7_method_1_code 5 = .ok (.iconst 5, 1) := by decide +kernel
theorem d_iSearch_6 : decode prog_7_method_1_code 6 = .ok (.anewarray 9, 3) := by decide +kernel
theorem d_iSearch_9 : decode prog_7_method_1_code 9 = .ok (.putfield 11, 3) := by decide +kernel
theorem d_iSearch_12 : decode prog_7_method_1_code 12 = .ok (.aload_n 0, 1) := by decide +kernel
theorem d_iSearch_13 : decode prog_7_method_1_code 13 = .ok (.iconst 0, 1) := by decide +kernel
theorem d_iSearch_14 : decode prog_7_method_1_code 14 = .ok (.putfield 17, 3) := by decide +kernel
theorem d_iSearch_17 : decode prog_7_method_1_code 17 = .ok (.aload_n 0, 1) := by decide +kernel
theorem d_iSearch_18 : decode prog_7_method_1_code 18 = .ok (.iconst 0, 1) := by decide +kernel
theorem d_iSearch_19 : decode prog_7_method_1_code 19 = .ok (.putfield 21, 3) := by decide +kernel
theorem d_iSearch_22 : decode prog_7_method_1_code 22 = .ok (.aload_n 0, 1) := by decide +kernel
theorem d_iSearch_23 : decode prog_7_method_1_code 23 = .ok (.iconst 0, 1) := by decide +kernel
theorem d_iSearch_24 : decode prog_7_method_1_code 24 = .ok (.putfield 24, 3) := by decide +kernel
theorem d_iSearch_27 : decode prog_7_method_1_code 27 = .ok (.iconst 0, 1) := by decide +kernel
theorem d_iSearch_28 : decode prog_7_method_1_code 28 = .ok (.istore_n 1, 1) := by decide +kernel
theorem d_iSearch_29 : decode prog_7_method_1_code 29 = .ok (.iload_n 1, 1) := by decide +kernel
theorem d_iSearch_30 : decode prog_7_method_1_code 30 = .ok (.aload_n 0, 1) := by decide +kernel
theorem d_iSearch_31 : decode prog_7_method_1_code 31 = .ok (.getfield 11, 3) := by decide +kernel
theorem d_iSearch_34 : decode prog_7_method_1_code 34 = .ok (.arraylength, 1) := by decide +kernel
theorem d_iSearch_35 : decode prog_7_method_1_code 35 = .ok (.if_icmp .ge 22, 3) := by decide +kernel
theorem d_iSearch_38 : decode prog_7_method_1_code 38 = .ok (.aload_n 0, 1) := by decide +kernel
theorem d_iSearch_39 : decode prog_7_method_1_code 39 = .ok (.getfield 11, 3) := by decide +kernel
theorem d_iSearch_42 : decode prog_7_method_1_code 42 = .ok (.iload_n 1, 1) := by decide +kernel
theorem d_iSearch_43 : decode prog_7_method_1_code 43 = .ok (.new 9, 3) := by decide +kernel
theorem d_iSearch_46 : decode prog_7_method_1_code 46 = .ok (.dup, 1) := by decide +kernel
theorem d_iSearch_47 : decode prog_7_method_1_code 47 = .ok (.invokespecial 27, 3) := by decide +kernel
theorem d_iSearch_50 : decode prog_7_method_1_code 50 = .ok (.aastore, 1) := by decide +kernel
theorem d_iSearch_51 : decode prog_7_method_1_code 51 = .ok (.iinc 1 1, 3) := by decide +kernel
theorem d_iSearch_54 : decode prog_7_method_1_code 54 = .ok (.goto (-25), 3) := by decide +kernel
theorem d_iSearch_57 : decode prog_7_method_1_code 57 = .ok (.return_, 1) := by decide +kernel
set_option maxHeartbeats 4000000 in
set_option maxRecDepth 100000 in
theorem c_iSearch (l : Launch) (D : va_G) (h0 sz : Nat) : Met l y_iSearch (Cond.code y_iSearch prog_7_method_1_code 2 none :: xT) ({ frames := 2, cells := 6, slots := 40, locals := 60 }) (va_Pc [.ref h0] (fun U => U.heap.size = sz ∧ va_P D x_cls [(h0, .inr (5, [.null, .int 0, .int 0, .int 0]))] U.heap ∧ va_K D x_cls [] U ∧ va_D (fun _ => True) [(h0, .inr (5, [.null, .int 0, .int 0, .int 0]))] ∧ va_Nw (.methodLinkNest "BackColumns$Search" 27 y_iReading "BackColumns") U ∧ va_AO "BackColumns$Reading" U)) (va_Qv (fun _ : Unit => True) (fun _ t => ∃ q1 q3 q4 q5 q6 q7 : Nat, ∃ cA2 : ClassId, va_P D x_cls [(h0, .inr (5, [.ref q1, .int 0, .int 0, .int 0])), (q1, .inl (cA2, 5, .inr (.inr (.inr (.inr (va_up (va_up (va_up (va_up (va_up (fun _ => none) 0 (some q3)) 1 (some q4)) 2 (some q5)) 3 (some q6)) 4 (some q7))))))), (q3, .inr (4, [.int 0, .int 0, .int 0, .int 0, .int 0, .int 0, .int 0])), (q4, .inr (4, [.int 0, .int 0, .int 0, .int 0, .int 0, .int 0, .int 0])), (q5, .inr (4, [.int 0, .int 0, .int 0, .int 0, .int 0, .int 0, .int 0])), (q6, .inr (4, [.int 0, .int 0, .int 0, .int 0, .int 0, .int 0, .int 0])), (q7, .inr (4, [.int 0, .int 0, .int 0, .int 0, .int 0, .int 0, .int 0]))] t.heap ∧ va_K D x_cls [(cA2, .object "BackColumns$Reading")] t ∧ va_D (va_A [(h0, .inr (5, [.null, .int 0, .int 0, .int 0]))] sz) [(h0, .inr (5, [.ref q1, .int 0, .int 0, .int 0])), (q1, .inl (cA2, 5, .inr (.inr (.inr (.inr (va_up (va_up (va_up (va_up (va_up (fun _ => none) 0 (some q3)) 1 (some q4)) 2 (some q5)) 3 (some q6)) 4 (some q7))))))), (q3, .inr (4, [.int 0, .int 0, .int 0, .int 0, .int 0, .int 0, .int 0])), (q4, .inr (4, [.int 0, .int 0, .int 0, .int 0, .int 0, .int 0, .int 0])), (q5, .inr (4, [.int 0, .int 0, .int 0, .int 0, .int 0, .int 0, .int 0])), (q6, .inr (4, [.int 0, .int 0, .int 0, .int 0, .int 0, .int 0, .int 0])), (q7, .inr (4, [.int 0, .int 0, .int 0, .int 0, .int 0, .int 0, .int 0]))]) (va_A [(h0, .inr (5, [.null, .int 0, .int 0, .int 0]))] sz)) 6 40 (va_A [(h0, .inr (5, [.null, .int 0, .int 0, .int 0]))] sz) := by
  refine Met.ofW (cc := prog_7_method_1_code) (maxL := 2) (ret := none) (by decide) rfl ?_
  intro p e s m args below meth c s₁ B hml hv
  obtain ⟨rfl, hsz, hP, hK, hD0, hN, hAO⟩ := hv
  have hx := B.exec
  have hb := B.bytes
  have hr := B.returns
  have hts0 := atoms_spec (ws := Cond.code y_iSearch prog_7_method_1_code 2 none :: xT) B.pre
  have hts : ∀ w ∈ xT, w.before _ s = true := fun w hw => hts0 w (List.mem_cons_of_mem _ hw)
  have hown : s.vm.findClass x_R5 = some m.cls := findClass_of_methodNamed B.named
  have hlocks := B.notSynchronized
  have hin : meth.name = "<init>" := (name_of_methodNamed B.named B.method).1
  subst hsz
  have hD := hD0.self (sz := s.heap.size)
  generalize hAe : va_A [(h0, .inr (5, [.null, .int 0, .int 0, .int 0]))] s.heap.size = A at hD ⊢
  have hA : ∀ q : Nat, s.heap.size ≤ q → A q := fun q h => by rw [← hAe]; exact Or.inr h
  have hS : va_S A s.heap s.heap [] := va_S.rf
  have hP : va_P D x_cls [(h0, .inr (5, [.null, .int 0, .int 0, .int 0]))] s.heap := hP
  have hl := lv_entry ([.ref h0]) (n := 2) (Nat.le_of_ble_eq_true rfl)
  rw [lg_entry_eq]
  generalize (lg_sl ([.ref h0]) ++ List.replicate (2 - (lg_sl ([.ref h0])).length) Slot.unset).toArray = ls at hl ⊢
  have hl : lv_has ls 2 [(0, .ref h0)] := hl
  refine lv_aload_n hx hb d_iSearch_0 rfl (lv_at hl 0 rfl) ?_
  refine W.objInit hx hb hown (hts (.methodLink x_R5 3 Lib.objectInit) (x_in1 (List.mem_of_getElem? (i := 171) rfl) rfl)) (hts (.instanceMethod Lib.objectInit) (x_in1 (List.mem_of_getElem? (i := 24) rfl) rfl)) (hts (.code Lib.objectInit ⟨#[0xb1]⟩ 1 none) (x_in1 (List.mem_of_getElem? (i := 25) rfl) rfl)) rfl (by rw [hml]; exact hl.1) rfl d_iSearch_1 (Nat.le_of_ble_eq_true rfl) (Nat.le_of_ble_eq_true rfl) ?_
  refine W.eq (g2 := F0 m 4 ls []) rfl ?_
  refine lv_aload_n hx hb d_iSearch_4 rfl (lv_at hl 0 rfl) ?_
  refine lv_iconst (v := 5) hx hb d_iSearch_5 (by decide) ?_
  refine va_newq (C := "BackColumns$Reading") hx hb hown (hts (.classLink x_R5 9 "BackColumns$Reading") (x_in1 (List.mem_of_getElem? (i := 172) rfl) rfl)) hAO hK hP hD hS hA (by decide) (N' := 5) (by decide) (by decide) (by decide) (by decide) d_iSearch_6 (fun q1 cA2 H hK hP hD hS => ?_)
  have hP : va_P D x_cls [(h0, .inr (5, [.null, .int 0, .int 0, .int 0])), (q1, .inl (cA2, 5, .inr (.inr (.inr (.inr (fun _ => none))))))] H := hP
  have hD : va_D A [(h0, .inr (5, [.null, .int 0, .int 0, .int 0])), (q1, .inl (cA2, 5, .inr (.inr (.inr (.inr (fun _ => none))))))] := hD
  have hK : va_K D x_cls [(cA2, .object "BackColumns$Reading")] s := hK
  refine W.widen (k := 1) (n := 5) (by decide) (by decide) ?_
  refine va_putF (D := D) (ci := 5) (v := .ref q1) (ty := .array (.object "BackColumns$Reading")) (C := x_R5) (T := x_T5) (N := 4) hx hb hts x_lay5 x_ty5 x_tyk5 x_nm5 hown hK hP hD hS 0 rfl rfl 0 (by decide) (hts (.fieldLink x_R5 11 "BackColumns$Search" "rows" "[LBackColumns$Reading;") (x_in1 (List.mem_of_getElem? (i := 175) rfl) rfl)) (fun _ h9 => h9) rfl hin rfl (by decide +kernel) rfl rfl (Nat.le_of_ble_eq_true rfl) d_iSearch_9 (fun H locs hP hD hS => ?_)
  have hP : va_P D x_cls [(h0, .inr (5, [.ref q1, .int 0, .int 0, .int 0])), (q1, .inl (cA2, 5, .inr (.inr (.inr (.inr (fun _ => none))))))] H := hP
  have hD : va_D A [(h0, .inr (5, [.ref q1, .int 0, .int 0, .int 0])), (q1, .inl (cA2, 5, .inr (.inr (.inr (.inr (fun _ => none))))))] := hD
  refine lv_aload_n hx hb d_iSearch_12 rfl (lv_at hl 0 rfl) ?_
  refine lv_iconst (v := 0) hx hb d_iSearch_13 (by decide) ?_
  refine va_put (D := D) (ci := 5) (v := .int 0) (ty := .int) (C := x_R5) (T := x_T5) (N := 4) hx hb hts x_lay5 x_ty5 x_tyk5 x_nm5 hown hK hP hD hS 0 rfl rfl 1 (by decide) (hts (.fieldLink x_R5 17 "BackColumns$Search" "aim" "I") (x_in1 (List.mem_of_getElem? (i := 176) rfl) rfl)) (fun _ h9 => h9) rfl (by decide +kernel) rfl rfl (Nat.le_of_ble_eq_true rfl) d_iSearch_14 (fun H locs hP hD hS => ?_)
  have hP : va_P D x_cls [(h0, .inr (5, [.ref q1, .int 0, .int 0, .int 0])), (q1, .inl (cA2, 5, .inr (.inr (.inr (.inr (fun _ => none))))))] H := hP
  have hD : va_D A [(h0, .inr (5, [.ref q1, .int 0, .int 0, .int 0])), (q1, .inl (cA2, 5, .inr (.inr (.inr (.inr (fun _ => none))))))] := hD
  refine lv_aload_n hx hb d_iSearch_17 rfl (lv_at hl 0 rfl) ?_
  refine lv_iconst (v := 0) hx hb d_iSearch_18 (by decide) ?_
  refine va_put (D := D) (ci := 5) (v := .int 0) (ty := .int) (C := x_R5) (T := x_T5) (N := 4) hx hb hts x_lay5 x_ty5 x_tyk5 x_nm5 hown hK hP hD hS 0 rfl rfl 2 (by decide) (hts (.fieldLink x_R5 21 "BackColumns$Search" "bestCode" "I") (x_in1 (List.mem_of_getElem? (i := 177) rfl) rfl)) (fun _ h9 => h9) rfl (by decide +kernel) rfl rfl (Nat.le_of_ble_eq_true rfl) d_iSearch_19 (fun H locs hP hD hS => ?_)
  have hP : va_P D x_cls [(h0, .inr (5, [.ref q1, .int 0, .int 0, .int 0])), (q1, .inl (cA2, 5, .inr (.inr (.inr (.inr (fun _ => none))))))] H := hP
  have hD : va_D A [(h0, .inr (5, [.ref q1, .int 0, .int 0, .int 0])), (q1, .inl (cA2, 5, .inr (.inr (.inr (.inr (fun _ => none))))))] := hD
  refine lv_aload_n hx hb d_iSearch_22 rfl (lv_at hl 0 rfl) ?_
  refine lv_iconst (v := 0) hx hb d_iSearch_23 (by decide) ?_
  refine va_put (D := D) (ci := 5) (v := .int 0) (ty := .int) (C := x_R5) (T := x_T5) (N := 4) hx hb hts x_lay5 x_ty5 x_tyk5 x_nm5 hown hK hP hD hS 0 rfl rfl 3 (by decide) (hts (.fieldLink x_R5 24 "BackColumns$Search" "bestCost" "I") (x_in1 (List.mem_of_getElem? (i := 179) rfl) rfl)) (fun _ h9 => h9) rfl (by decide +kernel) rfl rfl (Nat.le_of_ble_eq_true rfl) d_iSearch_24 (fun H locs hP hD hS => ?_)
  have hP : va_P D x_cls [(h0, .inr (5, [.ref q1, .int 0, .int 0, .int 0])), (q1, .inl (cA2, 5, .inr (.inr (.inr (.inr (fun _ => none))))))] H := hP
  have hD : va_D A [(h0, .inr (5, [.ref q1, .int 0, .int 0, .int 0])), (q1, .inl (cA2, 5, .inr (.inr (.inr (.inr (fun _ => none))))))] := hD
  refine lv_iconst (v := 0) hx hb d_iSearch_27 (by decide) ?_
  refine lv_istore_n (lv' := [(1, .int 0), (0, .ref h0)]) hx hb d_iSearch_28 rfl hl (by decide) rfl (fun ls hl => ?_)
  refine lv_iload_n hx hb d_iSearch_29 rfl (lv_at hl 0 rfl) ?_
  refine lv_aload_n hx hb d_iSearch_30 rfl (lv_at hl 1 rfl) ?_
  refine va_get (D := D) (ci := 5) (v := .ref q1) (C := x_R5) (T := x_T5) (N := 4) hx hb hts x_lay5 hown hK hP 0 rfl rfl 0 (by decide) (hts (.fieldLink x_R5 11 "BackColumns$Search" "rows" "[LBackColumns$Reading;") (x_in1 (List.mem_of_getElem? (i := 175) rfl) rfl)) (fun _ h9 => h9) rfl d_iSearch_31 ?_
  refine va_alen (v := 5) hx hb hK hP 1 0 rfl rfl rfl d_iSearch_34 ?_
  refine lv_icmp_ge (tgt := 57) hx hb d_iSearch_35 (by decide) (fun c9 => absurd c9 (by decide)) (fun _ => ?_)
  refine lv_aload_n hx hb d_iSearch_38 rfl (lv_at hl 1 rfl) ?_
  refine va_get (D := D) (ci := 5) (v := .ref q1) (C := x_R5) (T := x_T5) (N := 4) hx hb hts x_lay5 hown hK hP 0 rfl rfl 0 (by decide) (hts (.fieldLink x_R5 11 "BackColumns$Search" "rows" "[LBackColumns$Reading;") (x_in1 (List.mem_of_getElem? (i := 175) rfl) rfl)) (fun _ h9 => h9) rfl d_iSearch_39 ?_
  refine lv_iload_n hx hb d_iSearch_42 rfl (lv_at hl 0 rfl) ?_
  refine va_new (ci := 4) (fs := [.int 0, .int 0, .int 0, .int 0, .int 0, .int 0, .int 0]) (C := x_R4) (T := x_T4) (N := 7) hx hb hts x_lay4 x_ty4 x_tyk4 hown (hts (.classLink x_R5 9 x_R4) (x_in1 (List.mem_of_getElem? (i := 172) rfl) rfl)) (hts (.instantiable x_R4 7) (x_in1 (List.mem_of_getElem? (i := 133) rfl) rfl)) (hts (.initialized x_R4) (x_in1 (List.mem_of_getElem? (i := 7) rfl) rfl)) hK hP hD hS hA rfl (fun j hj => by rcases (show j = 0 ∨ j = 1 ∨ j = 2 ∨ j = 3 ∨ j = 4 ∨ j = 5 ∨ j = 6 by omega) with rfl | rfl | rfl | rfl | rfl | rfl | rfl <;> rfl) (by decide) (by decide) d_iSearch_43 (fun q3 H hP hD hS => ?_)
  have hP : va_P D x_cls [(h0, .inr (5, [.ref q1, .int 0, .int 0, .int 0])), (q1, .inl (cA2, 5, .inr (.inr (.inr (.inr (fun _ => none)))))), (q3, .inr (4, [.int 0, .int 0, .int 0, .int 0, .int 0, .int 0, .int 0]))] H := hP
  have hD : va_D A [(h0, .inr (5, [.ref q1, .int 0, .int 0, .int 0])), (q1, .inl (cA2, 5, .inr (.inr (.inr (.inr (fun _ => none)))))), (q3, .inr (4, [.int 0, .int 0, .int 0, .int 0, .int 0, .int 0, .int 0]))] := hD
  refine W.widen (k := 2) (n := 12) (by decide) (by decide) ?_
  refine lv_dup hx hb d_iSearch_46 rfl ?_
  have hPc := hP.sub (ws' := [(q3, .inr (4, [.int 0, .int 0, .int 0, .int 0, .int 0, .int 0, .int 0]))]) [2] rfl
  have hDc := hD.sub (ws' := [(q3, .inr (4, [.int 0, .int 0, .int 0, .int 0, .int 0, .int 0, .int 0]))]) [2] (by decide) rfl
  have hKc := hK.sub (tys' := []) [] rfl
  have hFc := va_free (wc := [(q3, .inr (4, [.int 0, .int 0, .int 0, .int 0, .int 0, .int 0, .int 0]))]) hD hS hA [2] rfl
  refine va_callv (va_runIN (As := []) (rest := [.ref q3, .int 0, .ref q1]) ⟨hx, hb, hml, hown, hts⟩ (c_iReading l D q3 H.size) ⟨va_cnB (host := "BackColumns") 0 hts (z_good iReading_in) rfl rfl rfl hN (hts (.initialized x_R4) (x_in1 (List.mem_of_getElem? (i := 7) rfl) rfl)) (by decide +kernel) ⟨Nat.le_of_ble_eq_true rfl, Nat.le_of_ble_eq_true rfl⟩, rfl, (hts (.instanceMethod y_iReading) (x_in1 (List.mem_of_getElem? (i := 135) rfl) rfl))⟩ ⟨fun a U g mk q => by obtain ⟨q0, q1, qP, qK, qD⟩ := q; exact ⟨q0, q1, qP, va_K.moved (u := U) (U := U.calling g mk a) (Vm.Alike.refl U.vm) qK, qD⟩, fun U hU hW => ⟨rfl, by rw [hU], by rw [hU]; exact hPc, va_K.moved hW.alike hKc, hDc.weaken (fun _ _ _ _ => trivial)⟩⟩ rfl rfl hl.1 rfl (lv_room (Nat.le_of_ble_eq_true rfl)) d_iSearch_47 ⟨by decide, by decide⟩) hS (fun q _ h => hFc q h) hFc (fun u t H1 locs ht hvm hw hB hz1 hk1 hS => ?_)
  obtain ⟨hP1, hK1, hD1⟩ := hB
  rw [ht] at hP1
  have hK1 := va_K.moved hvm.symm hK1
  obtain ⟨hP, hD⟩ := va_join (wr := [(h0, .inr (5, [.ref q1, .int 0, .int 0, .int 0])), (q1, .inl (cA2, 5, .inr (.inr (.inr (.inr (fun _ => none))))))]) (w1 := [(q3, .inr (4, [.int 0, .int 0, .int 0, .int 0, .int 0, .int 0, .int 0]))]) hP hD [2] [0, 1] rfl rfl (by decide) (by decide) hk1 hFc hP1 hD1
  have hK := (hK.sub (tys' := [(cA2, .object "BackColumns$Reading")]) [0] rfl).app hK1
  generalize H1 = H at hP hS ⊢
  have hP : va_P D x_cls [(h0, .inr (5, [.ref q1, .int 0, .int 0, .int 0])), (q1, .inl (cA2, 5, .inr (.inr (.inr (.inr (fun _ => none)))))), (q3, .inr (4, [.int 0, .int 0, .int 0, .int 0, .int 0, .int 0, .int 0]))] H := hP
  have hD : va_D A [(h0, .inr (5, [.ref q1, .int 0, .int 0, .int 0])), (q1, .inl (cA2, 5, .inr (.inr (.inr (.inr (fun _ => none)))))), (q3, .inr (4, [.int 0, .int 0, .int 0, .int 0, .int 0, .int 0, .int 0]))] := hD
  have hK : va_K D x_cls [(cA2, .object "BackColumns$Reading")] s := hK
  refine W.widen (k := 2) (n := 12) (by decide) (by decide) ?_
  refine va_astq (r := (x_R4, x_T4, 7)) hx hb hK hP hD hS 1 0 2 4 rfl rfl rfl rfl (by unfold vp_in; decide) d_iSearch_50 (fun H locs hP hD hS => ?_)
  have hP : va_P D x_cls [(h0, .inr (5, [.ref q1, .int 0, .int 0, .int 0])), (q1, .inl (cA2, 5, .inr (.inr (.inr (.inr (va_up (fun _ => none) 0 (some q3))))))), (q3, .inr (4, [.int 0, .int 0, .int 0, .int 0, .int 0, .int 0, .int 0]))] H := hP
  have hD : va_D A [(h0, .inr (5, [.ref q1, .int 0, .int 0, .int 0])), (q1, .inl (cA2, 5, .inr (.inr (.inr (.inr (va_up (fun _ => none) 0 (some q3))))))), (q3, .inr (4, [.int 0, .int 0, .int 0, .int 0, .int 0, .int 0, .int 0]))] := hD
  refine lv_iinc (v := 1) (lv' := [(1, .int 1), (0, .ref h0)]) hx hb d_iSearch_51 hl (k := 0) rfl (by decide) (by decide) rfl (fun ls hl => ?_)
  refine lv_goto (tgt := 29) hx hb d_iSearch_54 (by decide) ?_
  refine lv_iload_n hx hb d_iSearch_29 rfl (lv_at hl 0 rfl) ?_
  refine lv_aload_n hx hb d_iSearch_30 rfl (lv_at hl 1 rfl) ?_
  refine va_get (D := D) (ci := 5) (v := .ref q1) (C := x_R5) (T := x_T5) (N := 4) hx hb hts x_lay5 hown hK hP 0 rfl rfl 0 (by decide) (hts (.fieldLink x_R5 11 "BackColumns$Search" "rows" "[LBackColumns$Reading;") (x_in1 (List.mem_of_getElem? (i := 175) rfl) rfl)) (fun _ h9 => h9) rfl d_iSearch_31 ?_
  refine va_alen (v := 5) hx hb hK hP 1 0 rfl rfl rfl d_iSearch_34 ?_
  refine lv_icmp_ge (tgt := 57) hx hb d_iSearch_35 (by decide) (fun c9 => absurd c9 (by decide)) (fun _ => ?_)
  refine lv_aload_n hx hb d_iSearch_38 rfl (lv_at hl 1 rfl) ?_
  refine va_get (D := D) (ci := 5) (v := .ref q1) (C := x_R5) (T := x_T5) (N := 4) hx hb hts x_lay5 hown hK hP 0 rfl rfl 0 (by decide) (hts (.fieldLink x_R5 11 "BackColumns$Search" "rows" "[LBackColumns$Reading;") (x_in1 (List.mem_of_getElem? (i := 175) rfl) rfl)) (fun _ h9 => h9) rfl d_iSearch_39 ?_
  refine lv_iload_n hx hb d_iSearch_42 rfl (lv_at hl 0 rfl) ?_
  refine va_new (ci := 4) (fs := [.int 0, .int 0, .int 0, .int 0, .int 0, .int 0, .int 0]) (C := x_R4) (T := x_T4) (N := 7) hx hb hts x_lay4 x_ty4 x_tyk4 hown (hts (.classLink x_R5 9 x_R4) (x_in1 (List.mem_of_getElem? (i := 172) rfl) rfl)) (hts (.instantiable x_R4 7) (x_in1 (List.mem_of_getElem? (i := 133) rfl) rfl)) (hts (.initialized x_R4) (x_in1 (List.mem_of_getElem? (i := 7) rfl) rfl)) hK hP hD hS hA rfl (fun j hj => by rcases (show j = 0 ∨ j = 1 ∨ j = 2 ∨ j = 3 ∨ j = 4 ∨ j = 5 ∨ j = 6 by omega) with rfl | rfl | rfl | rfl | rfl | rfl | rfl <;> rfl) (by decide) (by decide) d_iSearch_43 (fun q4 H hP hD hS => ?_)
  have hP : va_P D x_cls [(h0, .inr (5, [.ref q1, .int 0, .int 0, .int 0])), (q1, .inl (cA2, 5, .inr (.inr (.inr (.inr (va_up (fun _ => none) 0 (some q3))))))), (q3, .inr (4, [.int 0, .int 0, .int 0, .int 0, .int 0, .int 0, .int 0])), (q4, .inr (4, [.int 0, .int 0, .int 0, .int 0, .int 0, .int 0, .int 0]))] H := hP
  have hD : va_D A [(h0, .inr (5, [.ref q1, .int 0, .int 0, .int 0])), (q1, .inl (cA2, 5, .inr (.inr (.inr (.inr (va_up (fun _ => none) 0 (some q3))))))), (q3, .inr (4, [.int 0, .int 0, .int 0, .int 0, .int 0, .int 0, .int 0])), (q4, .inr (4, [.int 0, .int 0, .int 0, .int 0, .int 0, .int 0, .int 0]))] := hD
  refine W.widen (k := 3) (n := 19) (by decide) (by decide) ?_
  refine lv_dup hx hb d_iSearch_46 rfl ?_
  have hPc := hP.sub (ws' := [(q4, .inr (4, [.int 0, .int 0, .int 0, .int 0, .int 0, .int 0, .int 0]))]) [3] rfl
  have hDc := hD.sub (ws' := [(q4, .inr (4, [.int 0, .int 0, .int 0, .int 0, .int 0, .int 0, .int 0]))]) [3] (by decide) rfl
  have hKc := hK.sub (tys' := []) [] rfl
  have hFc := va_free (wc := [(q4, .inr (4, [.int 0, .int 0, .int 0, .int 0, .int 0, .int 0, .int 0]))]) hD hS hA [3] rfl
  refine va_callv (va_runIN (As := []) (rest := [.ref q4, .int 1, .ref q1]) ⟨hx, hb, hml, hown, hts⟩ (c_iReading l D q4 H.size) ⟨va_cnB (host := "BackColumns") 0 hts (z_good iReading_in) rfl rfl rfl hN (hts (.initialized x_R4) (x_in1 (List.mem_of_getElem? (i := 7) rfl) rfl)) (by decide +kernel) ⟨Nat.le_of_ble_eq_true rfl, Nat.le_of_ble_eq_true rfl⟩, rfl, (hts (.instanceMethod y_iReading) (x_in1 (List.mem_of_getElem? (i := 135) rfl) rfl))⟩ ⟨fun a U g mk q => by obtain ⟨q0, q1, qP, qK, qD⟩ := q; exact ⟨q0, q1, qP, va_K.moved (u := U) (U := U.calling g mk a) (Vm.Alike.refl U.vm) qK, qD⟩, fun U hU hW => ⟨rfl, by rw [hU], by rw [hU]; exact hPc, va_K.moved hW.alike hKc, hDc.weaken (fun _ _ _ _ => trivial)⟩⟩ rfl rfl hl.1 rfl (lv_room (Nat.le_of_ble_eq_true rfl)) d_iSearch_47 ⟨by decide, by decide⟩) hS (fun q _ h => hFc q h) hFc (fun u t H1 locs ht hvm hw hB hz1 hk1 hS => ?_)
  obtain ⟨hP1, hK1, hD1⟩ := hB
  rw [ht] at hP1
  have hK1 := va_K.moved hvm.symm hK1
  obtain ⟨hP, hD⟩ := va_join (wr := [(h0, .inr (5, [.ref q1, .int 0, .int 0, .int 0])), (q1, .inl (cA2, 5, .inr (.inr (.inr (.inr (va_up (fun _ => none) 0 (some q3))))))), (q3, .inr (4, [.int 0, .int 0, .int 0, .int 0, .int 0, .int 0, .int 0]))]) (w1 := [(q4, .inr (4, [.int 0, .int 0, .int 0, .int 0, .int 0, .int 0, .int 0]))]) hP hD [3] [0, 1, 2] rfl rfl (by decide) (by decide) hk1 hFc hP1 hD1
  have hK := (hK.sub (tys' := [(cA2, .object "BackColumns$Reading")]) [0] rfl).app hK1
  generalize H1 = H at hP hS ⊢
  have hP : va_P D x_cls [(h0, .inr (5, [.ref q1, .int 0, .int 0, .int 0])), (q1, .inl (cA2, 5, .inr (.inr (.inr (.inr (va_up (fun _ => none) 0 (some q3))))))), (q3, .inr (4, [.int 0, .int 0, .int 0, .int 0, .int 0, .int 0, .int 0])), (q4, .inr (4, [.int 0, .int 0, .int 0, .int 0, .int 0, .int 0, .int 0]))] H := hP
  have hD : va_D A [(h0, .inr (5, [.ref q1, .int 0, .int 0, .int 0])), (q1, .inl (cA2, 5, .inr (.inr (.inr (.inr (va_up (fun _ => none) 0 (some q3))))))), (q3, .inr (4, [.int 0, .int 0, .int 0, .int 0, .int 0, .int 0, .int 0])), (q4, .inr (4, [.int 0, .int 0, .int 0, .int 0, .int 0, .int 0, .int 0]))] := hD
  have hK : va_K D x_cls [(cA2, .object "BackColumns$Reading")] s := hK
  refine W.widen (k := 3) (n := 19) (by decide) (by decide) ?_
  refine va_astq (r := (x_R4, x_T4, 7)) hx hb hK hP hD hS 1 0 3 4 rfl rfl rfl rfl (by unfold vp_in; decide) d_iSearch_50 (fun H locs hP hD hS => ?_)
  have hP : va_P D x_cls [(h0, .inr (5, [.ref q1, .int 0, .int 0, .int 0])), (q1, .inl (cA2, 5, .inr (.inr (.inr (.inr (va_up (va_up (fun _ => none) 0 (some q3)) 1 (some q4))))))), (q3, .inr (4, [.int 0, .int 0, .int 0, .int 0, .int 0, .int 0, .int 0])), (q4, .inr (4, [.int 0, .int 0, .int 0, .int 0, .int 0, .int 0, .int 0]))] H := hP
  have hD : va_D A [(h0, .inr (5, [.ref q1, .int 0, .int 0, .int 0])), (q1, .inl (cA2, 5, .inr (.inr (.inr (.inr (va_up (va_up (fun _ => none) 0 (some q3)) 1 (some q4))))))), (q3, .inr (4, [.int 0, .int 0, .int 0, .int 0, .int 0, .int 0, .int 0])), (q4, .inr (4, [.int 0, .int 0, .int 0, .int 0, .int 0, .int 0, .int 0]))] := hD
  refine lv_iinc (v := 2) (lv' := [(1, .int 2), (0, .ref h0)]) hx hb d_iSearch_51 hl (k := 0) rfl (by decide) (by decide) rfl (fun ls hl => ?_)
  refine lv_goto (tgt := 29) hx hb d_iSearch_54 (by decide) ?_
  refine lv_iload_n hx hb d_iSearch_29 rfl (lv_at hl 0 rfl) ?_
  refine lv_aload_n hx hb d_iSearch_30 rfl (lv_at hl 1 rfl) ?_
  refine va_get (D := D) (ci := 5) (v := .ref q1) (C := x_R5) (T := x_T5) (N := 4) hx hb hts x_lay5 hown hK hP 0 rfl rfl 0 (by decide) (hts (.fieldLink x_R5 11 "BackColumns$Search" "rows" "[LBackColumns$Reading;") (x_in1 (List.mem_of_getElem? (i := 175) rfl) rfl)) (fun _ h9 => h9) rfl d_iSearch_31 ?_
  refine va_alen (v := 5) hx hb hK hP 1 0 rfl rfl rfl d_iSearch_34 ?_
  refine lv_icmp_ge (tgt := 57) hx hb d_iSearch_35 (by decide) (fun c9 => absurd c9 (by decide)) (fun _ => ?_)
  refine lv_aload_n hx hb d_iSearch_38 rfl (lv_at hl 1 rfl) ?_
  refine va_get (D := D) (ci := 5) (v := .ref q1) (C := x_R5) (T := x_T5) (N := 4) hx hb hts x_lay5 hown hK hP 0 rfl rfl 0 (by decide) (hts (.fieldLink x_R5 11 "BackColumns$Search" "rows" "[LBackColumns$Reading;") (x_in1 (List.mem_of_getElem? (i := 175) rfl) rfl)) (fun _ h9 => h9) rfl d_iSearch_39 ?_
  refine lv_iload_n hx hb d_iSearch_42 rfl (lv_at hl 0 rfl) ?_
  refine va_new (ci := 4) (fs := [.int 0, .int 0, .int 0, .int 0, .int 0, .int 0, .int 0]) (C := x_R4) (T := x_T4) (N := 7) hx hb hts x_lay4 x_ty4 x_tyk4 hown (hts (.classLink x_R5 9 x_R4) (x_in1 (List.mem_of_getElem? (i := 172) rfl) rfl)) (hts (.instantiable x_R4 7) (x_in1 (List.mem_of_getElem? (i := 133) rfl) rfl)) (hts (.initialized x_R4) (x_in1 (List.mem_of_getElem? (i := 7) rfl) rfl)) hK hP hD hS hA rfl (fun j hj => by rcases (show j = 0 ∨ j = 1 ∨ j = 2 ∨ j = 3 ∨ j = 4 ∨ j = 5 ∨ j = 6 by omega) with rfl | rfl | rfl | rfl | rfl | rfl | rfl <;> rfl) (by decide) (by decide) d_iSearch_43 (fun q5 H hP hD hS => ?_)
  have hP : va_P D x_cls [(h0, .inr (5, [.ref q1, .int 0, .int 0, .int 0])), (q1, .inl (cA2, 5, .inr (.inr (.inr (.inr (va_up (va_up (fun _ => none) 0 (some q3)) 1 (some q4))))))), (q3, .inr (4, [.int 0, .int 0, .int 0, .int 0, .int 0, .int 0, .int 0])), (q4, .inr (4, [.int 0, .int 0, .int 0, .int 0, .int 0, .int 0, .int 0])), (q5, .inr (4, [.int 0, .int 0, .int 0, .int 0, .int 0, .int 0, .int 0]))] H := hP
  have hD : va_D A [(h0, .inr (5, [.ref q1, .int 0, .int 0, .int 0])), (q1, .inl (cA2, 5, .inr (.inr (.inr (.inr (va_up (va_up (fun _ => none) 0 (some q3)) 1 (some q4))))))), (q3, .inr (4, [.int 0, .int 0, .int 0, .int 0, .int 0, .int 0, .int 0])), (q4, .inr (4, [.int 0, .int 0, .int 0, .int 0, .int 0, .int 0, .int 0])), (q5, .inr (4, [.int 0, .int 0, .int 0, .int 0, .int 0, .int 0, .int 0]))] := hD
  refine W.widen (k := 4) (n := 26) (by decide) (by decide) ?_
  refine lv_dup hx hb d_iSearch_46 rfl ?_
  have hPc := hP.sub (ws' := [(q5, .inr (4, [.int 0, .int 0, .int 0, .int 0, .int 0, .int 0, .int 0]))]) [4] rfl
  have hDc := hD.sub (ws' := [(q5, .inr (4, [.int 0, .int 0, .int 0, .int 0, .int 0, .int 0, .int 0]))]) [4] (by decide) rfl
  have hKc := hK.sub (tys' := []) [] rfl
  have hFc := va_free (wc := [(q5, .inr (4, [.int 0, .int 0, .int 0, .int 0, .int 0, .int 0, .int 0]))]) hD hS hA [4] rfl
  refine va_callv (va_runIN (As := []) (rest := [.ref q5, .int 2, .ref q1]) ⟨hx, hb, hml, hown, hts⟩ (c_iReading l D q5 H.size) ⟨va_cnB (host := "BackColumns") 0 hts (z_good iReading_in) rfl rfl rfl hN (hts (.initialized x_R4) (x_in1 (List.mem_of_getElem? (i := 7) rfl) rfl)) (by decide +kernel) ⟨Nat.le_of_ble_eq_true rfl, Nat.le_of_ble_eq_true rfl⟩, rfl, (hts (.instanceMethod y_iReading) (x_in1 (List.mem_of_getElem? (i := 135) rfl) rfl))⟩ ⟨fun a U g mk q => by obtain ⟨q0, q1, qP, qK, qD⟩ := q; exact ⟨q0, q1, qP, va_K.moved (u := U) (U := U.calling g mk a) (Vm.Alike.refl U.vm) qK, qD⟩, fun U hU hW => ⟨rfl, by rw [hU], by rw [hU]; exact hPc, va_K.moved hW.alike hKc, hDc.weaken (fun _ _ _ _ => trivial)⟩⟩ rfl rfl hl.1 rfl (lv_room (Nat.le_of_ble_eq_true rfl)) d_iSearch_47 ⟨by decide, by decide⟩) hS (fun q _ h => hFc q h) hFc (fun u t H1 locs ht hvm hw hB hz1 hk1 hS => ?_)
  obtain ⟨hP1, hK1, hD1⟩ := hB
  rw [ht] at hP1
  have hK1 := va_K.moved hvm.symm hK1
  obtain ⟨hP, hD⟩ := va_join (wr := [(h0, .inr (5, [.ref q1, .int 0, .int 0, .int 0])), (q1, .inl (cA2, 5, .inr (.inr (.inr (.inr (va_up (va_up (fun _ => none) 0 (some q3)) 1 (some q4))))))), (q3, .inr (4, [.int 0, .int 0, .int 0, .int 0, .int 0, .int 0, .int 0])), (q4, .inr (4, [.int 0, .int 0, .int 0, .int 0, .int 0, .int 0, .int 0]))]) (w1 := [(q5, .inr (4, [.int 0, .int 0, .int 0, .int 0, .int 0, .int 0, .int 0]))]) hP hD [4] [0, 1, 2, 3] rfl rfl (by decide) (by decide) hk1 hFc hP1 hD1
  have hK := (hK.sub (tys' := [(cA2, .object "BackColumns$Reading")]) [0] rfl).app hK1
  generalize H1 = H at hP hS ⊢
  have hP : va_P D x_cls [(h0, .inr (5, [.ref q1, .int 0, .int 0, .int 0])), (q1, .inl (cA2, 5, .inr (.inr (.inr (.inr (va_up (va_up (fun _ => none) 0 (some q3)) 1 (some q4))))))), (q3, .inr (4, [.int 0, .int 0, .int 0, .int 0, .int 0, .int 0, .int 0])), (q4, .inr (4, [.int 0, .int 0, .int 0, .int 0, .int 0, .int 0, .int 0])), (q5, .inr (4, [.int 0, .int 0, .int 0, .int 0, .int 0, .int 0, .int 0]))] H := hP
  have hD : va_D A [(h0, .inr (5, [.ref q1, .int 0, .int 0, .int 0])), (q1, .inl (cA2, 5, .inr (.inr (.inr (.inr (va_up (va_up (fun _ => none) 0 (some q3)) 1 (some q4))))))), (q3, .inr (4, [.int 0, .int 0, .int 0, .int 0, .int 0, .int 0, .int 0])), (q4, .inr (4, [.int 0, .int 0, .int 0, .int 0, .int 0, .int 0, .int 0])), (q5, .inr (4, [.int 0, .int 0, .int 0, .int 0, .int 0, .int 0, .int 0]))] := hD
  have hK : va_K D x_cls [(cA2, .object "BackColumns$Reading")] s := hK
  refine W.widen (k := 4) (n := 26) (by decide) (by decide) ?_
  refine va_astq (r := (x_R4, x_T4, 7)) hx hb hK hP hD hS 1 0 4 4 rfl rfl rfl rfl (by unfold vp_in; decide) d_iSearch_50 (fun H locs hP hD hS => ?_)
  have hP : va_P D x_cls [(h0, .inr (5, [.ref q1, .int 0, .int 0, .int 0])), (q1, .inl (cA2, 5, .inr (.inr (.inr (.inr (va_up (va_up (va_up (fun _ => none) 0 (some q3)) 1 (some q4)) 2 (some q5))))))), (q3, .inr (4, [.int 0, .int 0, .int 0, .int 0, .int 0, .int 0, .int 0])), (q4, .inr (4, [.int 0, .int 0, .int 0, .int 0, .int 0, .int 0, .int 0])), (q5, .inr (4, [.int 0, .int 0, .int 0, .int 0, .int 0, .int 0, .int 0]))] H := hP
  have hD : va_D A [(h0, .inr (5, [.ref q1, .int 0, .int 0, .int 0])), (q1, .inl (cA2, 5, .inr (.inr (.inr (.inr (va_up (va_up (va_up (fun _ => none) 0 (some q3)) 1 (some q4)) 2 (some q5))))))), (q3, .inr (4, [.int 0, .int 0, .int 0, .int 0, .int 0, .int 0, .int 0])), (q4, .inr (4, [.int 0, .int 0, .int 0, .int 0, .int 0, .int 0, .int 0])), (q5, .inr (4, [.int 0, .int 0, .int 0, .int 0, .int 0, .int 0, .int 0]))] := hD
  refine lv_iinc (v := 3) (lv' := [(1, .int 3), (0, .ref h0)]) hx hb d_iSearch_51 hl (k := 0) rfl (by decide) (by decide) rfl (fun ls hl => ?_)
  refine lv_goto (tgt := 29) hx hb d_iSearch_54 (by decide) ?_
  refine lv_iload_n hx hb d_iSearch_29 rfl (lv_at hl 0 rfl) ?_
  refine lv_aload_n hx hb d_iSearch_30 rfl (lv_at hl 1 rfl) ?_
  refine va_get (D := D) (ci := 5) (v := .ref q1) (C := x_R5) (T := x_T5) (N := 4) hx hb hts x_lay5 hown hK hP 0 rfl rfl 0 (by decide) (hts (.fieldLink x_R5 11 "BackColumns$Search" "rows" "[LBackColumns$Reading;") (x_in1 (List.mem_of_getElem? (i := 175) rfl) rfl)) (fun _ h9 => h9) rfl d_iSearch_31 ?_
  refine va_alen (v := 5) hx hb hK hP 1 0 rfl rfl rfl d_iSearch_34 ?_
  refine lv_icmp_ge (tgt := 57) hx hb d_iSearch_35 (by decide) (fun c9 => absurd c9 (by decide)) (fun _ => ?_)
  refine lv_aload_n hx hb d_iSearch_38 rfl (lv_at hl 1 rfl) ?_
  refine va_get (D := D) (ci := 5) (v := .ref q1) (C := x_R5) (T := x_T5) (N := 4) hx hb hts x_lay5 hown hK hP 0 rfl rfl 0 (by decide) (hts (.fieldLink x_R5 11 "BackColumns$Search" "rows" "[LBackColumns$Reading;") (x_in1 (List.mem_of_getElem? (i := 175) rfl) rfl)) (fun _ h9 => h9) rfl d_iSearch_39 ?_
  refine lv_iload_n hx hb d_iSearch_42 rfl (lv_at hl 0 rfl) ?_
  refine va_new (ci := 4) (fs := [.int 0, .int 0, .int 0, .int 0, .int 0, .int 0, .int 0]) (C := x_R4) (T := x_T4) (N := 7) hx hb hts x_lay4 x_ty4 x_tyk4 hown (hts (.classLink x_R5 9 x_R4) (x_in1 (List.mem_of_getElem? (i := 172) rfl) rfl)) (hts (.instantiable x_R4 7) (x_in1 (List.mem_of_getElem? (i := 133) rfl) rfl)) (hts (.initialized x_R4) (x_in1 (List.mem_of_getElem? (i := 7) rfl) rfl)) hK hP hD hS hA rfl (fun j hj => by rcases (show j = 0 ∨ j = 1 ∨ j = 2 ∨ j = 3 ∨ j = 4 ∨ j = 5 ∨ j = 6 by omega) with rfl | rfl | rfl | rfl | rfl | rfl | rfl <;> rfl) (by decide) (by decide) d_iSearch_43 (fun q6 H hP hD hS => ?_)
  have hP : va_P D x_cls [(h0, .inr (5, [.ref q1, .int 0, .int 0, .int 0])), (q1, .inl (cA2, 5, .inr (.inr (.inr (.inr (va_up (va_up (va_up (fun _ => none) 0 (some q3)) 1 (some q4)) 2 (some q5))))))), (q3, .inr (4, [.int 0, .int 0, .int 0, .int 0, .int 0, .int 0, .int 0])), (q4, .inr (4, [.int 0, .int 0, .int 0, .int 0, .int 0, .int 0, .int 0])), (q5, .inr (4, [.int 0, .int 0, .int 0, .int 0, .int 0, .int 0, .int 0])), (q6, .inr (4, [.int 0, .int 0, .int 0, .int 0, .int 0, .int 0, .int 0]))] H := hP
  have hD : va_D A [(h0, .inr (5, [.ref q1, .int 0, .int 0, .int 0])), (q1, .inl (cA2, 5, .inr (.inr (.inr (.inr (va_up (va_up (va_up (fun _ => none) 0 (some q3)) 1 (some q4)) 2 (some q5))))))), (q3, .inr (4, [.int 0, .int 0, .int 0, .int 0, .int 0, .int 0, .int 0])), (q4, .inr (4, [.int 0, .int 0, .int 0, .int 0, .int 0, .int 0, .int 0])), (q5, .inr (4, [.int 0, .int 0, .int 0, .int 0, .int 0, .int 0, .int 0])), (q6, .inr (4, [.int 0, .int 0, .int 0, .int 0, .int 0, .int 0, .int 0]))] := hD
  refine W.widen (k := 5) (n := 33) (by decide) (by decide) ?_
  refine lv_dup hx hb d_iSearch_46 rfl ?_
  have hPc := hP.sub (ws' := [(q6, .inr (4, [.int 0, .int 0, .int 0, .int 0, .int 0, .int 0, .int 0]))]) [5] rfl
  have hDc := hD.sub (ws' := [(q6, .inr (4, [.int 0, .int 0, .int 0, .int 0, .int 0, .int 0, .int 0]))]) [5] (by decide) rfl
  have hKc := hK.sub (tys' := []) [] rfl
  have hFc := va_free (wc := [(q6, .inr (4, [.int 0, .int 0, .int 0, .int 0, .int 0, .int 0, .int 0]))]) hD hS hA [5] rfl
  refine va_callv (va_runIN (As := []) (rest := [.ref q6, .int 3, .ref q1]) ⟨hx, hb, hml, hown, hts⟩ (c_iReading l D q6 H.size) ⟨va_cnB (host := "BackColumns") 0 hts (z_good iReading_in) rfl rfl rfl hN (hts (.initialized x_R4) (x_in1 (List.mem_of_getElem? (i := 7) rfl) rfl)) (by decide +kernel) ⟨Nat.le_of_ble_eq_true rfl, Nat.le_of_ble_eq_true rfl⟩, rfl, (hts (.instanceMethod y_iReading) (x_in1 (List.mem_of_getElem? (i := 135) rfl) rfl))⟩ ⟨fun a U g mk q => by obtain ⟨q0, q1, qP, qK, qD⟩ := q; exact ⟨q0, q1, qP, va_K.moved (u := U) (U := U.calling g mk a) (Vm.Alike.refl U.vm) qK, qD⟩, fun U hU hW => ⟨rfl, by rw [hU], by rw [hU]; exact hPc, va_K.moved hW.alike hKc, hDc.weaken (fun _ _ _ _ => trivial)⟩⟩ rfl rfl hl.1 rfl (lv_room (Nat.le_of_ble_eq_true rfl)) d_iSearch_47 ⟨by decide, by decide⟩) hS (fun q _ h => hFc q h) hFc (fun u t H1 locs ht hvm hw hB hz1 hk1 hS => ?_)
  obtain ⟨hP1, hK1, hD1⟩ := hB
  rw [ht] at hP1
  have hK1 := va_K.moved hvm.symm hK1
  obtain ⟨hP, hD⟩ := va_join (wr := [(h0, .inr (5, [.ref q1, .int 0, .int 0, .int 0])), (q1, .inl (cA2, 5, .inr (.inr (.inr (.inr (va_up (va_up (va_up (fun _ => none) 0 (some q3)) 1 (some q4)) 2 (some q5))))))), (q3, .inr (4, [.int 0, .int 0, .int 0, .int 0, .int 0, .int 0, .int 0])), (q4, .inr (4, [.int 0, .int 0, .int 0, .int 0, .int 0, .int 0, .int 0])), (q5, .inr (4, [.int 0, .int 0, .int 0, .int 0, .int 0, .int 0, .int 0]))]) (w1 := [(q6, .inr (4, [.int 0, .int 0, .int 0, .int 0, .int 0, .int 0, .int 0]))]) hP hD [5] [0, 1, 2, 3, 4] rfl rfl (by decide) (by decide) hk1 hFc hP1 hD1
  have hK := (hK.sub (tys' := [(cA2, .object "BackColumns$Reading")]) [0] rfl).app hK1
  generalize H1 = H at hP hS ⊢
  have hP : va_P D x_cls [(h0, .inr (5, [.ref q1, .int 0, .int 0, .int 0])), (q1, .inl (cA2, 5, .inr (.inr (.inr (.inr (va_up (va_up (va_up (fun _ => none) 0 (some q3)) 1 (some q4)) 2 (some q5))))))), (q3, .inr (4, [.int 0, .int 0, .int 0, .int 0, .int 0, .int 0, .int 0])), (q4, .inr (4, [.int 0, .int 0, .int 0, .int 0, .int 0, .int 0, .int 0])), (q5, .inr (4, [.int 0, .int 0, .int 0, .int 0, .int 0, .int 0, .int 0])), (q6, .inr (4, [.int 0, .int 0, .int 0, .int 0, .int 0, .int 0, .int 0]))] H := hP
  have hD : va_D A [(h0, .inr (5, [.ref q1, .int 0, .int 0, .int 0])), (q1, .inl (cA2, 5, .inr (.inr (.inr (.inr (va_up (va_up (va_up (fun _ => none) 0 (some q3)) 1 (some q4)) 2 (some q5))))))), (q3, .inr (4, [.int 0, .int 0, .int 0, .int 0, .int 0, .int 0, .int 0])), (q4, .inr (4, [.int 0, .int 0, .int 0, .int 0, .int 0, .int 0, .int 0])), (q5, .inr (4, [.int 0, .int 0, .int 0, .int 0, .int 0, .int 0, .int 0])), (q6, .inr (4, [.int 0, .int 0, .int 0, .int 0, .int 0, .int 0, .int 0]))] := hD
  have hK : va_K D x_cls [(cA2, .object "BackColumns$Reading")] s := hK
  refine W.widen (k := 5) (n := 33) (by decide) (by decide) ?_
  refine va_astq (r := (x_R4, x_T4, 7)) hx hb hK hP hD hS 1 0 5 4 rfl rfl rfl rfl (by unfold vp_in; decide) d_iSearch_50 (fun H locs hP hD hS => ?_)
  have hP : va_P D x_cls [(h0, .inr (5, [.ref q1, .int 0, .int 0, .int 0])), (q1, .inl (cA2, 5, .inr (.inr (.inr (.inr (va_up (va_up (va_up (va_up (fun _ => none) 0 (some q3)) 1 (some q4)) 2 (some q5)) 3 (some q6))))))), (q3, .inr (4, [.int 0, .int 0, .int 0, .int 0, .int 0, .int 0, .int 0])), (q4, .inr (4, [.int 0, .int 0, .int 0, .int 0, .int 0, .int 0, .int 0])), (q5, .inr (4, [.int 0, .int 0, .int 0, .int 0, .int 0, .int 0, .int 0])), (q6, .inr (4, [.int 0, .int 0, .int 0, .int 0, .int 0, .int 0, .int 0]))] H := hP
  have hD : va_D A [(h0, .inr (5, [.ref q1, .int 0, .int 0, .int 0])), (q1, .inl (cA2, 5, .inr (.inr (.inr (.inr (va_up (va_up (va_up (va_up (fun _ => none) 0 (some q3)) 1 (some q4)) 2 (some q5)) 3 (some q6))))))), (q3, .inr (4, [.int 0, .int 0, .int 0, .int 0, .int 0, .int 0, .int 0])), (q4, .inr (4, [.int 0, .int 0, .int 0, .int 0, .int 0, .int 0, .int 0])), (q5, .inr (4, [.int 0, .int 0, .int 0, .int 0, .int 0, .int 0, .int 0])), (q6, .inr (4, [.int 0, .int 0, .int 0, .int 0, .int 0, .int 0, .int 0]))] := hD
  refine lv_iinc (v := 4) (lv' := [(1, .int 4), (0, .ref h0)]) hx hb d_iSearch_51 hl (k := 0) rfl (by decide) (by decide) rfl (fun ls hl => ?_)
  refine lv_goto (tgt := 29) hx hb d_iSearch_54 (by decide) ?_
  refine lv_iload_n hx hb d_iSearch_29 rfl (lv_at hl 0 rfl) ?_
  refine lv_aload_n hx hb d_iSearch_30 rfl (lv_at hl 1 rfl) ?_
  refine va_get (D := D) (ci := 5) (v := .ref q1) (C := x_R5) (T := x_T5) (N := 4) hx hb hts x_lay5 hown hK hP 0 rfl rfl 0 (by decide) (hts (.fieldLink x_R5 11 "BackColumns$Search" "rows" "[LBackColumns$Reading;") (x_in1 (List.mem_of_getElem? (i := 175) rfl) rfl)) (fun _ h9 => h9) rfl d_iSearch_31 ?_
  refine va_alen (v := 5) hx hb hK hP 1 0 rfl rfl rfl d_iSearch_34 ?_
  refine lv_icmp_ge (tgt := 57) hx hb d_iSearch_35 (by decide) (fun c9 => absurd c9 (by decide)) (fun _ => ?_)
  refine lv_aload_n hx hb d_iSearch_38 rfl (lv_at hl 1 rfl) ?_
  refine va_get (D := D) (ci := 5) (v := .ref q1) (C := x_R5) (T := x_T5) (N := 4) hx hb hts x_lay5 hown hK hP 0 rfl rfl 0 (by decide) (hts (.fieldLink x_R5 11 "BackColumns$Search" "rows" "[LBackColumns$Reading;") (x_in1 (List.mem_of_getElem? (i := 175) rfl) rfl)) (fun _ h9 => h9) rfl d_iSearch_39 ?_
  refine lv_iload_n hx hb d_iSearch_42 rfl (lv_at hl 0 rfl) ?_
  refine va_new (ci := 4) (fs := [.int 0, .int 0, .int 0, .int 0, .int 0, .int 0, .int 0]) (C := x_R4) (T := x_T4) (N := 7) hx hb hts x_lay4 x_ty4 x_tyk4 hown (hts (.classLink x_R5 9 x_R4) (x_in1 (List.mem_of_getElem? (i := 172) rfl) rfl)) (hts (.instantiable x_R4 7) (x_in1 (List.mem_of_getElem? (i := 133) rfl) rfl)) (hts (.initialized x_R4) (x_in1 (List.mem_of_getElem? (i := 7) rfl) rfl)) hK hP hD hS hA rfl (fun j hj => by rcases (show j = 0 ∨ j = 1 ∨ j = 2 ∨ j = 3 ∨ j = 4 ∨ j = 5 ∨ j = 6 by omega) with rfl | rfl | rfl | rfl | rfl | rfl | rfl <;> rfl) (by decide) (by decide) d_iSearch_43 (fun q7 H hP hD hS => ?_)
  have hP : va_P D x_cls [(h0, .inr (5, [.ref q1, .int 0, .int 0, .int 0])), (q1, .inl (cA2, 5, .inr (.inr (.inr (.inr (va_up (va_up (va_up (va_up (fun _ => none) 0 (some q3)) 1 (some q4)) 2 (some q5)) 3 (some q6))))))), (q3, .inr (4, [.int 0, .int 0, .int 0, .int 0, .int 0, .int 0, .int 0])), (q4, .inr (4, [.int 0, .int 0, .int 0, .int 0, .int 0, .int 0, .int 0])), (q5, .inr (4, [.int 0, .int 0, .int 0, .int 0, .int 0, .int 0, .int 0])), (q6, .inr (4, [.int 0, .int 0, .int 0, .int 0, .int 0, .int 0, .int 0])), (q7, .inr (4, [.int 0, .int 0, .int 0, .int 0, .int 0, .int 0, .int 0]))] H := hP
  have hD : va_D A [(h0, .inr (5, [.ref q1, .int 0, .int 0, .int 0])), (q1, .inl (cA2, 5, .inr (.inr (.inr (.inr (va_up (va_up (va_up (va_up (fun _ => none) 0 (some q3)) 1 (some q4)) 2 (some q5)) 3 (some q6))))))), (q3, .inr (4, [.int 0, .int 0, .int 0, .int 0, .int 0, .int 0, .int 0])), (q4, .inr (4, [.int 0, .int 0, .int 0, .int 0, .int 0, .int 0, .int 0])), (q5, .inr (4, [.int 0, .int 0, .int 0, .int 0, .int 0, .int 0, .int 0])), (q6, .inr (4, [.int 0, .int 0, .int 0, .int 0, .int 0, .int 0, .int 0])), (q7, .inr (4, [.int 0, .int 0, .int 0, .int 0, .int 0, .int 0, .int 0]))] := hD
  refine W.widen (k := 6) (n := 40) (by decide) (by decide) ?_
  refine lv_dup hx hb d_iSearch_46 rfl ?_
  have hPc := hP.sub (ws' := [(q7, .inr (4, [.int 0, .int 0, .int 0, .int 0, .int 0, .int 0, .int 0]))]) [6] rfl
  have hDc := hD.sub (ws' := [(q7, .inr (4, [.int 0, .int 0, .int 0, .int 0, .int 0, .int 0, .int 0]))]) [6] (by decide) rfl
  have hKc := hK.sub (tys' := []) [] rfl
  have hFc := va_free (wc := [(q7, .inr (4, [.int 0, .int 0, .int 0, .int 0, .int 0, .int 0, .int 0]))]) hD hS hA [6] rfl
  refine va_callv (va_runIN (As := []) (rest := [.ref q7, .int 4, .ref q1]) ⟨hx, hb, hml, hown, hts⟩ (c_iReading l D q7 H.size) ⟨va_cnB (host := "BackColumns") 0 hts (z_good iReading_in) rfl rfl rfl hN (hts (.initialized x_R4) (x_in1 (List.mem_of_getElem? (i := 7) rfl) rfl)) (by decide +kernel) ⟨Nat.le_of_ble_eq_true rfl, Nat.le_of_ble_eq_true rfl⟩, rfl, (hts (.instanceMethod y_iReading) (x_in1 (List.mem_of_getElem? (i := 135) rfl) rfl))⟩ ⟨fun a U g mk q => by obtain ⟨q0, q1, qP, qK, qD⟩ := q; exact ⟨q0, q1, qP, va_K.moved (u := U) (U := U.calling g mk a) (Vm.Alike.refl U.vm) qK, qD⟩, fun U hU hW => ⟨rfl, by rw [hU], by rw [hU]; exact hPc, va_K.moved hW.alike hKc, hDc.weaken (fun _ _ _ _ => trivial)⟩⟩ rfl rfl hl.1 rfl (lv_room (Nat.le_of_ble_eq_true rfl)) d_iSearch_47 ⟨by decide, by decide⟩) hS (fun q _ h => hFc q h) hFc (fun u t H1 locs ht hvm hw hB hz1 hk1 hS => ?_)
  obtain ⟨hP1, hK1, hD1⟩ := hB
  rw [ht] at hP1
  have hK1 := va_K.moved hvm.symm hK1
  obtain ⟨hP, hD⟩ := va_join (wr := [(h0, .inr (5, [.ref q1, .int 0, .int 0, .int 0])), (q1, .inl (cA2, 5, .inr (.inr (.inr (.inr (va_up (va_up (va_up (va_up (fun _ => none) 0 (some q3)) 1 (some q4)) 2 (some q5)) 3 (some q6))))))), (q3, .inr (4, [.int 0, .int 0, .int 0, .int 0, .int 0, .int 0, .int 0])), (q4, .inr (4, [.int 0, .int 0, .int 0, .int 0, .int 0, .int 0, .int 0])), (q5, .inr (4, [.int 0, .int 0, .int 0, .int 0, .int 0, .int 0, .int 0])), (q6, .inr (4, [.int 0, .int 0, .int 0, .int 0, .int 0, .int 0, .int 0]))]) (w1 := [(q7, .inr (4, [.int 0, .int 0, .int 0, .int 0, .int 0, .int 0, .int 0]))]) hP hD [6] [0, 1, 2, 3, 4, 5] rfl rfl (by decide) (by decide) hk1 hFc hP1 hD1
  have hK := (hK.sub (tys' := [(cA2, .object "BackColumns$Reading")]) [0] rfl).app hK1
  generalize H1 = H at hP hS ⊢
  have hP : va_P D x_cls [(h0, .inr (5, [.ref q1, .int 0, .int 0, .int 0])), (q1, .inl (cA2, 5, .inr (.inr (.inr (.inr (va_up (va_up (va_up (va_up (fun _ => none) 0 (some q3)) 1 (some q4)) 2 (some q5)) 3 (some q6))))))), (q3, .inr (4, [.int 0, .int 0, .int 0, .int 0, .int 0, .int 0, .int 0])), (q4, .inr (4, [.int 0, .int 0, .int 0, .int 0, .int 0, .int 0, .int 0])), (q5, .inr (4, [.int 0, .int 0, .int 0, .int 0, .int 0, .int 0, .int 0])), (q6, .inr (4, [.int 0, .int 0, .int 0, .int 0, .int 0, .int 0, .int 0])), (q7, .inr (4, [.int 0, .int 0, .int 0, .int 0, .int 0, .int 0, .int 0]))] H := hP
  have hD : va_D A [(h0, .inr (5, [.ref q1, .int 0, .int 0, .int 0])), (q1, .inl (cA2, 5, .inr (.inr (.inr (.inr (va_up (va_up (va_up (va_up (fun _ => none) 0 (some q3)) 1 (some q4)) 2 (some q5)) 3 (some q6))))))), (q3, .inr (4, [.int 0, .int 0, .int 0, .int 0, .int 0, .int 0, .int 0])), (q4, .inr (4, [.int 0, .int 0, .int 0, .int 0, .int 0, .int 0, .int 0])), (q5, .inr (4, [.int 0, .int 0, .int 0, .int 0, .int 0, .int 0, .int 0])), (q6, .inr (4, [.int 0, .int 0, .int 0, .int 0, .int 0, .int 0, .int 0])), (q7, .inr (4, [.int 0, .int 0, .int 0, .int 0, .int 0, .int 0, .int 0]))] := hD
  have hK : va_K D x_cls [(cA2, .object "BackColumns$Reading")] s := hK
  refine W.widen (k := 6) (n := 40) (by decide) (by decide) ?_
  refine va_astq (r := (x_R4, x_T4, 7)) hx hb hK hP hD hS 1 0 6 4 rfl rfl rfl rfl (by unfold vp_in; decide) d_iSearch_50 (fun H locs hP hD hS => ?_)
  have hP : va_P D x_cls [(h0, .inr (5, [.ref q1, .int 0, .int 0, .int 0])), (q1, .inl (cA2, 5, .inr (.inr (.inr (.inr (va_up (va_up (va_up (va_up (va_up (fun _ => none) 0 (some q3)) 1 (some q4)) 2 (some q5)) 3 (some q6)) 4 (some q7))))))), (q3, .inr (4, [.int 0, .int 0, .int 0, .int 0, .int 0, .int 0, .int 0])), (q4, .inr (4, [.int 0, .int 0, .int 0, .int 0, .int 0, .int 0, .int 0])), (q5, .inr (4, [.int 0, .int 0, .int 0, .int 0, .int 0, .int 0, .int 0])), (q6, .inr (4, [.int 0, .int 0, .int 0, .int 0, .int 0, .int 0, .int 0])), (q7, .inr (4, [.int 0, .int 0, .int 0, .int 0, .int 0, .int 0, .int 0]))] H := hP
  have hD : va_D A [(h0, .inr (5, [.ref q1, .int 0, .int 0, .int 0])), (q1, .inl (cA2, 5, .inr (.inr (.inr (.inr (va_up (va_up (va_up (va_up (va_up (fun _ => none) 0 (some q3)) 1 (some q4)) 2 (some q5)) 3 (some q6)) 4 (some q7))))))), (q3, .inr (4, [.int 0, .int 0, .int 0, .int 0, .int 0, .int 0, .int 0])), (q4, .inr (4, [.int 0, .int 0, .int 0, .int 0, .int 0, .int 0, .int 0])), (q5, .inr (4, [.int 0, .int 0, .int 0, .int 0, .int 0, .int 0, .int 0])), (q6, .inr (4, [.int 0, .int 0, .int 0, .int 0, .int 0, .int 0, .int 0])), (q7, .inr (4, [.int 0, .int 0, .int 0, .int 0, .int 0, .int 0, .int 0]))] := hD
  refine lv_iinc (v := 5) (lv' := [(1, .int 5), (0, .ref h0)]) hx hb d_iSearch_51 hl (k := 0) rfl (by decide) (by decide) rfl (fun ls hl => ?_)
  refine lv_goto (tgt := 29) hx hb d_iSearch_54 (by decide) ?_
  refine lv_iload_n hx hb d_iSearch_29 rfl (lv_at hl 0 rfl) ?_
  refine lv_aload_n hx hb d_iSearch_30 rfl (lv_at hl 1 rfl) ?_
  refine va_get (D := D) (ci := 5) (v := .ref q1) (C := x_R5) (T := x_T5) (N := 4) hx hb hts x_lay5 hown hK hP 0 rfl rfl 0 (by decide) (hts (.fieldLink x_R5 11 "BackColumns$Search" "rows" "[LBackColumns$Reading;") (x_in1 (List.mem_of_getElem? (i := 175) rfl) rfl)) (fun _ h9 => h9) rfl d_iSearch_31 ?_
  refine va_alen (v := 5) hx hb hK hP 1 0 rfl rfl rfl d_iSearch_34 ?_
  refine lv_icmp_ge (tgt := 57) hx hb d_iSearch_35 (by decide) (fun _ => ?_) (fun c9 => absurd (by decide) c9)
  have hP9 := hP.sub (ws' := [(h0, .inr (5, [.ref q1, .int 0, .int 0, .int 0])), (q1, .inl (cA2, 5, .inr (.inr (.inr (.inr (va_up (va_up (va_up (va_up (va_up (fun _ => none) 0 (some q3)) 1 (some q4)) 2 (some q5)) 3 (some q6)) 4 (some q7))))))), (q3, .inr (4, [.int 0, .int 0, .int 0, .int 0, .int 0, .int 0, .int 0])), (q4, .inr (4, [.int 0, .int 0, .int 0, .int 0, .int 0, .int 0, .int 0])), (q5, .inr (4, [.int 0, .int 0, .int 0, .int 0, .int 0, .int 0, .int 0])), (q6, .inr (4, [.int 0, .int 0, .int 0, .int 0, .int 0, .int 0, .int 0])), (q7, .inr (4, [.int 0, .int 0, .int 0, .int 0, .int 0, .int 0, .int 0]))]) [0, 1, 2, 3, 4, 5, 6] rfl
  have hD9 := hD.sub (ws' := [(h0, .inr (5, [.ref q1, .int 0, .int 0, .int 0])), (q1, .inl (cA2, 5, .inr (.inr (.inr (.inr (va_up (va_up (va_up (va_up (va_up (fun _ => none) 0 (some q3)) 1 (some q4)) 2 (some q5)) 3 (some q6)) 4 (some q7))))))), (q3, .inr (4, [.int 0, .int 0, .int 0, .int 0, .int 0, .int 0, .int 0])), (q4, .inr (4, [.int 0, .int 0, .int 0, .int 0, .int 0, .int 0, .int 0])), (q5, .inr (4, [.int 0, .int 0, .int 0, .int 0, .int 0, .int 0, .int 0])), (q6, .inr (4, [.int 0, .int 0, .int 0, .int 0, .int 0, .int 0, .int 0])), (q7, .inr (4, [.int 0, .int 0, .int 0, .int 0, .int 0, .int 0, .int 0]))]) [0, 1, 2, 3, 4, 5, 6] (by decide) rfl
  have hK9 := hK.sub (tys' := [(cA2, .object "BackColumns$Reading")]) [0] rfl
  exact W.vret hx hb hr (fun t ht hW => ⟨⟨(), rfl, trivial, q1, q3, q4, q5, q6, q7, cA2, by rw [ht]; exact hP9, va_K.moved hW.alike hK9, hD9⟩, hS.F ht⟩) hS.2.2 d_iSearch_57
