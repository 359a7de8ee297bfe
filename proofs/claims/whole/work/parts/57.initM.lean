/-! BackColumnsModel.<init>: printed by wip/whole/gen/initM57.py -/
def y_mkM : MethodName := ⟨x_R9, "<init>", "()V"⟩
theorem iM_in : Cond.code y_mkM prog_11_method_1_code 1 none ∈ xT := x_in3 (List.mem_of_getElem? (i := 217) rfl) rfl
theorem d_iM_0 : decode prog_11_method_1_code 0 = .ok (.aload_n 0, 1) := by decide +kernel
theorem d_iM_1 : decode prog_11_method_1_code 1 = .ok (.invokespecial 1, 3) := by decide +kernel
theorem d_iM_4 : decode prog_11_method_1_code 4 = .ok (.aload_n 0, 1) := by decide +kernel
theorem d_iM_5 : decode prog_11_method_1_code 5 = .ok (.sipush 200, 3) := by decide +kernel
theorem d_iM_8 : decode prog_11_method_1_code 8 = .ok (.newarray .int, 2) := by decide +kernel
theorem d_iM_10 : decode prog_11_method_1_code 10 = .ok (.putfield 7, 3) := by decide +kernel
theorem d_iM_13 : decode prog_11_method_1_code 13 = .ok (.aload_n 0, 1) := by decide +kernel
theorem d_iM_14 : decode prog_11_method_1_code 14 = .ok (.bipush 30, 2) := by decide +kernel
theorem d_iM_16 : decode prog_11_method_1_code 16 = .ok (.newarray .int, 2) := by decide +kernel
theorem d_iM_18 : decode prog_11_method_1_code 18 = .ok (.putfield 13, 3) := by decide +kernel
theorem d_iM_21 : decode prog_11_method_1_code 21 = .ok (.aload_n 0, 1) := by decide +kernel
theorem d_iM_22 : decode prog_11_method_1_code 22 = .ok (.bipush 30, 2) := by decide +kernel
theorem d_iM_24 : decode prog_11_method_1_code 24 = .ok (.newarray .int, 2) := by decide +kernel
theorem d_iM_26 : decode prog_11_method_1_code 26 = .ok (.putfield 16, 3) := by decide +kernel
theorem d_iM_29 : decode prog_11_method_1_code 29 = .ok (.aload_n 0, 1) := by decide +kernel
theorem d_iM_30 : decode prog_11_method_1_code 30 = .ok (.bipush 15, 2) := by decide +kernel
theorem d_iM_32 : decode prog_11_method_1_code 32 = .ok (.newarray .int, 2) := by decide +kernel
theorem d_iM_34 : decode prog_11_method_1_code 34 = .ok (.putfield 19, 3) := by decide +kernel
theorem d_iM_37 : decode prog_11_method_1_code 37 = .ok (.aload_n 0, 1) := by decide +kernel
theorem d_iM_38 : decode prog_11_method_1_code 38 = .ok (.bipush 15, 2) := by decide +kernel
theorem d_iM_40 : decode prog_11_method_1_code 40 = .ok (.newarray .int, 2) := by decide +kernel
theorem d_iM_42 : decode prog_11_method_1_code 42 = .ok (.putfield 22, 3) := by decide +kernel
theorem d_iM_45 : decode prog_11_method_1_code 45 = .ok (.aload_n 0, 1) := by decide +kernel
theorem d_iM_46 : decode prog_11_method_1_code 46 = .ok (.bipush 120, 2) := by decide +kernel
theorem d_iM_48 : decode prog_11_method_1_code 48 = .ok (.newarray .int, 2) := by decide +kernel
theorem d_iM_50 : decode prog_11_method_1_code 50 = .ok (.putfield 25, 3) := by decide +kernel
theorem d_iM_53 : decode prog_11_method_1_code 53 = .ok (.aload_n 0, 1) := by decide +kernel
theorem d_iM_54 : decode prog_11_method_1_code 54 = .ok (.bipush 30, 2) := by decide +kernel
theorem d_iM_56 : decode prog_11_method_1_code 56 = .ok (.newarray .int, 2) := by decide +kernel
theorem d_iM_58 : decode prog_11_method_1_code 58 = .ok (.putfield 28, 3) := by decide +kernel
theorem d_iM_61 : decode prog_11_method_1_code 61 = .ok (.aload_n 0, 1) := by decide +kernel
theorem d_iM_62 : decode prog_11_method_1_code 62 = .ok (.bipush 16, 2) := by decide +kernel
theorem d_iM_64 : decode prog_11_method_1_code 64 = .ok (.newarray .int, 2) := by decide +kernel
theorem d_iM_66 : decode prog_11_method_1_code 66 = .ok (.putfield 31, 3) := by decide +kernel
theorem d_iM_69 : decode prog_11_method_1_code 69 = .ok (.aload_n 0, 1) := by decide +kernel
theorem d_iM_70 : decode prog_11_method_1_code 70 = .ok (.invokevirtual 34, 3) := by decide +kernel
theorem d_iM_73 : decode prog_11_method_1_code 73 = .ok (.aload_n 0, 1) := by decide +kernel
theorem d_iM_74 : decode prog_11_method_1_code 74 = .ok (.iconst 3, 1) := by decide +kernel
theorem d_iM_75 : decode prog_11_method_1_code 75 = .ok (.iconst 1, 1) := by decide +kernel
theorem d_iM_76 : decode prog_11_method_1_code 76 = .ok (.iconst 4, 1) := by decide +kernel
theorem d_iM_77 : decode prog_11_method_1_code 77 = .ok (.invokevirtual 37, 3) := by decide +kernel
theorem d_iM_80 : decode prog_11_method_1_code 80 = .ok (.aload_n 0, 1) := by decide +kernel
theorem d_iM_81 : decode prog_11_method_1_code 81 = .ok (.iconst 2, 1) := by decide +kernel
theorem d_iM_82 : decode prog_11_method_1_code 82 = .ok (.iconst 5, 1) := by decide +kernel
theorem d_iM_83 : decode prog_11_method_1_code 83 = .ok (.iconst 5, 1) := by decide +kernel
theorem d_iM_84 : decode prog_11_method_1_code 84 = .ok (.invokevirtual 37, 3) := by decide +kernel
theorem d_iM_87 : decode prog_11_method_1_code 87 = .ok (.aload_n 0, 1) := by decide +kernel
theorem d_iM_88 : decode prog_11_method_1_code 88 = .ok (.iconst 4, 1) := by decide +kernel
theorem d_iM_89 : decode prog_11_method_1_code 89 = .ok (.iconst 2, 1) := by decide +kernel
theorem d_iM_90 : decode prog_11_method_1_code 90 = .ok (.bipush 7, 2) := by decide +kernel
theorem d_iM_92 : decode prog_11_method_1_code 92 = .ok (.invokevirtual 37, 3) := by decide +kernel
theorem d_iM_95 : decode prog_11_method_1_code 95 = .ok (.aload_n 0, 1) := by decide +kernel
theorem d_iM_96 : decode prog_11_method_1_code 96 = .ok (.iconst 1, 1) := by decide +kernel
theorem d_iM_97 : decode prog_11_method_1_code 97 = .ok (.iconst 0, 1) := by decide +kernel
theorem d_iM_98 : decode prog_11_method_1_code 98 = .ok (.iconst 3, 1) := by decide +kernel
theorem d_iM_99 : decode prog_11_method_1_code 99 = .ok (.invokevirtual 37, 3) := by decide +kernel
theorem d_iM_102 : decode prog_11_method_1_code 102 = .ok (.aload_n 0, 1) := by decide +kernel
theorem d_iM_103 : decode prog_11_method_1_code 103 = .ok (.iconst 5, 1) := by decide +kernel
theorem d_iM_104 : decode prog_11_method_1_code 104 = .ok (.bipush 6, 2) := by decide +kernel
theorem d_iM_106 : decode prog_11_method_1_code 106 = .ok (.iconst 1, 1) := by decide +kernel
theorem d_iM_107 : decode prog_11_method_1_code 107 = .ok (.invokevirtual 37, 3) := by decide +kernel
theorem d_iM_110 : decode prog_11_method_1_code 110 = .ok (.aload_n 0, 1) := by decide +kernel
theorem d_iM_111 : decode prog_11_method_1_code 111 = .ok (.iconst 0, 1) := by decide +kernel
theorem d_iM_112 : decode prog_11_method_1_code 112 = .ok (.bipush 6, 2) := by decide +kernel
theorem d_iM_114 : decode prog_11_method_1_code 114 = .ok (.invokevirtual 41, 3) := by decide +kernel
theorem d_iM_117 : decode prog_11_method_1_code 117 = .ok (.aload_n 0, 1) := by decide +kernel
theorem d_iM_118 : decode prog_11_method_1_code 118 = .ok (.iconst 1, 1) := by decide +kernel
theorem d_iM_119 : decode prog_11_method_1_code 119 = .ok (.bipush 9, 2) := by decide +kernel
theorem d_iM_121 : decode prog_11_method_1_code 121 = .ok (.invokevirtual 41, 3) := by decide +kernel
theorem d_iM_124 : decode prog_11_method_1_code 124 = .ok (.aload_n 0, 1) := by decide +kernel
theorem d_iM_125 : decode prog_11_method_1_code 125 = .ok (.iconst 2, 1) := by decide +kernel
theorem d_iM_126 : decode prog_11_method_1_code 126 = .ok (.iconst 4, 1) := by decide +kernel
theorem d_iM_127 : decode prog_11_method_1_code 127 = .ok (.invokevirtual 41, 3) := by decide +kernel
theorem d_iM_130 : decode prog_11_method_1_code 130 = .ok (.aload_n 0, 1) := by decide +kernel
theorem d_iM_131 : decode prog_11_method_1_code 131 = .ok (.iconst 3, 1) := by decide +kernel
theorem d_iM_132 : decode prog_11_method_1_code 132 = .ok (.bipush 8, 2) := by decide +kernel
theorem d_iM_134 : decode prog_11_method_1_code 134 = .ok (.invokevirtual 41, 3) := by decide +kernel
theorem d_iM_137 : decode prog_11_method_1_code 137 = .ok (.aload_n 0, 1) := by decide +kernel
theorem d_iM_138 : decode prog_11_method_1_code 138 = .ok (.iconst 1, 1) := by decide +kernel
theorem d_iM_139 : decode prog_11_method_1_code 139 = .ok (.iconst 2, 1) := by decide +kernel
theorem d_iM_140 : decode prog_11_method_1_code 140 = .ok (.invokevirtual 41, 3) := by decide +kernel
theorem d_iM_143 : decode prog_11_method_1_code 143 = .ok (.aload_n 0, 1) := by decide +kernel
theorem d_iM_144 : decode prog_11_method_1_code 144 = .ok (.bipush 12, 2) := by decide +kernel
theorem d_iM_146 : decode prog_11_method_1_code 146 = .ok (.invokevirtual 45, 3) := by decide +kernel
theorem d_iM_149 : decode prog_11_method_1_code 149 = .ok (.aload_n 0, 1) := by decide +kernel
theorem d_iM_150 : decode prog_11_method_1_code 150 = .ok (.bipush 35, 2) := by decide +kernel
theorem d_iM_152 : decode prog_11_method_1_code 152 = .ok (.invokevirtual 45, 3) := by decide +kernel
theorem d_iM_155 : decode prog_11_method_1_code 155 = .ok (.aload_n 0, 1) := by decide +kernel
theorem d_iM_156 : decode prog_11_method_1_code 156 = .ok (.sipush 241, 3) := by decide +kernel
theorem d_iM_159 : decode prog_11_method_1_code 159 = .ok (.invokevirtual 45, 3) := by decide +kernel
theorem d_iM_162 : decode prog_11_method_1_code 162 = .ok (.aload_n 0, 1) := by decide +kernel
theorem d_iM_163 : decode prog_11_method_1_code 163 = .ok (.iconst 4, 1) := by decide +kernel
theorem d_iM_164 : decode prog_11_method_1_code 164 = .ok (.invokevirtual 45, 3) := by decide +kernel
theorem d_iM_167 : decode prog_11_method_1_code 167 = .ok (.aload_n 0, 1) := by decide +kernel
theorem d_iM_168 : decode prog_11_method_1_code 168 = .ok (.invokevirtual 49, 3) := by decide +kernel
theorem d_iM_171 : decode prog_11_method_1_code 171 = .ok (.return_, 1) := by decide +kernel
theorem x_shM_ok : x_shok x_shM 9 := by
  have key : ∀ k, ¬ k < 9 → x_shM k = .inr (9, 0, []) := fun k hk => by
    unfold x_shM
    rw [show Nat.blt k 9 = false from by rw [Bool.eq_false_iff, ne_eq, Nat.blt_eq]; exact hk]
    rfl
  refine ⟨fun k q h => ?_, fun k ty n rs h ht => ?_, ⟨0, [], rfl⟩⟩
  · by_cases hk : k < 9
    · exact hk
    · rw [key k hk] at h; cases h
  · by_cases hk : k < 9
    · exact hk
    · rw [key k hk] at h; cases h; omega
theorem z_xM {ad : Nat → Nat} {A : Nat → Prop} {M : xM} {U : State} {H : Heap} : x_Xp x_shM ad A M U H := fun a n rs h => by
  exfalso
  have key : ∀ a, a < 9 → z_no3 (x_shM a) = true := by decide
  by_cases ha : a < 9
  · have := key a ha
    rw [h] at this
    cases this
  · unfold x_shM at h
    rw [show Nat.blt a 9 = false from by rw [Bool.eq_false_iff, ne_eq, Nat.blt_eq]; exact ha] at h
    cases h
set_option maxRecDepth 20000 in
theorem z_wM (ad : Nat → Nat) (aC : Nat → ClassId) (M : xM) : x_w x_shM 9 ad aC M = [(ad 0, .inr (9, [.ref (ad 1), .int (M 0 1), .ref (ad 2), .ref (ad 3), .ref (ad 4), .ref (ad 5), .ref (ad 6), .int (M 0 7), .ref (ad 7), .int (M 0 9), .ref (ad 8), .int (M 0 11), .int (M 0 12)])), (ad 1, .inl (aC 1, 200, .inl (M 1))), (ad 2, .inl (aC 2, 30, .inl (M 2))), (ad 3, .inl (aC 3, 30, .inl (M 3))), (ad 4, .inl (aC 4, 15, .inl (M 4))), (ad 5, .inl (aC 5, 15, .inl (M 5))), (ad 6, .inl (aC 6, 120, .inl (M 6))), (ad 7, .inl (aC 7, 30, .inl (M 7))), (ad 8, .inl (aC 8, 16, .inl (M 8)))] := rfl
set_option maxHeartbeats 8000000 in
set_option maxRecDepth 100000 in
theorem c_iM (l : Launch) (D : va_G) (h0 sz : Nat) : Met l y_mkM (Cond.code y_mkM prog_11_method_1_code 1 none :: xT) ({ frames := 4, cells := 8, slots := 456, locals := 300 }) (va_Pc [.ref h0] (fun U => U.heap.size = sz ∧ va_P D x_cls [(h0, .inr (9, [.null, .int 0, .null, .null, .null, .null, .null, .int 0, .null, .int 0, .null, .int 0, .int 0]))] U.heap ∧ va_K D x_cls [] U ∧ va_D (fun _ => True) [(h0, .inr (9, [.null, .int 0, .null, .null, .null, .null, .null, .int 0, .null, .int 0, .null, .int 0, .int 0]))] ∧ z_nst U)) (va_Qv (fun _ : Unit => True) (fun _ t => ∃ (ad : Nat → Nat) (aC : Nat → ClassId), ad 0 = h0 ∧ va_P D x_cls (x_w x_shM 9 ad aC z_K16) t.heap ∧ va_D (va_A [(h0, .inr (9, [.null, .int 0, .null, .null, .null, .null, .null, .int 0, .null, .int 0, .null, .int 0, .int 0]))] sz) (x_w x_shM 9 ad aC z_K16) ∧ z_arr x_shM 9 aC t) (va_A [(h0, .inr (9, [.null, .int 0, .null, .null, .null, .null, .null, .int 0, .null, .int 0, .null, .int 0, .int 0]))] sz)) 8 456 (va_A [(h0, .inr (9, [.null, .int 0, .null, .null, .null, .null, .null, .int 0, .null, .int 0, .null, .int 0, .int 0]))] sz) := by
  refine Met.ofW (cc := prog_11_method_1_code) (maxL := 1) (ret := none) (by decide) rfl ?_
  intro p e s m args below meth c s₁ B hml hv
  obtain ⟨rfl, hsz, hP, hK, hD0, hNn⟩ := hv
  have hx := B.exec
  have hb := B.bytes
  have hr := B.returns
  have hts0 := atoms_spec (ws := Cond.code y_mkM prog_11_method_1_code 1 none :: xT) B.pre
  have hts : ∀ w ∈ xT, w.before _ s = true := fun w hw => hts0 w (List.mem_cons_of_mem _ hw)
  have hown : s.vm.findClass x_R9 = some m.cls := findClass_of_methodNamed B.named
  have hlocks := B.notSynchronized
  have hin : meth.name = "<init>" := (name_of_methodNamed B.named B.method).1
  subst hsz
  have hD := hD0.self (sz := s.heap.size)
  generalize hAe : va_A [(h0, .inr (9, [.null, .int 0, .null, .null, .null, .null, .null, .int 0, .null, .int 0, .null, .int 0, .int 0]))] s.heap.size = A at hD ⊢
  have hA : ∀ q : Nat, s.heap.size ≤ q → A q := fun q h => by rw [← hAe]; exact Or.inr h
  have hS : va_S A s.heap s.heap [] := va_S.rf
  have hP : va_P D x_cls [(h0, .inr (9, [.null, .int 0, .null, .null, .null, .null, .null, .int 0, .null, .int 0, .null, .int 0, .int 0]))] s.heap := hP
  have hl := lv_entry ([.ref h0]) (n := 1) (Nat.le_of_ble_eq_true rfl)
  rw [lg_entry_eq]
  generalize (lg_sl ([.ref h0]) ++ List.replicate (1 - (lg_sl ([.ref h0])).length) Slot.unset).toArray = ls at hl ⊢
  have hl : lv_has ls 1 [(0, .ref h0)] := hl
  refine lv_aload_n hx hb d_iM_0 rfl (lv_at hl 0 rfl) ?_
  refine W.objInit hx hb hown (hts (.methodLink x_R9 1 Lib.objectInit) (x_in3 (List.mem_of_getElem? (i := 218) rfl) rfl)) (hts (.instanceMethod Lib.objectInit) (x_in1 (List.mem_of_getElem? (i := 24) rfl) rfl)) (hts (.code Lib.objectInit ⟨#[0xb1]⟩ 1 none) (x_in1 (List.mem_of_getElem? (i := 25) rfl) rfl)) rfl (by rw [hml]; exact hl.1) rfl d_iM_1 (Nat.le_of_ble_eq_true rfl) (Nat.le_of_ble_eq_true rfl) ?_
  refine W.eq (g2 := F0 m 4 ls []) rfl ?_
  refine lv_aload_n hx hb d_iM_4 rfl (lv_at hl 0 rfl) ?_
  refine lv_sipush (v := 200) hx hb d_iM_5 (by decide) ?_
  refine va_newa (atype := .int) (ty := .int) (a0 := (200, .inl (fun _ => 0))) hx hb (hts (.arrayClass .int) (x_in1 (List.mem_of_getElem? (i := 91) rfl) rfl)) rfl hK hP hD hS hA (fun _ => rfl) (by decide) (by decide) (by decide) (by decide) (by decide) d_iM_8 (fun q1 cA2 H hK hP hD hS => ?_)
  have hP : va_P D x_cls [(h0, .inr (9, [.null, .int 0, .null, .null, .null, .null, .null, .int 0, .null, .int 0, .null, .int 0, .int 0])), (q1, .inl (cA2, 200, .inl (fun _ => 0)))] H := hP
  have hD : va_D A [(h0, .inr (9, [.null, .int 0, .null, .null, .null, .null, .null, .int 0, .null, .int 0, .null, .int 0, .int 0])), (q1, .inl (cA2, 200, .inl (fun _ => 0)))] := hD
  have hK : va_K D x_cls [(cA2, .int)] s := hK
  refine W.widen (k := 1) (n := 200) (by decide) (by decide) ?_
  refine va_putF (D := D) (ci := 9) (v := .ref q1) (ty := .array .int) (C := x_R9) (T := x_T9) (N := 13) hx hb hts x_lay9 x_ty9 x_tyk9 x_nm9 hown hK hP hD hS 0 rfl rfl 0 (by decide) (hts (.fieldLink x_R9 7 "BackColumnsModel" "text" "[I") (x_in3 (List.mem_of_getElem? (i := 239) rfl) rfl)) (fun _ h9 => h9) rfl hin rfl (by decide +kernel) rfl rfl (Nat.le_of_ble_eq_true rfl) d_iM_10 (fun H locs hP hD hS => ?_)
  have hP : va_P D x_cls [(h0, .inr (9, [.ref q1, .int 0, .null, .null, .null, .null, .null, .int 0, .null, .int 0, .null, .int 0, .int 0])), (q1, .inl (cA2, 200, .inl (fun _ => 0)))] H := hP
  have hD : va_D A [(h0, .inr (9, [.ref q1, .int 0, .null, .null, .null, .null, .null, .int 0, .null, .int 0, .null, .int 0, .int 0])), (q1, .inl (cA2, 200, .inl (fun _ => 0)))] := hD
  refine lv_aload_n hx hb d_iM_13 rfl (lv_at hl 0 rfl) ?_
  refine lv_bipush (v := 30) hx hb d_iM_14 (by decide) ?_
  refine va_newa (atype := .int) (ty := .int) (a0 := (30, .inl (fun _ => 0))) hx hb (hts (.arrayClass .int) (x_in1 (List.mem_of_getElem? (i := 91) rfl) rfl)) rfl hK hP hD hS hA (fun _ => rfl) (by decide) (by decide) (by decide) (by decide) (by decide) d_iM_16 (fun q3 cA4 H hK hP hD hS => ?_)
  have hP : va_P D x_cls [(h0, .inr (9, [.ref q1, .int 0, .null, .null, .null, .null, .null, .int 0, .null, .int 0, .null, .int 0, .int 0])), (q1, .inl (cA2, 200, .inl (fun _ => 0))), (q3, .inl (cA4, 30, .inl (fun _ => 0)))] H := hP
  have hD : va_D A [(h0, .inr (9, [.ref q1, .int 0, .null, .null, .null, .null, .null, .int 0, .null, .int 0, .null, .int 0, .int 0])), (q1, .inl (cA2, 200, .inl (fun _ => 0))), (q3, .inl (cA4, 30, .inl (fun _ => 0)))] := hD
  have hK : va_K D x_cls [(cA2, .int), (cA4, .int)] s := hK
  refine W.widen (k := 2) (n := 230) (by decide) (by decide) ?_
  refine va_putF (D := D) (ci := 9) (v := .ref q3) (ty := .array .int) (C := x_R9) (T := x_T9) (N := 13) hx hb hts x_lay9 x_ty9 x_tyk9 x_nm9 hown hK hP hD hS 0 rfl rfl 2 (by decide) (hts (.fieldLink x_R9 13 "BackColumnsModel" "told" "[I") (x_in4 (List.mem_of_getElem? (i := 1) rfl) rfl)) (fun _ h9 => h9) rfl hin rfl (by decide +kernel) rfl rfl (Nat.le_of_ble_eq_true rfl) d_iM_18 (fun H locs hP hD hS => ?_)
  have hP : va_P D x_cls [(h0, .inr (9, [.ref q1, .int 0, .ref q3, .null, .null, .null, .null, .int 0, .null, .int 0, .null, .int 0, .int 0])), (q1, .inl (cA2, 200, .inl (fun _ => 0))), (q3, .inl (cA4, 30, .inl (fun _ => 0)))] H := hP
  have hD : va_D A [(h0, .inr (9, [.ref q1, .int 0, .ref q3, .null, .null, .null, .null, .int 0, .null, .int 0, .null, .int 0, .int 0])), (q1, .inl (cA2, 200, .inl (fun _ => 0))), (q3, .inl (cA4, 30, .inl (fun _ => 0)))] := hD
  refine lv_aload_n hx hb d_iM_21 rfl (lv_at hl 0 rfl) ?_
  refine lv_bipush (v := 30) hx hb d_iM_22 (by decide) ?_
  refine va_newa (atype := .int) (ty := .int) (a0 := (30, .inl (fun _ => 0))) hx hb (hts (.arrayClass .int) (x_in1 (List.mem_of_getElem? (i := 91) rfl) rfl)) rfl hK hP hD hS hA (fun _ => rfl) (by decide) (by decide) (by decide) (by decide) (by decide) d_iM_24 (fun q5 cA6 H hK hP hD hS => ?_)
  have hP : va_P D x_cls [(h0, .inr (9, [.ref q1, .int 0, .ref q3, .null, .null, .null, .null, .int 0, .null, .int 0, .null, .int 0, .int 0])), (q1, .inl (cA2, 200, .inl (fun _ => 0))), (q3, .inl (cA4, 30, .inl (fun _ => 0))), (q5, .inl (cA6, 30, .inl (fun _ => 0)))] H := hP
  have hD : va_D A [(h0, .inr (9, [.ref q1, .int 0, .ref q3, .null, .null, .null, .null, .int 0, .null, .int 0, .null, .int 0, .int 0])), (q1, .inl (cA2, 200, .inl (fun _ => 0))), (q3, .inl (cA4, 30, .inl (fun _ => 0))), (q5, .inl (cA6, 30, .inl (fun _ => 0)))] := hD
  have hK : va_K D x_cls [(cA2, .int), (cA4, .int), (cA6, .int)] s := hK
  refine W.widen (k := 3) (n := 260) (by decide) (by decide) ?_
  refine va_putF (D := D) (ci := 9) (v := .ref q5) (ty := .array .int) (C := x_R9) (T := x_T9) (N := 13) hx hb hts x_lay9 x_ty9 x_tyk9 x_nm9 hown hK hP hD hS 0 rfl rfl 3 (by decide) (hts (.fieldLink x_R9 16 "BackColumnsModel" "draft" "[I") (x_in4 (List.mem_of_getElem? (i := 2) rfl) rfl)) (fun _ h9 => h9) rfl hin rfl (by decide +kernel) rfl rfl (Nat.le_of_ble_eq_true rfl) d_iM_26 (fun H locs hP hD hS => ?_)
  have hP : va_P D x_cls [(h0, .inr (9, [.ref q1, .int 0, .ref q3, .ref q5, .null, .null, .null, .int 0, .null, .int 0, .null, .int 0, .int 0])), (q1, .inl (cA2, 200, .inl (fun _ => 0))), (q3, .inl (cA4, 30, .inl (fun _ => 0))), (q5, .inl (cA6, 30, .inl (fun _ => 0)))] H := hP
  have hD : va_D A [(h0, .inr (9, [.ref q1, .int 0, .ref q3, .ref q5, .null, .null, .null, .int 0, .null, .int 0, .null, .int 0, .int 0])), (q1, .inl (cA2, 200, .inl (fun _ => 0))), (q3, .inl (cA4, 30, .inl (fun _ => 0))), (q5, .inl (cA6, 30, .inl (fun _ => 0)))] := hD
  refine lv_aload_n hx hb d_iM_29 rfl (lv_at hl 0 rfl) ?_
  refine lv_bipush (v := 15) hx hb d_iM_30 (by decide) ?_
  refine va_newa (atype := .int) (ty := .int) (a0 := (15, .inl (fun _ => 0))) hx hb (hts (.arrayClass .int) (x_in1 (List.mem_of_getElem? (i := 91) rfl) rfl)) rfl hK hP hD hS hA (fun _ => rfl) (by decide) (by decide) (by decide) (by decide) (by decide) d_iM_32 (fun q7 cA8 H hK hP hD hS => ?_)
  have hP : va_P D x_cls [(h0, .inr (9, [.ref q1, .int 0, .ref q3, .ref q5, .null, .null, .null, .int 0, .null, .int 0, .null, .int 0, .int 0])), (q1, .inl (cA2, 200, .inl (fun _ => 0))), (q3, .inl (cA4, 30, .inl (fun _ => 0))), (q5, .inl (cA6, 30, .inl (fun _ => 0))), (q7, .inl (cA8, 15, .inl (fun _ => 0)))] H := hP
  have hD : va_D A [(h0, .inr (9, [.ref q1, .int 0, .ref q3, .ref q5, .null, .null, .null, .int 0, .null, .int 0, .null, .int 0, .int 0])), (q1, .inl (cA2, 200, .inl (fun _ => 0))), (q3, .inl (cA4, 30, .inl (fun _ => 0))), (q5, .inl (cA6, 30, .inl (fun _ => 0))), (q7, .inl (cA8, 15, .inl (fun _ => 0)))] := hD
  have hK : va_K D x_cls [(cA2, .int), (cA4, .int), (cA6, .int), (cA8, .int)] s := hK
  refine W.widen (k := 4) (n := 275) (by decide) (by decide) ?_
  refine va_putF (D := D) (ci := 9) (v := .ref q7) (ty := .array .int) (C := x_R9) (T := x_T9) (N := 13) hx hb hts x_lay9 x_ty9 x_tyk9 x_nm9 hown hK hP hD hS 0 rfl rfl 4 (by decide) (hts (.fieldLink x_R9 19 "BackColumnsModel" "first" "[I") (x_in4 (List.mem_of_getElem? (i := 3) rfl) rfl)) (fun _ h9 => h9) rfl hin rfl (by decide +kernel) rfl rfl (Nat.le_of_ble_eq_true rfl) d_iM_34 (fun H locs hP hD hS => ?_)
  have hP : va_P D x_cls [(h0, .inr (9, [.ref q1, .int 0, .ref q3, .ref q5, .ref q7, .null, .null, .int 0, .null, .int 0, .null, .int 0, .int 0])), (q1, .inl (cA2, 200, .inl (fun _ => 0))), (q3, .inl (cA4, 30, .inl (fun _ => 0))), (q5, .inl (cA6, 30, .inl (fun _ => 0))), (q7, .inl (cA8, 15, .inl (fun _ => 0)))] H := hP
  have hD : va_D A [(h0, .inr (9, [.ref q1, .int 0, .ref q3, .ref q5, .ref q7, .null, .null, .int 0, .null, .int 0, .null, .int 0, .int 0])), (q1, .inl (cA2, 200, .inl (fun _ => 0))), (q3, .inl (cA4, 30, .inl (fun _ => 0))), (q5, .inl (cA6, 30, .inl (fun _ => 0))), (q7, .inl (cA8, 15, .inl (fun _ => 0)))] := hD
  refine lv_aload_n hx hb d_iM_37 rfl (lv_at hl 0 rfl) ?_
  refine lv_bipush (v := 15) hx hb d_iM_38 (by decide) ?_
  refine va_newa (atype := .int) (ty := .int) (a0 := (15, .inl (fun _ => 0))) hx hb (hts (.arrayClass .int) (x_in1 (List.mem_of_getElem? (i := 91) rfl) rfl)) rfl hK hP hD hS hA (fun _ => rfl) (by decide) (by decide) (by decide) (by decide) (by decide) d_iM_40 (fun q9 cA10 H hK hP hD hS => ?_)
  have hP : va_P D x_cls [(h0, .inr (9, [.ref q1, .int 0, .ref q3, .ref q5, .ref q7, .null, .null, .int 0, .null, .int 0, .null, .int 0, .int 0])), (q1, .inl (cA2, 200, .inl (fun _ => 0))), (q3, .inl (cA4, 30, .inl (fun _ => 0))), (q5, .inl (cA6, 30, .inl (fun _ => 0))), (q7, .inl (cA8, 15, .inl (fun _ => 0))), (q9, .inl (cA10, 15, .inl (fun _ => 0)))] H := hP
  have hD : va_D A [(h0, .inr (9, [.ref q1, .int 0, .ref q3, .ref q5, .ref q7, .null, .null, .int 0, .null, .int 0, .null, .int 0, .int 0])), (q1, .inl (cA2, 200, .inl (fun _ => 0))), (q3, .inl (cA4, 30, .inl (fun _ => 0))), (q5, .inl (cA6, 30, .inl (fun _ => 0))), (q7, .inl (cA8, 15, .inl (fun _ => 0))), (q9, .inl (cA10, 15, .inl (fun _ => 0)))] := hD
  have hK : va_K D x_cls [(cA2, .int), (cA4, .int), (cA6, .int), (cA8, .int), (cA10, .int)] s := hK
  refine W.widen (k := 5) (n := 290) (by decide) (by decide) ?_
  refine va_putF (D := D) (ci := 9) (v := .ref q9) (ty := .array .int) (C := x_R9) (T := x_T9) (N := 13) hx hb hts x_lay9 x_ty9 x_tyk9 x_nm9 hown hK hP hD hS 0 rfl rfl 5 (by decide) (hts (.fieldLink x_R9 22 "BackColumnsModel" "s" "[I") (x_in4 (List.mem_of_getElem? (i := 4) rfl) rfl)) (fun _ h9 => h9) rfl hin rfl (by decide +kernel) rfl rfl (Nat.le_of_ble_eq_true rfl) d_iM_42 (fun H locs hP hD hS => ?_)
  have hP : va_P D x_cls [(h0, .inr (9, [.ref q1, .int 0, .ref q3, .ref q5, .ref q7, .ref q9, .null, .int 0, .null, .int 0, .null, .int 0, .int 0])), (q1, .inl (cA2, 200, .inl (fun _ => 0))), (q3, .inl (cA4, 30, .inl (fun _ => 0))), (q5, .inl (cA6, 30, .inl (fun _ => 0))), (q7, .inl (cA8, 15, .inl (fun _ => 0))), (q9, .inl (cA10, 15, .inl (fun _ => 0)))] H := hP
  have hD : va_D A [(h0, .inr (9, [.ref q1, .int 0, .ref q3, .ref q5, .ref q7, .ref q9, .null, .int 0, .null, .int 0, .null, .int 0, .int 0])), (q1, .inl (cA2, 200, .inl (fun _ => 0))), (q3, .inl (cA4, 30, .inl (fun _ => 0))), (q5, .inl (cA6, 30, .inl (fun _ => 0))), (q7, .inl (cA8, 15, .inl (fun _ => 0))), (q9, .inl (cA10, 15, .inl (fun _ => 0)))] := hD
  refine lv_aload_n hx hb d_iM_45 rfl (lv_at hl 0 rfl) ?_
  refine lv_bipush (v := 120) hx hb d_iM_46 (by decide) ?_
  refine va_newa (atype := .int) (ty := .int) (a0 := (120, .inl (fun _ => 0))) hx hb (hts (.arrayClass .int) (x_in1 (List.mem_of_getElem? (i := 91) rfl) rfl)) rfl hK hP hD hS hA (fun _ => rfl) (by decide) (by decide) (by decide) (by decide) (by decide) d_iM_48 (fun q11 cA12 H hK hP hD hS => ?_)
  have hP : va_P D x_cls [(h0, .inr (9, [.ref q1, .int 0, .ref q3, .ref q5, .ref q7, .ref q9, .null, .int 0, .null, .int 0, .null, .int 0, .int 0])), (q1, .inl (cA2, 200, .inl (fun _ => 0))), (q3, .inl (cA4, 30, .inl (fun _ => 0))), (q5, .inl (cA6, 30, .inl (fun _ => 0))), (q7, .inl (cA8, 15, .inl (fun _ => 0))), (q9, .inl (cA10, 15, .inl (fun _ => 0))), (q11, .inl (cA12, 120, .inl (fun _ => 0)))] H := hP
  have hD : va_D A [(h0, .inr (9, [.ref q1, .int 0, .ref q3, .ref q5, .ref q7, .ref q9, .null, .int 0, .null, .int 0, .null, .int 0, .int 0])), (q1, .inl (cA2, 200, .inl (fun _ => 0))), (q3, .inl (cA4, 30, .inl (fun _ => 0))), (q5, .inl (cA6, 30, .inl (fun _ => 0))), (q7, .inl (cA8, 15, .inl (fun _ => 0))), (q9, .inl (cA10, 15, .inl (fun _ => 0))), (q11, .inl (cA12, 120, .inl (fun _ => 0)))] := hD
  have hK : va_K D x_cls [(cA2, .int), (cA4, .int), (cA6, .int), (cA8, .int), (cA10, .int), (cA12, .int)] s := hK
  refine W.widen (k := 6) (n := 410) (by decide) (by decide) ?_
  refine va_putF (D := D) (ci := 9) (v := .ref q11) (ty := .array .int) (C := x_R9) (T := x_T9) (N := 13) hx hb hts x_lay9 x_ty9 x_tyk9 x_nm9 hown hK hP hD hS 0 rfl rfl 6 (by decide) (hts (.fieldLink x_R9 25 "BackColumnsModel" "past" "[I") (x_in4 (List.mem_of_getElem? (i := 5) rfl) rfl)) (fun _ h9 => h9) rfl hin rfl (by decide +kernel) rfl rfl (Nat.le_of_ble_eq_true rfl) d_iM_50 (fun H locs hP hD hS => ?_)
  have hP : va_P D x_cls [(h0, .inr (9, [.ref q1, .int 0, .ref q3, .ref q5, .ref q7, .ref q9, .ref q11, .int 0, .null, .int 0, .null, .int 0, .int 0])), (q1, .inl (cA2, 200, .inl (fun _ => 0))), (q3, .inl (cA4, 30, .inl (fun _ => 0))), (q5, .inl (cA6, 30, .inl (fun _ => 0))), (q7, .inl (cA8, 15, .inl (fun _ => 0))), (q9, .inl (cA10, 15, .inl (fun _ => 0))), (q11, .inl (cA12, 120, .inl (fun _ => 0)))] H := hP
  have hD : va_D A [(h0, .inr (9, [.ref q1, .int 0, .ref q3, .ref q5, .ref q7, .ref q9, .ref q11, .int 0, .null, .int 0, .null, .int 0, .int 0])), (q1, .inl (cA2, 200, .inl (fun _ => 0))), (q3, .inl (cA4, 30, .inl (fun _ => 0))), (q5, .inl (cA6, 30, .inl (fun _ => 0))), (q7, .inl (cA8, 15, .inl (fun _ => 0))), (q9, .inl (cA10, 15, .inl (fun _ => 0))), (q11, .inl (cA12, 120, .inl (fun _ => 0)))] := hD
  refine lv_aload_n hx hb d_iM_53 rfl (lv_at hl 0 rfl) ?_
  refine lv_bipush (v := 30) hx hb d_iM_54 (by decide) ?_
  refine va_newa (atype := .int) (ty := .int) (a0 := (30, .inl (fun _ => 0))) hx hb (hts (.arrayClass .int) (x_in1 (List.mem_of_getElem? (i := 91) rfl) rfl)) rfl hK hP hD hS hA (fun _ => rfl) (by decide) (by decide) (by decide) (by decide) (by decide) d_iM_56 (fun q13 cA14 H hK hP hD hS => ?_)
  have hP : va_P D x_cls [(h0, .inr (9, [.ref q1, .int 0, .ref q3, .ref q5, .ref q7, .ref q9, .ref q11, .int 0, .null, .int 0, .null, .int 0, .int 0])), (q1, .inl (cA2, 200, .inl (fun _ => 0))), (q3, .inl (cA4, 30, .inl (fun _ => 0))), (q5, .inl (cA6, 30, .inl (fun _ => 0))), (q7, .inl (cA8, 15, .inl (fun _ => 0))), (q9, .inl (cA10, 15, .inl (fun _ => 0))), (q11, .inl (cA12, 120, .inl (fun _ => 0))), (q13, .inl (cA14, 30, .inl (fun _ => 0)))] H := hP
  have hD : va_D A [(h0, .inr (9, [.ref q1, .int 0, .ref q3, .ref q5, .ref q7, .ref q9, .ref q11, .int 0, .null, .int 0, .null, .int 0, .int 0])), (q1, .inl (cA2, 200, .inl (fun _ => 0))), (q3, .inl (cA4, 30, .inl (fun _ => 0))), (q5, .inl (cA6, 30, .inl (fun _ => 0))), (q7, .inl (cA8, 15, .inl (fun _ => 0))), (q9, .inl (cA10, 15, .inl (fun _ => 0))), (q11, .inl (cA12, 120, .inl (fun _ => 0))), (q13, .inl (cA14, 30, .inl (fun _ => 0)))] := hD
  have hK : va_K D x_cls [(cA2, .int), (cA4, .int), (cA6, .int), (cA8, .int), (cA10, .int), (cA12, .int), (cA14, .int)] s := hK
  refine W.widen (k := 7) (n := 440) (by decide) (by decide) ?_
  refine va_putF (D := D) (ci := 9) (v := .ref q13) (ty := .array .int) (C := x_R9) (T := x_T9) (N := 13) hx hb hts x_lay9 x_ty9 x_tyk9 x_nm9 hown hK hP hD hS 0 rfl rfl 8 (by decide) (hts (.fieldLink x_R9 28 "BackColumnsModel" "images" "[I") (x_in4 (List.mem_of_getElem? (i := 7) rfl) rfl)) (fun _ h9 => h9) rfl hin rfl (by decide +kernel) rfl rfl (Nat.le_of_ble_eq_true rfl) d_iM_58 (fun H locs hP hD hS => ?_)
  have hP : va_P D x_cls [(h0, .inr (9, [.ref q1, .int 0, .ref q3, .ref q5, .ref q7, .ref q9, .ref q11, .int 0, .ref q13, .int 0, .null, .int 0, .int 0])), (q1, .inl (cA2, 200, .inl (fun _ => 0))), (q3, .inl (cA4, 30, .inl (fun _ => 0))), (q5, .inl (cA6, 30, .inl (fun _ => 0))), (q7, .inl (cA8, 15, .inl (fun _ => 0))), (q9, .inl (cA10, 15, .inl (fun _ => 0))), (q11, .inl (cA12, 120, .inl (fun _ => 0))), (q13, .inl (cA14, 30, .inl (fun _ => 0)))] H := hP
  have hD : va_D A [(h0, .inr (9, [.ref q1, .int 0, .ref q3, .ref q5, .ref q7, .ref q9, .ref q11, .int 0, .ref q13, .int 0, .null, .int 0, .int 0])), (q1, .inl (cA2, 200, .inl (fun _ => 0))), (q3, .inl (cA4, 30, .inl (fun _ => 0))), (q5, .inl (cA6, 30, .inl (fun _ => 0))), (q7, .inl (cA8, 15, .inl (fun _ => 0))), (q9, .inl (cA10, 15, .inl (fun _ => 0))), (q11, .inl (cA12, 120, .inl (fun _ => 0))), (q13, .inl (cA14, 30, .inl (fun _ => 0)))] := hD
  refine lv_aload_n hx hb d_iM_61 rfl (lv_at hl 0 rfl) ?_
  refine lv_bipush (v := 16) hx hb d_iM_62 (by decide) ?_
  refine va_newa (atype := .int) (ty := .int) (a0 := (16, .inl (fun _ => 0))) hx hb (hts (.arrayClass .int) (x_in1 (List.mem_of_getElem? (i := 91) rfl) rfl)) rfl hK hP hD hS hA (fun _ => rfl) (by decide) (by decide) (by decide) (by decide) (by decide) d_iM_64 (fun q15 cA16 H hK hP hD hS => ?_)
  have hP : va_P D x_cls [(h0, .inr (9, [.ref q1, .int 0, .ref q3, .ref q5, .ref q7, .ref q9, .ref q11, .int 0, .ref q13, .int 0, .null, .int 0, .int 0])), (q1, .inl (cA2, 200, .inl (fun _ => 0))), (q3, .inl (cA4, 30, .inl (fun _ => 0))), (q5, .inl (cA6, 30, .inl (fun _ => 0))), (q7, .inl (cA8, 15, .inl (fun _ => 0))), (q9, .inl (cA10, 15, .inl (fun _ => 0))), (q11, .inl (cA12, 120, .inl (fun _ => 0))), (q13, .inl (cA14, 30, .inl (fun _ => 0))), (q15, .inl (cA16, 16, .inl (fun _ => 0)))] H := hP
  have hD : va_D A [(h0, .inr (9, [.ref q1, .int 0, .ref q3, .ref q5, .ref q7, .ref q9, .ref q11, .int 0, .ref q13, .int 0, .null, .int 0, .int 0])), (q1, .inl (cA2, 200, .inl (fun _ => 0))), (q3, .inl (cA4, 30, .inl (fun _ => 0))), (q5, .inl (cA6, 30, .inl (fun _ => 0))), (q7, .inl (cA8, 15, .inl (fun _ => 0))), (q9, .inl (cA10, 15, .inl (fun _ => 0))), (q11, .inl (cA12, 120, .inl (fun _ => 0))), (q13, .inl (cA14, 30, .inl (fun _ => 0))), (q15, .inl (cA16, 16, .inl (fun _ => 0)))] := hD
  have hK : va_K D x_cls [(cA2, .int), (cA4, .int), (cA6, .int), (cA8, .int), (cA10, .int), (cA12, .int), (cA14, .int), (cA16, .int)] s := hK
  refine W.widen (k := 8) (n := 456) (by decide) (by decide) ?_
  refine va_putF (D := D) (ci := 9) (v := .ref q15) (ty := .array .int) (C := x_R9) (T := x_T9) (N := 13) hx hb hts x_lay9 x_ty9 x_tyk9 x_nm9 hown hK hP hD hS 0 rfl rfl 10 (by decide) (hts (.fieldLink x_R9 31 "BackColumnsModel" "tellings" "[I") (x_in4 (List.mem_of_getElem? (i := 9) rfl) rfl)) (fun _ h9 => h9) rfl hin rfl (by decide +kernel) rfl rfl (Nat.le_of_ble_eq_true rfl) d_iM_66 (fun H locs hP hD hS => ?_)
  have hP : va_P D x_cls [(h0, .inr (9, [.ref q1, .int 0, .ref q3, .ref q5, .ref q7, .ref q9, .ref q11, .int 0, .ref q13, .int 0, .ref q15, .int 0, .int 0])), (q1, .inl (cA2, 200, .inl (fun _ => 0))), (q3, .inl (cA4, 30, .inl (fun _ => 0))), (q5, .inl (cA6, 30, .inl (fun _ => 0))), (q7, .inl (cA8, 15, .inl (fun _ => 0))), (q9, .inl (cA10, 15, .inl (fun _ => 0))), (q11, .inl (cA12, 120, .inl (fun _ => 0))), (q13, .inl (cA14, 30, .inl (fun _ => 0))), (q15, .inl (cA16, 16, .inl (fun _ => 0)))] H := hP
  have hD : va_D A [(h0, .inr (9, [.ref q1, .int 0, .ref q3, .ref q5, .ref q7, .ref q9, .ref q11, .int 0, .ref q13, .int 0, .ref q15, .int 0, .int 0])), (q1, .inl (cA2, 200, .inl (fun _ => 0))), (q3, .inl (cA4, 30, .inl (fun _ => 0))), (q5, .inl (cA6, 30, .inl (fun _ => 0))), (q7, .inl (cA8, 15, .inl (fun _ => 0))), (q9, .inl (cA10, 15, .inl (fun _ => 0))), (q11, .inl (cA12, 120, .inl (fun _ => 0))), (q13, .inl (cA14, 30, .inl (fun _ => 0))), (q15, .inl (cA16, 16, .inl (fun _ => 0)))] := hD
  have hPx : va_P D x_cls (x_w x_shM 9 (fun k => ([h0, q1, q3, q5, q7, q9, q11, q13, q15] : List Nat).getD k 0) (fun k => ([cA2, cA2, cA4, cA6, cA8, cA10, cA12, cA14, cA16] : List ClassId).getD k cA2) z_K0) H := by
    rw [z_wM]
    exact hP
  have hDx : va_D A (x_w x_shM 9 (fun k => ([h0, q1, q3, q5, q7, q9, q11, q13, q15] : List Nat).getD k 0) (fun k => ([cA2, cA2, cA4, cA6, cA8, cA10, cA12, cA14, cA16] : List ClassId).getD k cA2) z_K0) := by
    rw [z_wM]
    exact hD
  have hAr : z_arr x_shM 9 (fun k => ([cA2, cA2, cA4, cA6, cA8, cA10, cA12, cA14, cA16] : List ClassId).getD k cA2) s := by
    intro k ty n rs hk hs ht
    match k, hk, hs with
    | 0, _, hs => cases hs
    | 1, _, hs => cases hs; exact hK.2 0 _ rfl
    | 2, _, hs => cases hs; exact hK.2 1 _ rfl
    | 3, _, hs => cases hs; exact hK.2 2 _ rfl
    | 4, _, hs => cases hs; exact hK.2 3 _ rfl
    | 5, _, hs => cases hs; exact hK.2 4 _ rfl
    | 6, _, hs => cases hs; exact hK.2 5 _ rfl
    | 7, _, hs => cases hs; exact hK.2 6 _ rfl
    | 8, _, hs => cases hs; exact hK.2 7 _ rfl
    | k + 9, hk, _ => exact absurd hk (by omega)
  have hKx : x_Kp x_shM 9 (fun k => ([cA2, cA2, cA4, cA6, cA8, cA10, cA12, cA14, cA16] : List ClassId).getD k cA2) D s := ⟨hK.sub [] rfl, hAr, hNn⟩
  have hinj : x_inj (fun k => ([h0, q1, q3, q5, q7, q9, q11, q13, q15] : List Nat).getD k 0) 9 := fun i j hi hj he => hDx.1 i j _ _ (x_w_at hi) (x_w_at hj) he
  have hA2 : ∀ k, k < 9 → A ((fun k => ([h0, q1, q3, q5, q7, q9, q11, q13, q15] : List Nat).getD k 0) k) := fun k hk => hDx.2 k _ (x_w_at hk)
  clear hP hD
  generalize hadE : (fun k => ([h0, q1, q3, q5, q7, q9, q11, q13, q15] : List Nat).getD k 0) = ad at hPx hDx hinj hA2
  generalize haCE : (fun k => ([cA2, cA2, cA4, cA6, cA8, cA10, cA12, cA14, cA16] : List ClassId).getD k cA2) = aC at hPx hDx hAr hKx
  have e0 : ad 0 = h0 := by rw [← hadE]; rfl
  clear hadE haCE
  subst e0
  refine lv_aload_n hx hb d_iM_69 rfl (lv_at hl 0 rfl) ?_
  obtain ⟨v1, hr1⟩ := z_k1_some
  have hv := x_allP_at x_vl_ok (show x_vl[80]? = some (9, 34, 90, 0) from rfl)
  have hrun := z_run (l := l) (e := e) (below := below) (meth := meth) (R := (headSpec (Cond.code y_mkM prog_11_method_1_code 1 none :: xT) ({ frames := 4, cells := 8, slots := 456, locals := 300 })).room) (cells := 8) (slots := 456) (rest := []) (vs := []) (cm := 90) (a := 0) (idx := 34) (pc := 70) (lsR := ls) x_shM_ok hinj ⟨hx, hb, hml, hown, hts⟩ hA2 hKx z_xM (by decide) (show x_den x_shM 90 0 (x_ent (x_ml 90) (.ref 0 :: [])) [] z_K0 = some (v1, z_K1) from x_le_den _ 1500 _ _ _ _ _ _ hr1) rfl rfl (by decide) (fs := [.ref 1, .int 0, .ref 2, .ref 3, .ref 4, .ref 5, .ref 6, .int 0, .ref 7, .int 0, .ref 8, .int 0, .int 0]) rfl hv.1 hv.2.1 hv.2.2 ⟨⟨by decide, by decide⟩, by decide, by decide⟩ hl.1 (by decide) d_iM_70 hPx hS
  rw [show x_rt 90 = none from rfl] at hrun
  refine va_callv (a := #[]) (A1 := x_A ad 9) hrun hS (fun q _ h => z_frz (k := 0) hA2 q h) (z_frz (k := 0) hA2) (fun u t H1 locs ht hvm hw hB hz1 hk1 hS => ?_)
  have hPx : va_P D x_cls (x_w x_shM 9 ad aC z_K1) H1 := by rw [← ht]; exact hB
  clear hB ht hk1 hz1 hvm hw hrun hv
  generalize H1 = H at hPx hS ⊢
  refine lv_aload_n hx hb d_iM_73 rfl (lv_at hl 0 rfl) ?_
  refine lv_iconst (v := nI 3) hx hb d_iM_74 (by decide) ?_
  refine lv_iconst (v := nI 1) hx hb d_iM_75 (by decide) ?_
  refine lv_iconst (v := nI 4) hx hb d_iM_76 (by decide) ?_
  obtain ⟨v2, hr2⟩ := z_k2_some
  have hv := x_allP_at x_vl_ok (show x_vl[83]? = some (9, 37, 91, 0) from rfl)
  have hrun := z_run (l := l) (e := e) (below := below) (meth := meth) (R := (headSpec (Cond.code y_mkM prog_11_method_1_code 1 none :: xT) ({ frames := 4, cells := 8, slots := 456, locals := 300 })).room) (cells := 8) (slots := 456) (rest := []) (vs := [.int (nI 3), .int (nI 1), .int (nI 4)]) (cm := 91) (a := 0) (idx := 37) (pc := 77) (lsR := ls) x_shM_ok hinj ⟨hx, hb, hml, hown, hts⟩ hA2 hKx z_xM (by decide) (show x_den x_shM 91 0 (x_ent (x_ml 91) (.ref 0 :: [.int (nI 3), .int (nI 1), .int (nI 4)])) [] z_K1 = some (v2, z_K2) from x_le_den _ 1500 _ _ _ _ _ _ hr2) rfl rfl (by decide) (fs := [.ref 1, .int 0, .ref 2, .ref 3, .ref 4, .ref 5, .ref 6, .int 0, .ref 7, .int 0, .ref 8, .int 0, .int 0]) rfl hv.1 hv.2.1 hv.2.2 ⟨⟨by decide, by decide⟩, by decide, by decide⟩ hl.1 (by decide) d_iM_77 hPx hS
  rw [show x_rt 91 = none from rfl] at hrun
  refine va_callv (a := #[]) (A1 := x_A ad 9) hrun hS (fun q _ h => z_frz (k := 0) hA2 q h) (z_frz (k := 0) hA2) (fun u t H1 locs ht hvm hw hB hz1 hk1 hS => ?_)
  have hPx : va_P D x_cls (x_w x_shM 9 ad aC z_K2) H1 := by rw [← ht]; exact hB
  clear hB ht hk1 hz1 hvm hw hrun hv
  generalize H1 = H at hPx hS ⊢
  refine lv_aload_n hx hb d_iM_80 rfl (lv_at hl 0 rfl) ?_
  refine lv_iconst (v := nI 2) hx hb d_iM_81 (by decide) ?_
  refine lv_iconst (v := nI 5) hx hb d_iM_82 (by decide) ?_
  refine lv_iconst (v := nI 5) hx hb d_iM_83 (by decide) ?_
  obtain ⟨v3, hr3⟩ := z_k3_some
  have hv := x_allP_at x_vl_ok (show x_vl[83]? = some (9, 37, 91, 0) from rfl)
  have hrun := z_run (l := l) (e := e) (below := below) (meth := meth) (R := (headSpec (Cond.code y_mkM prog_11_method_1_code 1 none :: xT) ({ frames := 4, cells := 8, slots := 456, locals := 300 })).room) (cells := 8) (slots := 456) (rest := []) (vs := [.int (nI 2), .int (nI 5), .int (nI 5)]) (cm := 91) (a := 0) (idx := 37) (pc := 84) (lsR := ls) x_shM_ok hinj ⟨hx, hb, hml, hown, hts⟩ hA2 hKx z_xM (by decide) (show x_den x_shM 91 0 (x_ent (x_ml 91) (.ref 0 :: [.int (nI 2), .int (nI 5), .int (nI 5)])) [] z_K2 = some (v3, z_K3) from x_le_den _ 1500 _ _ _ _ _ _ hr3) rfl rfl (by decide) (fs := [.ref 1, .int 0, .ref 2, .ref 3, .ref 4, .ref 5, .ref 6, .int 0, .ref 7, .int 0, .ref 8, .int 0, .int 0]) rfl hv.1 hv.2.1 hv.2.2 ⟨⟨by decide, by decide⟩, by decide, by decide⟩ hl.1 (by decide) d_iM_84 hPx hS
  rw [show x_rt 91 = none from rfl] at hrun
  refine va_callv (a := #[]) (A1 := x_A ad 9) hrun hS (fun q _ h => z_frz (k := 0) hA2 q h) (z_frz (k := 0) hA2) (fun u t H1 locs ht hvm hw hB hz1 hk1 hS => ?_)
  have hPx : va_P D x_cls (x_w x_shM 9 ad aC z_K3) H1 := by rw [← ht]; exact hB
  clear hB ht hk1 hz1 hvm hw hrun hv
  generalize H1 = H at hPx hS ⊢
  refine lv_aload_n hx hb d_iM_87 rfl (lv_at hl 0 rfl) ?_
  refine lv_iconst (v := nI 4) hx hb d_iM_88 (by decide) ?_
  refine lv_iconst (v := nI 2) hx hb d_iM_89 (by decide) ?_
  refine lv_bipush (v := nI 7) hx hb d_iM_90 (by decide) ?_
  obtain ⟨v4, hr4⟩ := z_k4_some
  have hv := x_allP_at x_vl_ok (show x_vl[83]? = some (9, 37, 91, 0) from rfl)
  have hrun := z_run (l := l) (e := e) (below := below) (meth := meth) (R := (headSpec (Cond.code y_mkM prog_11_method_1_code 1 none :: xT) ({ frames := 4, cells := 8, slots := 456, locals := 300 })).room) (cells := 8) (slots := 456) (rest := []) (vs := [.int (nI 4), .int (nI 2), .int (nI 7)]) (cm := 91) (a := 0) (idx := 37) (pc := 92) (lsR := ls) x_shM_ok hinj ⟨hx, hb, hml, hown, hts⟩ hA2 hKx z_xM (by decide) (show x_den x_shM 91 0 (x_ent (x_ml 91) (.ref 0 :: [.int (nI 4), .int (nI 2), .int (nI 7)])) [] z_K3 = some (v4, z_K4) from x_le_den _ 1500 _ _ _ _ _ _ hr4) rfl rfl (by decide) (fs := [.ref 1, .int 0, .ref 2, .ref 3, .ref 4, .ref 5, .ref 6, .int 0, .ref 7, .int 0, .ref 8, .int 0, .int 0]) rfl hv.1 hv.2.1 hv.2.2 ⟨⟨by decide, by decide⟩, by decide, by decide⟩ hl.1 (by decide) d_iM_92 hPx hS
  rw [show x_rt 91 = none from rfl] at hrun
  refine va_callv (a := #[]) (A1 := x_A ad 9) hrun hS (fun q _ h => z_frz (k := 0) hA2 q h) (z_frz (k := 0) hA2) (fun u t H1 locs ht hvm hw hB hz1 hk1 hS => ?_)
  have hPx : va_P D x_cls (x_w x_shM 9 ad aC z_K4) H1 := by rw [← ht]; exact hB
  clear hB ht hk1 hz1 hvm hw hrun hv
  generalize H1 = H at hPx hS ⊢
  refine lv_aload_n hx hb d_iM_95 rfl (lv_at hl 0 rfl) ?_
  refine lv_iconst (v := nI 1) hx hb d_iM_96 (by decide) ?_
  refine lv_iconst (v := nI 0) hx hb d_iM_97 (by decide) ?_
  refine lv_iconst (v := nI 3) hx hb d_iM_98 (by decide) ?_
  obtain ⟨v5, hr5⟩ := z_k5_some
  have hv := x_allP_at x_vl_ok (show x_vl[83]? = some (9, 37, 91, 0) from rfl)
  have hrun := z_run (l := l) (e := e) (below := below) (meth := meth) (R := (headSpec (Cond.code y_mkM prog_11_method_1_code 1 none :: xT) ({ frames := 4, cells := 8, slots := 456, locals := 300 })).room) (cells := 8) (slots := 456) (rest := []) (vs := [.int (nI 1), .int (nI 0), .int (nI 3)]) (cm := 91) (a := 0) (idx := 37) (pc := 99) (lsR := ls) x_shM_ok hinj ⟨hx, hb, hml, hown, hts⟩ hA2 hKx z_xM (by decide) (show x_den x_shM 91 0 (x_ent (x_ml 91) (.ref 0 :: [.int (nI 1), .int (nI 0), .int (nI 3)])) [] z_K4 = some (v5, z_K5) from x_le_den _ 1500 _ _ _ _ _ _ hr5) rfl rfl (by decide) (fs := [.ref 1, .int 0, .ref 2, .ref 3, .ref 4, .ref 5, .ref 6, .int 0, .ref 7, .int 0, .ref 8, .int 0, .int 0]) rfl hv.1 hv.2.1 hv.2.2 ⟨⟨by decide, by decide⟩, by decide, by decide⟩ hl.1 (by decide) d_iM_99 hPx hS
  rw [show x_rt 91 = none from rfl] at hrun
  refine va_callv (a := #[]) (A1 := x_A ad 9) hrun hS (fun q _ h => z_frz (k := 0) hA2 q h) (z_frz (k := 0) hA2) (fun u t H1 locs ht hvm hw hB hz1 hk1 hS => ?_)
  have hPx : va_P D x_cls (x_w x_shM 9 ad aC z_K5) H1 := by rw [← ht]; exact hB
  clear hB ht hk1 hz1 hvm hw hrun hv
  generalize H1 = H at hPx hS ⊢
  refine lv_aload_n hx hb d_iM_102 rfl (lv_at hl 0 rfl) ?_
  refine lv_iconst (v := nI 5) hx hb d_iM_103 (by decide) ?_
  refine lv_bipush (v := nI 6) hx hb d_iM_104 (by decide) ?_
  refine lv_iconst (v := nI 1) hx hb d_iM_106 (by decide) ?_
  obtain ⟨v6, hr6⟩ := z_k6_some
  have hv := x_allP_at x_vl_ok (show x_vl[83]? = some (9, 37, 91, 0) from rfl)
  have hrun := z_run (l := l) (e := e) (below := below) (meth := meth) (R := (headSpec (Cond.code y_mkM prog_11_method_1_code 1 none :: xT) ({ frames := 4, cells := 8, slots := 456, locals := 300 })).room) (cells := 8) (slots := 456) (rest := []) (vs := [.int (nI 5), .int (nI 6), .int (nI 1)]) (cm := 91) (a := 0) (idx := 37) (pc := 107) (lsR := ls) x_shM_ok hinj ⟨hx, hb, hml, hown, hts⟩ hA2 hKx z_xM (by decide) (show x_den x_shM 91 0 (x_ent (x_ml 91) (.ref 0 :: [.int (nI 5), .int (nI 6), .int (nI 1)])) [] z_K5 = some (v6, z_K6) from x_le_den _ 1500 _ _ _ _ _ _ hr6) rfl rfl (by decide) (fs := [.ref 1, .int 0, .ref 2, .ref 3, .ref 4, .ref 5, .ref 6, .int 0, .ref 7, .int 0, .ref 8, .int 0, .int 0]) rfl hv.1 hv.2.1 hv.2.2 ⟨⟨by decide, by decide⟩, by decide, by decide⟩ hl.1 (by decide) d_iM_107 hPx hS
  rw [show x_rt 91 = none from rfl] at hrun
  refine va_callv (a := #[]) (A1 := x_A ad 9) hrun hS (fun q _ h => z_frz (k := 0) hA2 q h) (z_frz (k := 0) hA2) (fun u t H1 locs ht hvm hw hB hz1 hk1 hS => ?_)
  have hPx : va_P D x_cls (x_w x_shM 9 ad aC z_K6) H1 := by rw [← ht]; exact hB
  clear hB ht hk1 hz1 hvm hw hrun hv
  generalize H1 = H at hPx hS ⊢
  refine lv_aload_n hx hb d_iM_110 rfl (lv_at hl 0 rfl) ?_
  refine lv_iconst (v := nI 0) hx hb d_iM_111 (by decide) ?_
  refine lv_bipush (v := nI 6) hx hb d_iM_112 (by decide) ?_
  obtain ⟨v7, hr7⟩ := z_k7_some
  have hv := x_allP_at x_vl_ok (show x_vl[84]? = some (9, 41, 92, 0) from rfl)
  have hrun := z_run (l := l) (e := e) (below := below) (meth := meth) (R := (headSpec (Cond.code y_mkM prog_11_method_1_code 1 none :: xT) ({ frames := 4, cells := 8, slots := 456, locals := 300 })).room) (cells := 8) (slots := 456) (rest := []) (vs := [.int (nI 0), .int (nI 6)]) (cm := 92) (a := 0) (idx := 41) (pc := 114) (lsR := ls) x_shM_ok hinj ⟨hx, hb, hml, hown, hts⟩ hA2 hKx z_xM (by decide) (show x_den x_shM 92 0 (x_ent (x_ml 92) (.ref 0 :: [.int (nI 0), .int (nI 6)])) [] z_K6 = some (v7, z_K7) from x_le_den _ 1500 _ _ _ _ _ _ hr7) rfl rfl (by decide) (fs := [.ref 1, .int 0, .ref 2, .ref 3, .ref 4, .ref 5, .ref 6, .int 0, .ref 7, .int 0, .ref 8, .int 0, .int 0]) rfl hv.1 hv.2.1 hv.2.2 ⟨⟨by decide, by decide⟩, by decide, by decide⟩ hl.1 (by decide) d_iM_114 hPx hS
  rw [show x_rt 92 = none from rfl] at hrun
  refine va_callv (a := #[]) (A1 := x_A ad 9) hrun hS (fun q _ h => z_frz (k := 0) hA2 q h) (z_frz (k := 0) hA2) (fun u t H1 locs ht hvm hw hB hz1 hk1 hS => ?_)
  have hPx : va_P D x_cls (x_w x_shM 9 ad aC z_K7) H1 := by rw [← ht]; exact hB
  clear hB ht hk1 hz1 hvm hw hrun hv
  generalize H1 = H at hPx hS ⊢
  refine lv_aload_n hx hb d_iM_117 rfl (lv_at hl 0 rfl) ?_
  refine lv_iconst (v := nI 1) hx hb d_iM_118 (by decide) ?_
  refine lv_bipush (v := nI 9) hx hb d_iM_119 (by decide) ?_
  obtain ⟨v8, hr8⟩ := z_k8_some
  have hv := x_allP_at x_vl_ok (show x_vl[84]? = some (9, 41, 92, 0) from rfl)
  have hrun := z_run (l := l) (e := e) (below := below) (meth := meth) (R := (headSpec (Cond.code y_mkM prog_11_method_1_code 1 none :: xT) ({ frames := 4, cells := 8, slots := 456, locals := 300 })).room) (cells := 8) (slots := 456) (rest := []) (vs := [.int (nI 1), .int (nI 9)]) (cm := 92) (a := 0) (idx := 41) (pc := 121) (lsR := ls) x_shM_ok hinj ⟨hx, hb, hml, hown, hts⟩ hA2 hKx z_xM (by decide) (show x_den x_shM 92 0 (x_ent (x_ml 92) (.ref 0 :: [.int (nI 1), .int (nI 9)])) [] z_K7 = some (v8, z_K8) from x_le_den _ 1500 _ _ _ _ _ _ hr8) rfl rfl (by decide) (fs := [.ref 1, .int 0, .ref 2, .ref 3, .ref 4, .ref 5, .ref 6, .int 0, .ref 7, .int 0, .ref 8, .int 0, .int 0]) rfl hv.1 hv.2.1 hv.2.2 ⟨⟨by decide, by decide⟩, by decide, by decide⟩ hl.1 (by decide) d_iM_121 hPx hS
  rw [show x_rt 92 = none from rfl] at hrun
  refine va_callv (a := #[]) (A1 := x_A ad 9) hrun hS (fun q _ h => z_frz (k := 0) hA2 q h) (z_frz (k := 0) hA2) (fun u t H1 locs ht hvm hw hB hz1 hk1 hS => ?_)
  have hPx : va_P D x_cls (x_w x_shM 9 ad aC z_K8) H1 := by rw [← ht]; exact hB
  clear hB ht hk1 hz1 hvm hw hrun hv
  generalize H1 = H at hPx hS ⊢
  refine lv_aload_n hx hb d_iM_124 rfl (lv_at hl 0 rfl) ?_
  refine lv_iconst (v := nI 2) hx hb d_iM_125 (by decide) ?_
  refine lv_iconst (v := nI 4) hx hb d_iM_126 (by decide) ?_
  obtain ⟨v9, hr9⟩ := z_k9_some
  have hv := x_allP_at x_vl_ok (show x_vl[84]? = some (9, 41, 92, 0) from rfl)
  have hrun := z_run (l := l) (e := e) (below := below) (meth := meth) (R := (headSpec (Cond.code y_mkM prog_11_method_1_code 1 none :: xT) ({ frames := 4, cells := 8, slots := 456, locals := 300 })).room) (cells := 8) (slots := 456) (rest := []) (vs := [.int (nI 2), .int (nI 4)]) (cm := 92) (a := 0) (idx := 41) (pc := 127) (lsR := ls) x_shM_ok hinj ⟨hx, hb, hml, hown, hts⟩ hA2 hKx z_xM (by decide) (show x_den x_shM 92 0 (x_ent (x_ml 92) (.ref 0 :: [.int (nI 2), .int (nI 4)])) [] z_K8 = some (v9, z_K9) from x_le_den _ 1500 _ _ _ _ _ _ hr9) rfl rfl (by decide) (fs := [.ref 1, .int 0, .ref 2, .ref 3, .ref 4, .ref 5, .ref 6, .int 0, .ref 7, .int 0, .ref 8, .int 0, .int 0]) rfl hv.1 hv.2.1 hv.2.2 ⟨⟨by decide, by decide⟩, by decide, by decide⟩ hl.1 (by decide) d_iM_127 hPx hS
  rw [show x_rt 92 = none from rfl] at hrun
  refine va_callv (a := #[]) (A1 := x_A ad 9) hrun hS (fun q _ h => z_frz (k := 0) hA2 q h) (z_frz (k := 0) hA2) (fun u t H1 locs ht hvm hw hB hz1 hk1 hS => ?_)
  have hPx : va_P D x_cls (x_w x_shM 9 ad aC z_K9) H1 := by rw [← ht]; exact hB
  clear hB ht hk1 hz1 hvm hw hrun hv
  generalize H1 = H at hPx hS ⊢
  refine lv_aload_n hx hb d_iM_130 rfl (lv_at hl 0 rfl) ?_
  refine lv_iconst (v := nI 3) hx hb d_iM_131 (by decide) ?_
  refine lv_bipush (v := nI 8) hx hb d_iM_132 (by decide) ?_
  obtain ⟨v10, hr10⟩ := z_k10_some
  have hv := x_allP_at x_vl_ok (show x_vl[84]? = some (9, 41, 92, 0) from rfl)
  have hrun := z_run (l := l) (e := e) (below := below) (meth := meth) (R := (headSpec (Cond.code y_mkM prog_11_method_1_code 1 none :: xT) ({ frames := 4, cells := 8, slots := 456, locals := 300 })).room) (cells := 8) (slots := 456) (rest := []) (vs := [.int (nI 3), .int (nI 8)]) (cm := 92) (a := 0) (idx := 41) (pc := 134) (lsR := ls) x_shM_ok hinj ⟨hx, hb, hml, hown, hts⟩ hA2 hKx z_xM (by decide) (show x_den x_shM 92 0 (x_ent (x_ml 92) (.ref 0 :: [.int (nI 3), .int (nI 8)])) [] z_K9 = some (v10, z_K10) from x_le_den _ 1500 _ _ _ _ _ _ hr10) rfl rfl (by decide) (fs := [.ref 1, .int 0, .ref 2, .ref 3, .ref 4, .ref 5, .ref 6, .int 0, .ref 7, .int 0, .ref 8, .int 0, .int 0]) rfl hv.1 hv.2.1 hv.2.2 ⟨⟨by decide, by decide⟩, by decide, by decide⟩ hl.1 (by decide) d_iM_134 hPx hS
  rw [show x_rt 92 = none from rfl] at hrun
  refine va_callv (a := #[]) (A1 := x_A ad 9) hrun hS (fun q _ h => z_frz (k := 0) hA2 q h) (z_frz (k := 0) hA2) (fun u t H1 locs ht hvm hw hB hz1 hk1 hS => ?_)
  have hPx : va_P D x_cls (x_w x_shM 9 ad aC z_K10) H1 := by rw [← ht]; exact hB
  clear hB ht hk1 hz1 hvm hw hrun hv
  generalize H1 = H at hPx hS ⊢
  refine lv_aload_n hx hb d_iM_137 rfl (lv_at hl 0 rfl) ?_
  refine lv_iconst (v := nI 1) hx hb d_iM_138 (by decide) ?_
  refine lv_iconst (v := nI 2) hx hb d_iM_139 (by decide) ?_
  obtain ⟨v11, hr11⟩ := z_k11_some
  have hv := x_allP_at x_vl_ok (show x_vl[84]? = some (9, 41, 92, 0) from rfl)
  have hrun := z_run (l := l) (e := e) (below := below) (meth := meth) (R := (headSpec (Cond.code y_mkM prog_11_method_1_code 1 none :: xT) ({ frames := 4, cells := 8, slots := 456, locals := 300 })).room) (cells := 8) (slots := 456) (rest := []) (vs := [.int (nI 1), .int (nI 2)]) (cm := 92) (a := 0) (idx := 41) (pc := 140) (lsR := ls) x_shM_ok hinj ⟨hx, hb, hml, hown, hts⟩ hA2 hKx z_xM (by decide) (show x_den x_shM 92 0 (x_ent (x_ml 92) (.ref 0 :: [.int (nI 1), .int (nI 2)])) [] z_K10 = some (v11, z_K11) from x_le_den _ 1500 _ _ _ _ _ _ hr11) rfl rfl (by decide) (fs := [.ref 1, .int 0, .ref 2, .ref 3, .ref 4, .ref 5, .ref 6, .int 0, .ref 7, .int 0, .ref 8, .int 0, .int 0]) rfl hv.1 hv.2.1 hv.2.2 ⟨⟨by decide, by decide⟩, by decide, by decide⟩ hl.1 (by decide) d_iM_140 hPx hS
  rw [show x_rt 92 = none from rfl] at hrun
  refine va_callv (a := #[]) (A1 := x_A ad 9) hrun hS (fun q _ h => z_frz (k := 0) hA2 q h) (z_frz (k := 0) hA2) (fun u t H1 locs ht hvm hw hB hz1 hk1 hS => ?_)
  have hPx : va_P D x_cls (x_w x_shM 9 ad aC z_K11) H1 := by rw [← ht]; exact hB
  clear hB ht hk1 hz1 hvm hw hrun hv
  generalize H1 = H at hPx hS ⊢
  refine lv_aload_n hx hb d_iM_143 rfl (lv_at hl 0 rfl) ?_
  refine lv_bipush (v := nI 12) hx hb d_iM_144 (by decide) ?_
  obtain ⟨v12, hr12⟩ := z_k12_some
  have hv := x_allP_at x_vl_ok (show x_vl[87]? = some (9, 45, 93, 0) from rfl)
  have hrun := z_run (l := l) (e := e) (below := below) (meth := meth) (R := (headSpec (Cond.code y_mkM prog_11_method_1_code 1 none :: xT) ({ frames := 4, cells := 8, slots := 456, locals := 300 })).room) (cells := 8) (slots := 456) (rest := []) (vs := [.int (nI 12)]) (cm := 93) (a := 0) (idx := 45) (pc := 146) (lsR := ls) x_shM_ok hinj ⟨hx, hb, hml, hown, hts⟩ hA2 hKx z_xM (by decide) (show x_den x_shM 93 0 (x_ent (x_ml 93) (.ref 0 :: [.int (nI 12)])) [] z_K11 = some (v12, z_K12) from x_le_den _ 1500 _ _ _ _ _ _ hr12) rfl rfl (by decide) (fs := [.ref 1, .int 0, .ref 2, .ref 3, .ref 4, .ref 5, .ref 6, .int 0, .ref 7, .int 0, .ref 8, .int 0, .int 0]) rfl hv.1 hv.2.1 hv.2.2 ⟨⟨by decide, by decide⟩, by decide, by decide⟩ hl.1 (by decide) d_iM_146 hPx hS
  rw [show x_rt 93 = none from rfl] at hrun
  refine va_callv (a := #[]) (A1 := x_A ad 9) hrun hS (fun q _ h => z_frz (k := 0) hA2 q h) (z_frz (k := 0) hA2) (fun u t H1 locs ht hvm hw hB hz1 hk1 hS => ?_)
  have hPx : va_P D x_cls (x_w x_shM 9 ad aC z_K12) H1 := by rw [← ht]; exact hB
  clear hB ht hk1 hz1 hvm hw hrun hv
  generalize H1 = H at hPx hS ⊢
  refine lv_aload_n hx hb d_iM_149 rfl (lv_at hl 0 rfl) ?_
  refine lv_bipush (v := nI 35) hx hb d_iM_150 (by decide) ?_
  obtain ⟨v13, hr13⟩ := z_k13_some
  have hv := x_allP_at x_vl_ok (show x_vl[87]? = some (9, 45, 93, 0) from rfl)
  have hrun := z_run (l := l) (e := e) (below := below) (meth := meth) (R := (headSpec (Cond.code y_mkM prog_11_method_1_code 1 none :: xT) ({ frames := 4, cells := 8, slots := 456, locals := 300 })).room) (cells := 8) (slots := 456) (rest := []) (vs := [.int (nI 35)]) (cm := 93) (a := 0) (idx := 45) (pc := 152) (lsR := ls) x_shM_ok hinj ⟨hx, hb, hml, hown, hts⟩ hA2 hKx z_xM (by decide) (show x_den x_shM 93 0 (x_ent (x_ml 93) (.ref 0 :: [.int (nI 35)])) [] z_K12 = some (v13, z_K13) from x_le_den _ 1500 _ _ _ _ _ _ hr13) rfl rfl (by decide) (fs := [.ref 1, .int 0, .ref 2, .ref 3, .ref 4, .ref 5, .ref 6, .int 0, .ref 7, .int 0, .ref 8, .int 0, .int 0]) rfl hv.1 hv.2.1 hv.2.2 ⟨⟨by decide, by decide⟩, by decide, by decide⟩ hl.1 (by decide) d_iM_152 hPx hS
  rw [show x_rt 93 = none from rfl] at hrun
  refine va_callv (a := #[]) (A1 := x_A ad 9) hrun hS (fun q _ h => z_frz (k := 0) hA2 q h) (z_frz (k := 0) hA2) (fun u t H1 locs ht hvm hw hB hz1 hk1 hS => ?_)
  have hPx : va_P D x_cls (x_w x_shM 9 ad aC z_K13) H1 := by rw [← ht]; exact hB
  clear hB ht hk1 hz1 hvm hw hrun hv
  generalize H1 = H at hPx hS ⊢
  refine lv_aload_n hx hb d_iM_155 rfl (lv_at hl 0 rfl) ?_
  refine lv_sipush (v := nI 241) hx hb d_iM_156 (by decide) ?_
  obtain ⟨v14, hr14⟩ := z_k14_some
  have hv := x_allP_at x_vl_ok (show x_vl[87]? = some (9, 45, 93, 0) from rfl)
  have hrun := z_run (l := l) (e := e) (below := below) (meth := meth) (R := (headSpec (Cond.code y_mkM prog_11_method_1_code 1 none :: xT) ({ frames := 4, cells := 8, slots := 456, locals := 300 })).room) (cells := 8) (slots := 456) (rest := []) (vs := [.int (nI 241)]) (cm := 93) (a := 0) (idx := 45) (pc := 159) (lsR := ls) x_shM_ok hinj ⟨hx, hb, hml, hown, hts⟩ hA2 hKx z_xM (by decide) (show x_den x_shM 93 0 (x_ent (x_ml 93) (.ref 0 :: [.int (nI 241)])) [] z_K13 = some (v14, z_K14) from x_le_den _ 1500 _ _ _ _ _ _ hr14) rfl rfl (by decide) (fs := [.ref 1, .int 0, .ref 2, .ref 3, .ref 4, .ref 5, .ref 6, .int 0, .ref 7, .int 0, .ref 8, .int 0, .int 0]) rfl hv.1 hv.2.1 hv.2.2 ⟨⟨by decide, by decide⟩, by decide, by decide⟩ hl.1 (by decide) d_iM_159 hPx hS
  rw [show x_rt 93 = none from rfl] at hrun
  refine va_callv (a := #[]) (A1 := x_A ad 9) hrun hS (fun q _ h => z_frz (k := 0) hA2 q h) (z_frz (k := 0) hA2) (fun u t H1 locs ht hvm hw hB hz1 hk1 hS => ?_)
  have hPx : va_P D x_cls (x_w x_shM 9 ad aC z_K14) H1 := by rw [← ht]; exact hB
  clear hB ht hk1 hz1 hvm hw hrun hv
  generalize H1 = H at hPx hS ⊢
  refine lv_aload_n hx hb d_iM_162 rfl (lv_at hl 0 rfl) ?_
  refine lv_iconst (v := nI 4) hx hb d_iM_163 (by decide) ?_
  obtain ⟨v15, hr15⟩ := z_k15_some
  have hv := x_allP_at x_vl_ok (show x_vl[87]? = some (9, 45, 93, 0) from rfl)
  have hrun := z_run (l := l) (e := e) (below := below) (meth := meth) (R := (headSpec (Cond.code y_mkM prog_11_method_1_code 1 none :: xT) ({ frames := 4, cells := 8, slots := 456, locals := 300 })).room) (cells := 8) (slots := 456) (rest := []) (vs := [.int (nI 4)]) (cm := 93) (a := 0) (idx := 45) (pc := 164) (lsR := ls) x_shM_ok hinj ⟨hx, hb, hml, hown, hts⟩ hA2 hKx z_xM (by decide) (show x_den x_shM 93 0 (x_ent (x_ml 93) (.ref 0 :: [.int (nI 4)])) [] z_K14 = some (v15, z_K15) from x_le_den _ 1500 _ _ _ _ _ _ hr15) rfl rfl (by decide) (fs := [.ref 1, .int 0, .ref 2, .ref 3, .ref 4, .ref 5, .ref 6, .int 0, .ref 7, .int 0, .ref 8, .int 0, .int 0]) rfl hv.1 hv.2.1 hv.2.2 ⟨⟨by decide, by decide⟩, by decide, by decide⟩ hl.1 (by decide) d_iM_164 hPx hS
  rw [show x_rt 93 = none from rfl] at hrun
  refine va_callv (a := #[]) (A1 := x_A ad 9) hrun hS (fun q _ h => z_frz (k := 0) hA2 q h) (z_frz (k := 0) hA2) (fun u t H1 locs ht hvm hw hB hz1 hk1 hS => ?_)
  have hPx : va_P D x_cls (x_w x_shM 9 ad aC z_K15) H1 := by rw [← ht]; exact hB
  clear hB ht hk1 hz1 hvm hw hrun hv
  generalize H1 = H at hPx hS ⊢
  refine lv_aload_n hx hb d_iM_167 rfl (lv_at hl 0 rfl) ?_
  obtain ⟨v16, hr16⟩ := z_k16_some
  have hv := x_allP_at x_vl_ok (show x_vl[88]? = some (9, 49, 94, 0) from rfl)
  have hrun := z_run (l := l) (e := e) (below := below) (meth := meth) (R := (headSpec (Cond.code y_mkM prog_11_method_1_code 1 none :: xT) ({ frames := 4, cells := 8, slots := 456, locals := 300 })).room) (cells := 8) (slots := 456) (rest := []) (vs := []) (cm := 94) (a := 0) (idx := 49) (pc := 168) (lsR := ls) x_shM_ok hinj ⟨hx, hb, hml, hown, hts⟩ hA2 hKx z_xM (by decide) (show x_den x_shM 94 0 (x_ent (x_ml 94) (.ref 0 :: [])) [] z_K15 = some (v16, z_K16) from x_le_den _ 1500 _ _ _ _ _ _ hr16) rfl rfl (by decide) (fs := [.ref 1, .int 0, .ref 2, .ref 3, .ref 4, .ref 5, .ref 6, .int 0, .ref 7, .int 0, .ref 8, .int 0, .int 0]) rfl hv.1 hv.2.1 hv.2.2 ⟨⟨by decide, by decide⟩, by decide, by decide⟩ hl.1 (by decide) d_iM_168 hPx hS
  rw [show x_rt 94 = none from rfl] at hrun
  refine va_callv (a := #[]) (A1 := x_A ad 9) hrun hS (fun q _ h => z_frz (k := 0) hA2 q h) (z_frz (k := 0) hA2) (fun u t H1 locs ht hvm hw hB hz1 hk1 hS => ?_)
  have hPx : va_P D x_cls (x_w x_shM 9 ad aC z_K16) H1 := by rw [← ht]; exact hB
  clear hB ht hk1 hz1 hvm hw hrun hv
  generalize H1 = H at hPx hS ⊢
  have hD9 : va_D A (x_w x_shM 9 ad aC z_K16) := x_D hinj hA2
  exact W.vret hx hb hr (fun t ht hW => ⟨⟨(), rfl, trivial, ad, aC, rfl, by rw [ht]; exact hPx, hD9, fun k ty n rs hk hs h3 => ⟨arrOfT_moved hW.alike (hAr k ty n rs hk hs h3).1, (hAr k ty n rs hk hs h3).2.moved hW.alike⟩⟩, hS.F ht⟩) hS.2.2 d_iM_171
