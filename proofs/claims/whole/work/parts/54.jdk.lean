/-! the JDK's own length and charAt on the first text: printed by wip/whole/gen/jdk54.py -/
def y_jcoder : MethodName := ⟨"java/lang/String", "coder", "()B"⟩
theorem jcoder_in : Cond.code y_jcoder prog_14_method_152_code 1 (some .byte) ∈ xT := x_in2 (List.mem_of_getElem? (i := 7) rfl) rfl
theorem d_jcoder_0 : decode prog_14_method_152_code 0 = .ok (.getstatic 38, 3) := by decide +kernel
theorem d_jcoder_3 : decode prog_14_method_152_code 3 = .ok (.ifCond .eq 10, 3) := by decide +kernel
theorem d_jcoder_6 : decode prog_14_method_152_code 6 = .ok (.aload_n 0, 1) := by decide +kernel
theorem d_jcoder_7 : decode prog_14_method_152_code 7 = .ok (.getfield 15, 3) := by decide +kernel
theorem d_jcoder_10 : decode prog_14_method_152_code 10 = .ok (.goto 4, 3) := by decide +kernel
theorem d_jcoder_13 : decode prog_14_method_152_code 13 = .ok (.iconst 1, 1) := by decide +kernel
theorem d_jcoder_14 : decode prog_14_method_152_code 14 = .ok (.ireturn, 1) := by decide +kernel
def y_jlen : MethodName := ⟨"java/lang/String", "length", "()I"⟩
theorem jlen_in : Cond.code y_jlen prog_14_method_54_code 1 (some .int) ∈ xT := x_in2 (List.mem_of_getElem? (i := 3) rfl) rfl
theorem d_jlen_0 : decode prog_14_method_54_code 0 = .ok (.aload_n 0, 1) := by decide +kernel
theorem d_jlen_1 : decode prog_14_method_54_code 1 = .ok (.getfield 9, 3) := by decide +kernel
theorem d_jlen_4 : decode prog_14_method_54_code 4 = .ok (.arraylength, 1) := by decide +kernel
theorem d_jlen_5 : decode prog_14_method_54_code 5 = .ok (.aload_n 0, 1) := by decide +kernel
theorem d_jlen_6 : decode prog_14_method_54_code 6 = .ok (.invokevirtual 335, 3) := by decide +kernel
theorem d_jlen_9 : decode prog_14_method_54_code 9 = .ok (.ishr, 1) := by decide +kernel
theorem d_jlen_10 : decode prog_14_method_54_code 10 = .ok (.ireturn, 1) := by decide +kernel
def y_jlat : MethodName := ⟨"java/lang/String", "isLatin1", "()Z"⟩
theorem jlat_in : Cond.code y_jlat prog_14_method_154_code 1 (some .boolean) ∈ xT := x_in2 (List.mem_of_getElem? (i := 17) rfl) rfl
theorem d_jlat_0 : decode prog_14_method_154_code 0 = .ok (.getstatic 38, 3) := by decide +kernel
theorem d_jlat_3 : decode prog_14_method_154_code 3 = .ok (.ifCond .eq 14, 3) := by decide +kernel
theorem d_jlat_6 : decode prog_14_method_154_code 6 = .ok (.aload_n 0, 1) := by decide +kernel
theorem d_jlat_7 : decode prog_14_method_154_code 7 = .ok (.getfield 15, 3) := by decide +kernel
theorem d_jlat_10 : decode prog_14_method_154_code 10 = .ok (.ifCond .ne 7, 3) := by decide +kernel
theorem d_jlat_13 : decode prog_14_method_154_code 13 = .ok (.iconst 1, 1) := by decide +kernel
theorem d_jlat_14 : decode prog_14_method_154_code 14 = .ok (.goto 4, 3) := by decide +kernel
theorem d_jlat_17 : decode prog_14_method_154_code 17 = .ok (.iconst 0, 1) := by decide +kernel
theorem d_jlat_18 : decode prog_14_method_154_code 18 = .ok (.ireturn, 1) := by decide +kernel
def y_jpre : MethodName := ⟨"jdk/internal/util/Preconditions", "checkIndex", "(IILjava/util/function/BiFunction;)I"⟩
theorem jpre_in : Cond.code y_jpre prog_18_method_11_code 3 (some .int) ∈ xT := x_in2 (List.mem_of_getElem? (i := 28) rfl) rfl
theorem d_jpre_0 : decode prog_18_method_11_code 0 = .ok (.iload_n 0, 1) := by decide +kernel
theorem d_jpre_1 : decode prog_18_method_11_code 1 = .ok (.ifCond .lt 8, 3) := by decide +kernel
theorem d_jpre_4 : decode prog_18_method_11_code 4 = .ok (.iload_n 0, 1) := by decide +kernel
theorem d_jpre_5 : decode prog_18_method_11_code 5 = .ok (.iload_n 1, 1) := by decide +kernel
theorem d_jpre_6 : decode prog_18_method_11_code 6 = .ok (.if_icmp .lt 10, 3) := by decide +kernel
theorem d_jpre_16 : decode prog_18_method_11_code 16 = .ok (.iload_n 0, 1) := by decide +kernel
theorem d_jpre_17 : decode prog_18_method_11_code 17 = .ok (.ireturn, 1) := by decide +kernel
def y_jchk : MethodName := ⟨"java/lang/String", "checkIndex", "(II)V"⟩
theorem jchk_in : Cond.code y_jchk prog_14_method_155_code 2 none ∈ xT := x_in2 (List.mem_of_getElem? (i := 23) rfl) rfl
theorem d_jchk_0 : decode prog_14_method_155_code 0 = .ok (.iload_n 0, 1) := by decide +kernel
theorem d_jchk_1 : decode prog_14_method_155_code 1 = .ok (.iload_n 1, 1) := by decide +kernel
theorem d_jchk_2 : decode prog_14_method_155_code 2 = .ok (.getstatic 1053, 3) := by decide +kernel
theorem d_jchk_5 : decode prog_14_method_155_code 5 = .ok (.invokestatic 1059, 3) := by decide +kernel
theorem d_jchk_8 : decode prog_14_method_155_code 8 = .ok (.pop, 1) := by decide +kernel
theorem d_jchk_9 : decode prog_14_method_155_code 9 = .ok (.return_, 1) := by decide +kernel
def y_jlch : MethodName := ⟨"java/lang/StringLatin1", "charAt", "([BI)C"⟩
theorem jlch_in : Cond.code y_jlch prog_15_method_2_code 2 (some .char) ∈ xT := x_in2 (List.mem_of_getElem? (i := 20) rfl) rfl
theorem d_jlch_0 : decode prog_15_method_2_code 0 = .ok (.iload_n 1, 1) := by decide +kernel
theorem d_jlch_1 : decode prog_15_method_2_code 1 = .ok (.aload_n 0, 1) := by decide +kernel
theorem d_jlch_2 : decode prog_15_method_2_code 2 = .ok (.arraylength, 1) := by decide +kernel
theorem d_jlch_3 : decode prog_15_method_2_code 3 = .ok (.invokestatic 9, 3) := by decide +kernel
theorem d_jlch_6 : decode prog_15_method_2_code 6 = .ok (.aload_n 0, 1) := by decide +kernel
theorem d_jlch_7 : decode prog_15_method_2_code 7 = .ok (.iload_n 1, 1) := by decide +kernel
theorem d_jlch_8 : decode prog_15_method_2_code 8 = .ok (.baload, 1) := by decide +kernel
theorem d_jlch_9 : decode prog_15_method_2_code 9 = .ok (.sipush 255, 3) := by decide +kernel
theorem d_jlch_12 : decode prog_15_method_2_code 12 = .ok (.iand, 1) := by decide +kernel
theorem d_jlch_13 : decode prog_15_method_2_code 13 = .ok (.i2c, 1) := by decide +kernel
theorem d_jlch_14 : decode prog_15_method_2_code 14 = .ok (.ireturn, 1) := by decide +kernel
def y_jcha : MethodName := ⟨"java/lang/String", "charAt", "(I)C"⟩
theorem jcha_in : Cond.code y_jcha prog_14_method_56_code 2 (some .char) ∈ xT := x_in2 (List.mem_of_getElem? (i := 13) rfl) rfl
theorem d_jcha_0 : decode prog_14_method_56_code 0 = .ok (.aload_n 0, 1) := by decide +kernel
theorem d_jcha_1 : decode prog_14_method_56_code 1 = .ok (.invokevirtual 492, 3) := by decide +kernel
theorem d_jcha_4 : decode prog_14_method_56_code 4 = .ok (.ifCond .eq 12, 3) := by decide +kernel
theorem d_jcha_7 : decode prog_14_method_56_code 7 = .ok (.aload_n 0, 1) := by decide +kernel
theorem d_jcha_8 : decode prog_14_method_56_code 8 = .ok (.getfield 9, 3) := by decide +kernel
theorem d_jcha_11 : decode prog_14_method_56_code 11 = .ok (.iload_n 1, 1) := by decide +kernel
theorem d_jcha_12 : decode prog_14_method_56_code 12 = .ok (.invokestatic 495, 3) := by decide +kernel
theorem d_jcha_15 : decode prog_14_method_56_code 15 = .ok (.ireturn, 1) := by decide +kernel
theorem d_jcha_16 : decode prog_14_method_56_code 16 = .ok (.aload_n 0, 1) := by decide +kernel
theorem d_jcha_17 : decode prog_14_method_56_code 17 = .ok (.getfield 9, 3) := by decide +kernel
theorem d_jcha_20 : decode prog_14_method_56_code 20 = .ok (.iload_n 1, 1) := by decide +kernel
theorem d_jcha_21 : decode prog_14_method_56_code 21 = .ok (.invokestatic 498, 3) := by decide +kernel
theorem d_jcha_24 : decode prog_14_method_56_code 24 = .ok (.ireturn, 1) := by decide +kernel
def z_N : Nat → Prop := fun _ => False
/-- the first text, a String of the pool's; what its methods read -/
def z_str (a v : Nat) (A : Nat → Prop) (U : State) (H : Heap) : Prop := va_O "java/lang/String" a A U H ∧ va_OF "java/lang/String" "coder" "B" (.int 0) a A U H ∧ va_OF "java/lang/String" "value" "[B" (.ref v) a A U H ∧ va_T .byte v 76 (fun j => .int (nI (z_by.getD j 0))) A U H ∧ va_Z "java/lang/String" "COMPACT_STRINGS" "Z" (.int 1) A U H ∧ va_Zq "jdk/internal/util/Preconditions" "SIOOBE_FORMATTER" "Ljava/util/function/BiFunction;" A U H
theorem z_str.moved {a v : Nat} {A : Nat → Prop} {u U : State} {H : Heap} (hvm : u.vm.Alike U.vm) (h : z_str a v A u H) : z_str a v A U H := ⟨h.1.moved hvm, h.2.1.moved hvm, h.2.2.1.moved hvm, h.2.2.2.1.moved hvm, h.2.2.2.2.1.moved hvm, h.2.2.2.2.2.moved hvm⟩
theorem z_str.kept {a v : Nat} {A : Nat → Prop} {U : State} {H H1 : Heap} (h : z_str a v A U H) (hq : ∀ a : Nat, a < H.size → ¬ A a → H1[a]? = H[a]?) : z_str a v A U H1 := ⟨h.1.kept hq, h.2.1.kept hq, h.2.2.1.kept hq, h.2.2.2.1.kept hq, h.2.2.2.2.1.kept hq, h.2.2.2.2.2.kept hq⟩
theorem z_str.narrow {a v : Nat} {A B : Nat → Prop} {U : State} {H : Heap} (h : z_str a v A U H) (hAB : ∀ q, B q → A q) : z_str a v B U H := ⟨h.1.narrow hAB, h.2.1.narrow hAB, h.2.2.1.narrow hAB, h.2.2.2.1.narrow hAB, h.2.2.2.2.1.narrow hAB, h.2.2.2.2.2.narrow hAB⟩
theorem z_str.call {a v : Nat} {A : Nat → Prop} {s : State} {H : Heap} {locs : List Loc} (h : z_str a v A s s.heap) (hS : va_S A s.heap H locs) : ∀ U : State, U.heap = H → s.WarmedH U.vm → z_str a v z_N U U.heap := fun U hU hW => by
  rw [hU]
  exact ((h.kept hS.2.1).narrow (fun _ q => q.elim)).moved hW.alike
theorem z_str.recv {a v : Nat} {A : Nat → Prop} {s : State} {H : Heap} {locs : List Loc} (h : z_str a v A s s.heap) (hS : va_S A s.heap H locs) : ∃ cell : Cell, H[a]? = some cell ∧ cell.vm.isStatics = false ∧ s.vm.findClass "java/lang/String" = some cell.cls := by
  obtain ⟨cell, h1, h2, h3, -⟩ := h.1.kept hS.2.1
  exact ⟨cell, h1, h2, h3⟩
theorem z_strB {a v : Nat} {As : List Value} : FrameBlind (va_Pc As (fun U => z_str a v z_N U U.heap)) := fun b U g mk q => ⟨q.1, z_str.moved (u := U) (U := U.calling g mk b) (Vm.Alike.refl U.vm) q.2⟩
theorem z_b128 : ∀ i, i < 76 → z_by.getD i 0 < 128 := by decide +kernel
theorem z_c128 : ∀ b, b < 128 → ((nI b &&& 255).toUInt32 % 65536).toInt32 = nI b := by decide +kernel
theorem z_n128 : ∀ b, b < 128 → narrow .char (.int (nI b)) = .int (nI b) := by decide +kernel
set_option maxHeartbeats 4000000 in
set_option maxRecDepth 100000 in
theorem j_coder (l : Launch) (a v : Nat) : Met l y_jcoder (Cond.code y_jcoder prog_14_method_152_code 1 (some .byte) :: xT) ({ frames := 0, cells := 0, slots := 0, locals := 0 }) (va_Pc [.ref a] (fun U => z_str a v z_N U U.heap)) (va_Qi (fun r (_ : Unit) => r = 0) (fun _ _ => True) z_N) 0 0 z_N := by
  refine Met.ofW (cc := prog_14_method_152_code) (maxL := 1) (ret := (some .byte)) (by decide) rfl ?_
  intro p e s m args below meth c s₁ B hml hv
  obtain ⟨rfl, hZ⟩ := hv
  have hx := B.exec
  have hb := B.bytes
  have hr := B.returns
  have hts0 := atoms_spec (ws := Cond.code y_jcoder prog_14_method_152_code 1 (some .byte) :: xT) B.pre
  have hts : ∀ w ∈ xT, w.before _ s = true := fun w hw => hts0 w (List.mem_cons_of_mem _ hw)
  have hown : s.vm.findClass "java/lang/String" = some m.cls := findClass_of_methodNamed B.named
  have hlocks := B.notSynchronized
  have hS : va_S z_N s.heap s.heap [] := va_S.rf
  have hl := lv_entry ([.ref a]) (n := 1) (Nat.le_of_ble_eq_true rfl)
  rw [lg_entry_eq]
  generalize (lg_sl ([.ref a]) ++ List.replicate (1 - (lg_sl ([.ref a])).length) Slot.unset).toArray = ls at hl ⊢
  have hl : lv_has ls 1 [(0, .ref a)] := hl
  obtain ⟨h1, h2, h3, h4, h5, h6⟩ := id hZ
  refine va_gets hx hb h5 hS hown (hts (.fieldLink "java/lang/String" 38 "java/lang/String" "COMPACT_STRINGS" "Z") (x_in2 (List.mem_of_getElem? (i := 8) rfl) rfl)) (fun _ h => h) d_jcoder_0 ?_
  refine lv_if_eq (tgt := 13) hx hb d_jcoder_3 (by decide) (fun c9 => absurd c9 (by decide)) (fun _ => ?_)
  refine lv_aload_n hx hb d_jcoder_6 rfl (lv_at hl 0 rfl) ?_
  refine vk_getf hx hb h2 hS hown (hts (.fieldLink "java/lang/String" 15 "java/lang/String" "coder" "B") (x_in5 (List.mem_of_getElem? (i := 5) rfl) rfl)) (fun _ h => h) d_jcoder_7 ?_
  refine lv_goto (tgt := 14) hx hb d_jcoder_10 (by decide) ?_
  exact W.zret (v := 0) hx hb hr (by decide) (fun t ht hW => ⟨⟨0, (), rfl, rfl, trivial⟩, hS.F ht⟩) hS.2.2 d_jcoder_14
set_option maxHeartbeats 4000000 in
set_option maxRecDepth 100000 in
theorem j_lat (l : Launch) (a v : Nat) : Met l y_jlat (Cond.code y_jlat prog_14_method_154_code 1 (some .boolean) :: xT) ({ frames := 0, cells := 0, slots := 0, locals := 0 }) (va_Pc [.ref a] (fun U => z_str a v z_N U U.heap)) (va_Qi (fun r (_ : Unit) => r = 1) (fun _ _ => True) z_N) 0 0 z_N := by
  refine Met.ofW (cc := prog_14_method_154_code) (maxL := 1) (ret := (some .boolean)) (by decide) rfl ?_
  intro p e s m args below meth c s₁ B hml hv
  obtain ⟨rfl, hZ⟩ := hv
  have hx := B.exec
  have hb := B.bytes
  have hr := B.returns
  have hts0 := atoms_spec (ws := Cond.code y_jlat prog_14_method_154_code 1 (some .boolean) :: xT) B.pre
  have hts : ∀ w ∈ xT, w.before _ s = true := fun w hw => hts0 w (List.mem_cons_of_mem _ hw)
  have hown : s.vm.findClass "java/lang/String" = some m.cls := findClass_of_methodNamed B.named
  have hlocks := B.notSynchronized
  have hS : va_S z_N s.heap s.heap [] := va_S.rf
  have hl := lv_entry ([.ref a]) (n := 1) (Nat.le_of_ble_eq_true rfl)
  rw [lg_entry_eq]
  generalize (lg_sl ([.ref a]) ++ List.replicate (1 - (lg_sl ([.ref a])).length) Slot.unset).toArray = ls at hl ⊢
  have hl : lv_has ls 1 [(0, .ref a)] := hl
  obtain ⟨h1, h2, h3, h4, h5, h6⟩ := id hZ
  refine va_gets hx hb h5 hS hown (hts (.fieldLink "java/lang/String" 38 "java/lang/String" "COMPACT_STRINGS" "Z") (x_in2 (List.mem_of_getElem? (i := 8) rfl) rfl)) (fun _ h => h) d_jlat_0 ?_
  refine lv_if_eq (tgt := 17) hx hb d_jlat_3 (by decide) (fun c9 => absurd c9 (by decide)) (fun _ => ?_)
  refine lv_aload_n hx hb d_jlat_6 rfl (lv_at hl 0 rfl) ?_
  refine vk_getf hx hb h2 hS hown (hts (.fieldLink "java/lang/String" 15 "java/lang/String" "coder" "B") (x_in5 (List.mem_of_getElem? (i := 5) rfl) rfl)) (fun _ h => h) d_jlat_7 ?_
  refine lv_if_ne (tgt := 17) hx hb d_jlat_10 (by decide) (fun c9 => absurd rfl c9) (fun _ => ?_)
  refine lv_iconst (v := 1) hx hb d_jlat_13 (by decide) ?_
  refine lv_goto (tgt := 18) hx hb d_jlat_14 (by decide) ?_
  exact W.zret (v := 1) hx hb hr (by decide) (fun t ht hW => ⟨⟨1, (), rfl, rfl, trivial⟩, hS.F ht⟩) hS.2.2 d_jlat_18
set_option maxHeartbeats 4000000 in
set_option maxRecDepth 100000 in
theorem j_len (l : Launch) (a v : Nat) : Met l y_jlen (Cond.code y_jlen prog_14_method_54_code 1 (some .int) :: xT) ({ frames := 1, cells := 0, slots := 0, locals := 40 }) (va_Pc [.ref a] (fun U => z_str a v z_N U U.heap)) (va_Qi (fun r (_ : Unit) => r = nI 76) (fun _ _ => True) z_N) 0 0 z_N := by
  refine Met.ofW (cc := prog_14_method_54_code) (maxL := 1) (ret := (some .int)) (by decide) rfl ?_
  intro p e s m args below meth c s₁ B hml hv
  obtain ⟨rfl, hZ⟩ := hv
  have hx := B.exec
  have hb := B.bytes
  have hr := B.returns
  have hts0 := atoms_spec (ws := Cond.code y_jlen prog_14_method_54_code 1 (some .int) :: xT) B.pre
  have hts : ∀ w ∈ xT, w.before _ s = true := fun w hw => hts0 w (List.mem_cons_of_mem _ hw)
  have hown : s.vm.findClass "java/lang/String" = some m.cls := findClass_of_methodNamed B.named
  have hlocks := B.notSynchronized
  have hS : va_S z_N s.heap s.heap [] := va_S.rf
  have hl := lv_entry ([.ref a]) (n := 1) (Nat.le_of_ble_eq_true rfl)
  rw [lg_entry_eq]
  generalize (lg_sl ([.ref a]) ++ List.replicate (1 - (lg_sl ([.ref a])).length) Slot.unset).toArray = ls at hl ⊢
  have hl : lv_has ls 1 [(0, .ref a)] := hl
  obtain ⟨h1, h2, h3, h4, h5, h6⟩ := id hZ
  refine lv_aload_n hx hb d_jlen_0 rfl (lv_at hl 0 rfl) ?_
  refine vk_getf hx hb h3 hS hown (hts (.fieldLink "java/lang/String" 9 "java/lang/String" "value" "[B") (x_in5 (List.mem_of_getElem? (i := 4) rfl) rfl)) (fun _ h => h) d_jlen_1 ?_
  refine va_tlen (v := nI 76) hx hb h4 hS rfl d_jlen_4 ?_
  refine lv_aload_n hx hb d_jlen_5 rfl (lv_at hl 0 rfl) ?_
  refine va_calli (va_runV (As := []) (rest := [.int (nI 76)]) ⟨hx, hb, hml, hown, hts⟩ (j_coder l a v) ⟨callB_of 0 hts (z_good jcoder_in) rfl rfl rfl (hts (.initialized "java/lang/String") (x_in1 (List.mem_of_getElem? (i := 11) rfl) rfl)) (hts (.methodLink "java/lang/String" 335 y_jcoder) (x_in2 (List.mem_of_getElem? (i := 4) rfl) rfl)) (by decide +kernel) ⟨Nat.le_of_ble_eq_true rfl, Nat.le_of_ble_eq_true rfl⟩, (hts (.instanceMethod y_jcoder) (x_in2 (List.mem_of_getElem? (i := 5) rfl) rfl)), (hts (.selects "java/lang/String" y_jcoder y_jcoder) (x_in2 (List.mem_of_getElem? (i := 6) rfl) rfl))⟩ ⟨z_strB, hZ.recv hS, fun U hU hW => ⟨rfl, hZ.call hS U hU hW⟩⟩ rfl rfl hl.1 rfl (lv_room (Nat.le_of_ble_eq_true rfl)) d_jlen_6 ⟨by decide, by decide⟩) hS (fun _ _ h => h.elim) (fun _ h => h.elim) (fun r u t H1 locs ht hvm hw hB hz1 hk1 hS => ?_)
  subst hw
  refine lv_ishr hx hb d_jlen_9 ?_
  rw [show nI 76 >>> ((0 : Int32) &&& 31) = nI 76 from by decide]
  exact W.iret (v := nI 76) hx hb hr (fun t ht hW => ⟨⟨nI 76, (), rfl, rfl, trivial⟩, hS.F ht⟩) hS.2.2 d_jlen_10
set_option maxHeartbeats 4000000 in
set_option maxRecDepth 100000 in
theorem j_pre (l : Launch) {i : Nat} (hi : i < 76) {vF : Value} (hF : vF = .null ∨ ∃ t : Nat, vF = .ref t) : Met l y_jpre (Cond.code y_jpre prog_18_method_11_code 3 (some .int) :: xT) ({ frames := 0, cells := 0, slots := 0, locals := 0 }) (va_Pc [.int (nI i), .int (nI 76), vF] (fun U => True)) (va_Qi (fun r (_ : Unit) => True) (fun _ _ => True) z_N) 0 0 z_N := by
  rcases hF with rfl | ⟨tF, rfl⟩
  · refine Met.ofW (cc := prog_18_method_11_code) (maxL := 3) (ret := (some .int)) (by decide) rfl ?_
    intro p e s m args below meth c s₁ B hml hv
    obtain ⟨rfl, -⟩ := hv
    have hx := B.exec
    have hb := B.bytes
    have hr := B.returns
    have hts0 := atoms_spec (ws := Cond.code y_jpre prog_18_method_11_code 3 (some .int) :: xT) B.pre
    have hts : ∀ w ∈ xT, w.before _ s = true := fun w hw => hts0 w (List.mem_cons_of_mem _ hw)
    have hown : s.vm.findClass "jdk/internal/util/Preconditions" = some m.cls := findClass_of_methodNamed B.named
    have hlocks := B.notSynchronized
    have hS : va_S z_N s.heap s.heap [] := va_S.rf
    have hl := lv_entry ([.int (nI i), .int (nI 76), .null]) (n := 3) (Nat.le_of_ble_eq_true rfl)
    rw [lg_entry_eq]
    generalize (lg_sl ([.int (nI i), .int (nI 76), .null]) ++ List.replicate (3 - (lg_sl ([.int (nI i), .int (nI 76), .null])).length) Slot.unset).toArray = ls at hl ⊢
    have hl : lv_has ls 3 [(0, .int (nI i)), (1, .int (nI 76)), (2, .null)] := hl
    refine lv_iload_n hx hb d_jpre_0 rfl (lv_at hl 0 rfl) ?_
    refine lv_if_lt (tgt := 9) hx hb d_jpre_1 (by decide) (fun c9 => absurd c9 (nI_pos (by omega))) (fun _ => ?_)
    refine lv_iload_n hx hb d_jpre_4 rfl (lv_at hl 0 rfl) ?_
    refine lv_iload_n hx hb d_jpre_5 rfl (lv_at hl 1 rfl) ?_
    refine lv_icmp_lt (tgt := 16) hx hb d_jpre_6 (by decide) (fun _ => ?_) (fun c9 => absurd (nI_lt hi (by omega)) c9)
    refine lv_iload_n hx hb d_jpre_16 rfl (lv_at hl 0 rfl) ?_
    exact W.iret (v := nI i) hx hb hr (fun t ht hW => ⟨⟨nI i, (), rfl, trivial, trivial⟩, hS.F ht⟩) hS.2.2 d_jpre_17
  · refine Met.ofW (cc := prog_18_method_11_code) (maxL := 3) (ret := (some .int)) (by decide) rfl ?_
    intro p e s m args below meth c s₁ B hml hv
    obtain ⟨rfl, -⟩ := hv
    have hx := B.exec
    have hb := B.bytes
    have hr := B.returns
    have hts0 := atoms_spec (ws := Cond.code y_jpre prog_18_method_11_code 3 (some .int) :: xT) B.pre
    have hts : ∀ w ∈ xT, w.before _ s = true := fun w hw => hts0 w (List.mem_cons_of_mem _ hw)
    have hown : s.vm.findClass "jdk/internal/util/Preconditions" = some m.cls := findClass_of_methodNamed B.named
    have hlocks := B.notSynchronized
    have hS : va_S z_N s.heap s.heap [] := va_S.rf
    have hl := lv_entry ([.int (nI i), .int (nI 76), .ref tF]) (n := 3) (Nat.le_of_ble_eq_true rfl)
    rw [lg_entry_eq]
    generalize (lg_sl ([.int (nI i), .int (nI 76), .ref tF]) ++ List.replicate (3 - (lg_sl ([.int (nI i), .int (nI 76), .ref tF])).length) Slot.unset).toArray = ls at hl ⊢
    have hl : lv_has ls 3 [(0, .int (nI i)), (1, .int (nI 76)), (2, .ref tF)] := hl
    refine lv_iload_n hx hb d_jpre_0 rfl (lv_at hl 0 rfl) ?_
    refine lv_if_lt (tgt := 9) hx hb d_jpre_1 (by decide) (fun c9 => absurd c9 (nI_pos (by omega))) (fun _ => ?_)
    refine lv_iload_n hx hb d_jpre_4 rfl (lv_at hl 0 rfl) ?_
    refine lv_iload_n hx hb d_jpre_5 rfl (lv_at hl 1 rfl) ?_
    refine lv_icmp_lt (tgt := 16) hx hb d_jpre_6 (by decide) (fun _ => ?_) (fun c9 => absurd (nI_lt hi (by omega)) c9)
    refine lv_iload_n hx hb d_jpre_16 rfl (lv_at hl 0 rfl) ?_
    exact W.iret (v := nI i) hx hb hr (fun t ht hW => ⟨⟨nI i, (), rfl, trivial, trivial⟩, hS.F ht⟩) hS.2.2 d_jpre_17
set_option maxHeartbeats 4000000 in
set_option maxRecDepth 100000 in
theorem j_chk (l : Launch) (a v : Nat) {i : Nat} (hi : i < 76) : Met l y_jchk (Cond.code y_jchk prog_14_method_155_code 2 none :: xT) ({ frames := 1, cells := 0, slots := 0, locals := 60 }) (va_Pc [.int (nI i), .int (nI 76)] (fun U => z_str a v z_N U U.heap)) (va_Qv (fun _ : Unit => True) (fun _ _ => True) z_N) 0 0 z_N := by
  refine Met.ofW (cc := prog_14_method_155_code) (maxL := 2) (ret := none) (by decide) rfl ?_
  intro p e s m args below meth c s₁ B hml hv
  obtain ⟨rfl, hZ⟩ := hv
  have hx := B.exec
  have hb := B.bytes
  have hr := B.returns
  have hts0 := atoms_spec (ws := Cond.code y_jchk prog_14_method_155_code 2 none :: xT) B.pre
  have hts : ∀ w ∈ xT, w.before _ s = true := fun w hw => hts0 w (List.mem_cons_of_mem _ hw)
  have hown : s.vm.findClass "java/lang/String" = some m.cls := findClass_of_methodNamed B.named
  have hlocks := B.notSynchronized
  have hS : va_S z_N s.heap s.heap [] := va_S.rf
  have hl := lv_entry ([.int (nI i), .int (nI 76)]) (n := 2) (Nat.le_of_ble_eq_true rfl)
  rw [lg_entry_eq]
  generalize (lg_sl ([.int (nI i), .int (nI 76)]) ++ List.replicate (2 - (lg_sl ([.int (nI i), .int (nI 76)])).length) Slot.unset).toArray = ls at hl ⊢
  have hl : lv_has ls 2 [(0, .int (nI i)), (1, .int (nI 76))] := hl
  obtain ⟨vF, hF, hZ6⟩ : ∃ vF : Value, (vF = .null ∨ ∃ t : Nat, vF = .ref t) ∧ va_Z "jdk/internal/util/Preconditions" "SIOOBE_FORMATTER" "Ljava/util/function/BiFunction;" vF z_N s s.heap := by
    rcases hZ.2.2.2.2.2 with h6 | ⟨tF, h6⟩
    · exact ⟨.null, Or.inl rfl, h6⟩
    · exact ⟨.ref tF, Or.inr ⟨tF, rfl⟩, h6⟩
  refine lv_iload_n hx hb d_jchk_0 rfl (lv_at hl 0 rfl) ?_
  refine lv_iload_n hx hb d_jchk_1 rfl (lv_at hl 1 rfl) ?_
  refine va_gets hx hb hZ6 hS hown (hts (.fieldLink "java/lang/String" 1053 "jdk/internal/util/Preconditions" "SIOOBE_FORMATTER" "Ljava/util/function/BiFunction;") (x_in2 (List.mem_of_getElem? (i := 24) rfl) rfl)) (fun _ h => h) d_jchk_2 ?_
  refine va_calli (va_runS (As := [.int (nI i), .int (nI 76), vF]) (rest := []) ⟨hx, hb, hml, hown, hts⟩ (j_pre l hi hF) ⟨callB_of 3 hts (z_good jpre_in) rfl rfl rfl (hts (.initialized "jdk/internal/util/Preconditions") (x_in1 (List.mem_of_getElem? (i := 13) rfl) rfl)) (hts (.methodLink "java/lang/String" 1059 y_jpre) (x_in2 (List.mem_of_getElem? (i := 26) rfl) rfl)) (by decide +kernel) ⟨Nat.le_of_ble_eq_true rfl, Nat.le_of_ble_eq_true rfl⟩, (hts (.static y_jpre) (x_in2 (List.mem_of_getElem? (i := 27) rfl) rfl))⟩ ⟨fun b U g mk q => ⟨q.1, trivial⟩, fun U hU hW => ⟨rfl, trivial⟩⟩ rfl rfl hl.1 rfl (lv_room (Nat.le_of_ble_eq_true rfl)) d_jchk_5 ⟨by decide, by decide⟩) hS (fun _ _ h => h.elim) (fun _ h => h.elim) (fun r u t H1 locs ht hvm hw hB hz1 hk1 hS => ?_)
  refine lv_pop hx hb d_jchk_8 rfl ?_
  exact W.vret hx hb hr (fun t ht hW => ⟨⟨(), rfl, trivial, trivial⟩, hS.F ht⟩) hS.2.2 d_jchk_9
set_option maxHeartbeats 4000000 in
set_option maxRecDepth 100000 in
theorem j_lch (l : Launch) (a v : Nat) {i : Nat} (hi : i < 76) : Met l y_jlch (Cond.code y_jlch prog_15_method_2_code 2 (some .char) :: xT) ({ frames := 2, cells := 0, slots := 0, locals := 120 }) (va_Pc [.ref v, .int (nI i)] (fun U => z_str a v z_N U U.heap)) (va_Qi (fun r (_ : Unit) => r = nI (z_by.getD i 0)) (fun _ _ => True) z_N) 0 0 z_N := by
  refine Met.ofW (cc := prog_15_method_2_code) (maxL := 2) (ret := (some .char)) (by decide) rfl ?_
  intro p e s m args below meth c s₁ B hml hv
  obtain ⟨rfl, hZ⟩ := hv
  have hx := B.exec
  have hb := B.bytes
  have hr := B.returns
  have hts0 := atoms_spec (ws := Cond.code y_jlch prog_15_method_2_code 2 (some .char) :: xT) B.pre
  have hts : ∀ w ∈ xT, w.before _ s = true := fun w hw => hts0 w (List.mem_cons_of_mem _ hw)
  have hown : s.vm.findClass "java/lang/StringLatin1" = some m.cls := findClass_of_methodNamed B.named
  have hlocks := B.notSynchronized
  have hS : va_S z_N s.heap s.heap [] := va_S.rf
  have hl := lv_entry ([.ref v, .int (nI i)]) (n := 2) (Nat.le_of_ble_eq_true rfl)
  rw [lg_entry_eq]
  generalize (lg_sl ([.ref v, .int (nI i)]) ++ List.replicate (2 - (lg_sl ([.ref v, .int (nI i)])).length) Slot.unset).toArray = ls at hl ⊢
  have hl : lv_has ls 2 [(0, .ref v), (1, .int (nI i))] := hl
  obtain ⟨h1, h2, h3, h4, h5, h6⟩ := id hZ
  have hb8 := z_b128 i hi
  refine lv_iload_n hx hb d_jlch_0 rfl (lv_at hl 1 rfl) ?_
  refine lv_aload_n hx hb d_jlch_1 rfl (lv_at hl 0 rfl) ?_
  refine va_tlen (v := nI 76) hx hb h4 hS rfl d_jlch_2 ?_
  refine va_callv (va_runS (As := [.int (nI i), .int (nI 76)]) (rest := []) ⟨hx, hb, hml, hown, hts⟩ (j_chk l a v hi) ⟨callB_of 2 hts (z_good jchk_in) rfl rfl rfl (hts (.initialized "java/lang/String") (x_in1 (List.mem_of_getElem? (i := 11) rfl) rfl)) (hts (.methodLink "java/lang/StringLatin1" 9 y_jchk) (x_in2 (List.mem_of_getElem? (i := 21) rfl) rfl)) (by decide +kernel) ⟨Nat.le_of_ble_eq_true rfl, Nat.le_of_ble_eq_true rfl⟩, (hts (.static y_jchk) (x_in2 (List.mem_of_getElem? (i := 22) rfl) rfl))⟩ ⟨z_strB, fun U hU hW => ⟨rfl, hZ.call hS U hU hW⟩⟩ rfl rfl hl.1 rfl (lv_room (Nat.le_of_ble_eq_true rfl)) d_jlch_3 ⟨by decide, by decide⟩) hS (fun _ _ h => h.elim) (fun _ h => h.elim) (fun u t H1 locs ht hvm hw hB hz1 hk1 hS => ?_)
  refine lv_aload_n hx hb d_jlch_6 rfl (lv_at hl 0 rfl) ?_
  refine lv_iload_n hx hb d_jlch_7 rfl (lv_at hl 1 rfl) ?_
  refine va_tb (v := .int (nI (z_by.getD i 0))) hx hb h4 hS (vp_in_nI hi (by decide)) (by rw [nI_clamp (by omega)]) d_jlch_8 ?_
  refine lv_sipush (v := 255) hx hb d_jlch_9 (by decide) ?_
  refine lv_iand hx hb d_jlch_12 ?_
  refine lv_i2c (v := nI (z_by.getD i 0)) hx hb d_jlch_13 (z_c128 _ hb8) ?_
  exact W.zret (v := nI (z_by.getD i 0)) hx hb hr (z_n128 _ hb8) (fun t ht hW => ⟨⟨_, (), rfl, rfl, trivial⟩, hS.F ht⟩) hS.2.2 d_jlch_14
set_option maxHeartbeats 4000000 in
set_option maxRecDepth 100000 in
theorem j_cha (l : Launch) (a v : Nat) {i : Nat} (hi : i < 76) : Met l y_jcha (Cond.code y_jcha prog_14_method_56_code 2 (some .char) :: xT) ({ frames := 3, cells := 0, slots := 0, locals := 180 }) (va_Pc [.ref a, .int (nI i)] (fun U => z_str a v z_N U U.heap)) (va_Qi (fun r (_ : Unit) => r = nI (z_by.getD i 0)) (fun _ _ => True) z_N) 0 0 z_N := by
  refine Met.ofW (cc := prog_14_method_56_code) (maxL := 2) (ret := (some .char)) (by decide) rfl ?_
  intro p e s m args below meth c s₁ B hml hv
  obtain ⟨rfl, hZ⟩ := hv
  have hx := B.exec
  have hb := B.bytes
  have hr := B.returns
  have hts0 := atoms_spec (ws := Cond.code y_jcha prog_14_method_56_code 2 (some .char) :: xT) B.pre
  have hts : ∀ w ∈ xT, w.before _ s = true := fun w hw => hts0 w (List.mem_cons_of_mem _ hw)
  have hown : s.vm.findClass "java/lang/String" = some m.cls := findClass_of_methodNamed B.named
  have hlocks := B.notSynchronized
  have hS : va_S z_N s.heap s.heap [] := va_S.rf
  have hl := lv_entry ([.ref a, .int (nI i)]) (n := 2) (Nat.le_of_ble_eq_true rfl)
  rw [lg_entry_eq]
  generalize (lg_sl ([.ref a, .int (nI i)]) ++ List.replicate (2 - (lg_sl ([.ref a, .int (nI i)])).length) Slot.unset).toArray = ls at hl ⊢
  have hl : lv_has ls 2 [(0, .ref a), (1, .int (nI i))] := hl
  obtain ⟨h1, h2, h3, h4, h5, h6⟩ := id hZ
  have hb8 := z_b128 i hi
  refine lv_aload_n hx hb d_jcha_0 rfl (lv_at hl 0 rfl) ?_
  refine va_calli (va_runV (As := []) (rest := []) ⟨hx, hb, hml, hown, hts⟩ (j_lat l a v) ⟨callB_of 0 hts (z_good jlat_in) rfl rfl rfl (hts (.initialized "java/lang/String") (x_in1 (List.mem_of_getElem? (i := 11) rfl) rfl)) (hts (.methodLink "java/lang/String" 492 y_jlat) (x_in2 (List.mem_of_getElem? (i := 14) rfl) rfl)) (by decide +kernel) ⟨Nat.le_of_ble_eq_true rfl, Nat.le_of_ble_eq_true rfl⟩, (hts (.instanceMethod y_jlat) (x_in2 (List.mem_of_getElem? (i := 15) rfl) rfl)), (hts (.selects "java/lang/String" y_jlat y_jlat) (x_in2 (List.mem_of_getElem? (i := 16) rfl) rfl))⟩ ⟨z_strB, hZ.recv hS, fun U hU hW => ⟨rfl, hZ.call hS U hU hW⟩⟩ rfl rfl hl.1 rfl (lv_room (Nat.le_of_ble_eq_true rfl)) d_jcha_1 ⟨by decide, by decide⟩) hS (fun _ _ h => h.elim) (fun _ h => h.elim) (fun r u t H1 locs ht hvm hw hB hz1 hk1 hS => ?_)
  subst hw
  refine lv_if_eq (tgt := 16) hx hb d_jcha_4 (by decide) (fun c9 => absurd c9 (by decide)) (fun _ => ?_)
  refine lv_aload_n hx hb d_jcha_7 rfl (lv_at hl 0 rfl) ?_
  refine vk_getf hx hb h3 hS hown (hts (.fieldLink "java/lang/String" 9 "java/lang/String" "value" "[B") (x_in5 (List.mem_of_getElem? (i := 4) rfl) rfl)) (fun _ h => h) d_jcha_8 ?_
  refine lv_iload_n hx hb d_jcha_11 rfl (lv_at hl 1 rfl) ?_
  refine va_calli (va_runS (As := [.ref v, .int (nI i)]) (rest := []) ⟨hx, hb, hml, hown, hts⟩ (j_lch l a v hi) ⟨callB_of 2 hts (z_good jlch_in) rfl rfl rfl (hts (.initialized "java/lang/StringLatin1") (x_in1 (List.mem_of_getElem? (i := 12) rfl) rfl)) (hts (.methodLink "java/lang/String" 495 y_jlch) (x_in2 (List.mem_of_getElem? (i := 18) rfl) rfl)) (by decide +kernel) ⟨Nat.le_of_ble_eq_true rfl, Nat.le_of_ble_eq_true rfl⟩, (hts (.static y_jlch) (x_in2 (List.mem_of_getElem? (i := 19) rfl) rfl))⟩ ⟨z_strB, fun U hU hW => ⟨rfl, hZ.call hS U hU hW⟩⟩ rfl rfl hl.1 rfl (lv_room (Nat.le_of_ble_eq_true rfl)) d_jcha_12 ⟨by decide, by decide⟩) hS (fun _ _ h => h.elim) (fun _ h => h.elim) (fun r u t H1 locs ht hvm hw hB hz1 hk1 hS => ?_)
  subst hw
  exact W.zret (v := nI (z_by.getD i 0)) hx hb hr (z_n128 _ hb8) (fun t ht hW => ⟨⟨_, (), rfl, rfl, trivial⟩, hS.F ht⟩) hS.2.2 d_jcha_15
