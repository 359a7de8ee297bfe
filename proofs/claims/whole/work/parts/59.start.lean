/-! THE CLAIM OUT OF ONE WALK OF THE LAW'S BODY. Your part is whole_start (and what it stands on); all else here is the same for every law, but numbers. -/
def R_law : String := "BackColumnsLaw"
def lw_P (b : Addr) (xs : List Int32) (args : Array Value) (s : State) : Prop := args = #[.ref b] ∧ s.IntsAt b xs ∧ xs.length ≤ 256 ∧ (Jvm.Cond.and given_1 narrow_1).before args s = true
def lw_Q (_ : Array Value) (s : State) (o : Outcome) (t : State) : Prop := o = .returned (some (.int 1)) ∧ Framed s o t [] 600000 7302250
def lw_Z (below : List Frame) (a : Array Value) (s : State) : State → Prop := fun t => ∃ o, t.status = .running ∧ Ended t below o ∧ lw_Q a s o t
/-- the law's own end, with 1 on the stack, nothing written that was there before, its room as the claim has it -/
theorem lw_ret {p : Program} {l : Launch} {e : Env} {s : State} {m : MethodId} {below : List Frame} {meth : Method} {c : Code} {b : Nat} (hx : p.tables.exec = Jvm.exec) (hb : c.code = code) (hr : meth.sig.returnType = ret) (hlocks : meth.locks = false) {pc : Nat} {H : Heap} {ls : Array Slot} (hdg : decode code pc = .ok (.ireturn, 1)) : W p l e room_1 s m #[Value.ref b] below meth c H [] 600000 7302250 (lw_Z below #[Value.ref b] s) (F0 m pc ls [.int 1]) := by
  intro T hT X
  obtain ⟨fs, hret, hrun, hended, hW, hframe⟩ := X.leave (v := some (.int 1)) (hlocks := hlocks) (fun h => by rw [hr] at h; cases h)
  have hmeth' : T.vm.method? m = some meth := X.method'
  refine ⟨T.setFrames fs, ?_, .returned (some (.int 1)), hrun, hended, rfl, ⟨_, rfl⟩, hW, hframe⟩
  jvm_step X.here [X.here.top, hx, hb, hdg, hmeth', hr, ret, narrow_b1]
  (try refine ⟨rfl, ?_⟩); (try refine ⟨rfl, ?_⟩)
  first | (intro acts; rw [hret _ acts rfl rfl rfl]) | rw [hret _ _ rfl rfl rfl]
  exact Steps.refl _
/-- what holds at the law's entry: the machine, the code, the tables' words (any of lw_tbl by 'hts w (by decide +kernel)'), the script of L ints xs at the cell b, what the Statement gives of the start (any of its parts by flat_of_before) -/
def lw_At (p : Program) (s : State) (m : MethodId) (meth : Method) (c : Code) (b L : Nat) (xs : Nat → Int32) : Prop :=
  p.tables.exec = Jvm.exec ∧ c.code = code ∧ meth.sig.returnType = ret ∧ c.maxLocals = 4 ∧ s.vm.findClass R_law = some m.cls ∧ (∀ w ∈ lw_tbl, w.before #[Value.ref b] s = true) ∧ va_X b L xs s s.heap ∧ b < s.heap.size ∧ meth.locks = false ∧ (Jvm.Cond.and given_1 narrow_1).before #[Value.ref b] s = true
theorem z_in1 {w : Cond} (h : w ∈ tables_1_1) : w ∈ lw_tbl := List.mem_append_right _ (show w ∈ tables_1 from List.mem_append_left _ h)
theorem z_in2 {w : Cond} (h : w ∈ tables_1_2) : w ∈ lw_tbl := List.mem_append_right _ (show w ∈ tables_1 from List.mem_append_right _ (List.mem_append_left _ h))
theorem z_in3 {w : Cond} (h : w ∈ tables_1_3) : w ∈ lw_tbl := List.mem_append_right _ (show w ∈ tables_1 from List.mem_append_right _ (List.mem_append_right _ (List.mem_append_left _ h)))
theorem z_in4 {w : Cond} (h : w ∈ tables_1_4) : w ∈ lw_tbl := List.mem_append_right _ (show w ∈ tables_1 from List.mem_append_right _ (List.mem_append_right _ (List.mem_append_right _ (List.mem_append_left _ h))))
theorem z_in5 {w : Cond} (h : w ∈ tables_1_5) : w ∈ lw_tbl := List.mem_append_right _ (show w ∈ tables_1 from List.mem_append_right _ (List.mem_append_right _ (List.mem_append_right _ (List.mem_append_right _ (h)))))
theorem d_law_0 : decode code 0 = .ok (.new 7, 3) := by decide +kernel
theorem d_law_3 : decode code 3 = .ok (.dup, 1) := by decide +kernel
theorem d_law_4 : decode code 4 = .ok (.invokespecial 9, 3) := by decide +kernel
theorem d_law_7 : decode code 7 = .ok (.astore_n 1, 1) := by decide +kernel
theorem d_law_8 : decode code 8 = .ok (.new 10, 3) := by decide +kernel
theorem d_law_11 : decode code 11 = .ok (.dup, 1) := by decide +kernel
theorem d_law_12 : decode code 12 = .ok (.invokespecial 12, 3) := by decide +kernel
theorem d_law_15 : decode code 15 = .ok (.astore_n 2, 1) := by decide +kernel
theorem d_law_16 : decode code 16 = .ok (.iconst 0, 1) := by decide +kernel
theorem d_law_17 : decode code 17 = .ok (.istore_n 3, 1) := by decide +kernel
def z_Ap (s : State) : Nat → Prop := fun q => s.heap.size ≤ q
theorem z_byI (j : Nat) : (z_by.map nI).getD j 0 = nI (z_by.getD j 0) := by
  rw [List.getD_eq_getElem?_getD, List.getD_eq_getElem?_getD, List.getElem?_map]
  cases z_by[j]? <;> rfl
def z_val : Term := .field (.string "BackColumns" 73) "java/lang/String" "value" "[B"
theorem z_fl : (∀ j, j < 76 → Cond.eq (.elem z_val (.int (Int32.ofNat j))) (.int ((z_by.map nI).getD j 0)) ∈ flatC (Jvm.Cond.and given_1 narrow_1)) ∧ Cond.exactly (.string "BackColumns" 73) "java/lang/String" ∈ flatC (Jvm.Cond.and given_1 narrow_1) ∧ Cond.eq (.field (.string "BackColumns" 73) "java/lang/String" "coder" "B") (.int 0) ∈ flatC (Jvm.Cond.and given_1 narrow_1) ∧ Cond.arrayOf z_val .byte ∈ flatC (Jvm.Cond.and given_1 narrow_1) ∧ Cond.eq (.length z_val) (.int (Int32.ofNat 76)) ∈ flatC (Jvm.Cond.and given_1 narrow_1) ∧ Cond.eq (.static "java/lang/String" "COMPACT_STRINGS" "Z") (.int 1) ∈ flatC (Jvm.Cond.and given_1 narrow_1) ∧ Cond.isRef (.static "jdk/internal/util/Preconditions" "SIOOBE_FORMATTER" "Ljava/util/function/BiFunction;") ∈ flatC (Jvm.Cond.and given_1 narrow_1) := by decide +kernel
set_option maxRecDepth 20000 in
/-- what the law's entry gives of the machine -/
theorem z_env0 {s : State} {b : Nat} (hts : ∀ w ∈ lw_tbl, w.before #[Value.ref b] s = true) (hgv : (Jvm.Cond.and given_1 narrow_1).before #[Value.ref b] s = true) : ∃ a v, z_env a v (z_Ap s) s := by
  have hs := flat_of_before _ hgv
  have hA : ∀ a : Nat, a < s.heap.size → ¬ z_Ap s a := fun a h q => by
    have q : s.heap.size ≤ a := q
    omega
  obtain ⟨f1, f2, f3, f4, f5, f6, f7⟩ := z_fl
  obtain ⟨adK, adV, hk, ha⟩ := vk_Sof (args := #[Value.ref b]) (s := s) (N := 1) (tm := fun _ => .string "BackColumns" 73) (len := [76]) (byt := [z_by.map nI]) (A := z_Ap s) (fun i hi => by rcases (show i = 0 by omega) with rfl; decide) (fun i hi => hs _ f2) (fun i hi => hs _ f3) (fun i hi => hs _ f4) (fun i hi => by rcases (show i = 0 by omega) with rfl; exact hs _ f5) (fun i hi j hj => by rcases (show i = 0 by omega) with rfl; exact hs _ (f1 j hj)) (fun i j hi hj h => absurd (show i = j by omega) h) hA
  obtain ⟨k1, k2, k3, k4⟩ := hk.1 0 (by decide)
  refine ⟨adK 0, adV 0, fun q hq => ?_, ⟨va_tabs rfl rfl (hts _ (z_in1 (List.mem_of_getElem? (i := 28) rfl))), va_tabs rfl rfl (hts _ (z_in1 (List.mem_of_getElem? (i := 43) rfl))), va_tabs rfl rfl (hts _ (z_in1 (List.mem_of_getElem? (i := 114) rfl))), va_tabs rfl rfl (hts _ (z_in1 (List.mem_of_getElem? (i := 134) rfl))), va_tabs rfl rfl (hts _ (z_in1 (List.mem_of_getElem? (i := 192) rfl))), va_tabs rfl rfl (hts _ (z_in1 (List.mem_of_getElem? (i := 210) rfl)))⟩, va_tabs rfl rfl (hts _ (z_in1 (List.mem_of_getElem? (i := 174) rfl))), va_AO.of (hts _ (z_in1 (List.mem_of_getElem? (i := 173) rfl))), vk_R.of (hts (.stringRef "BackColumns" 73 "w3,1,4;w2,5,5;w4,2,7;w1,0,3;w5,6,1;r0,6;r1,9;r2,4;r3,8;r1,2;n01;n24;n130;n3;") (z_in1 (List.mem_of_getElem? (i := 231) rfl))) (ha 0 (by decide)), k1, k2, k3, ?_, va_Zof (hts _ (z_in2 (List.mem_of_getElem? (i := 9) rfl))) (hts _ (z_in1 (List.mem_of_getElem? (i := 11) rfl))) (va_eqt (hs _ f6)) hA, va_Zqof (hts _ (z_in2 (List.mem_of_getElem? (i := 25) rfl))) (hts _ (z_in1 (List.mem_of_getElem? (i := 13) rfl))) (hs _ f7) hA⟩
  · have hq : q = (7, 63) ∨ q = (3, 47) ∨ q = (2, 21) := by
      have h2 : q ∈ [(7, 63), (3, 47), (2, 21)] := hq
      simpa using h2
    rcases hq with rfl | rfl | rfl
    · exact va_tabs rfl rfl (hts _ (z_in2 (List.mem_of_getElem? (i := 84) rfl)))
    · exact va_tabs rfl rfl (hts _ (z_in2 (List.mem_of_getElem? (i := 232) rfl)))
    · exact va_tabs rfl rfl (hts _ (z_in3 (List.mem_of_getElem? (i := 73) rfl)))
  · have e : (fun j => Value.int ((([z_by.map nI] : List (List Int32)).getD 0 []).getD j 0)) = fun j => .int (nI (z_by.getD j 0)) := by
      funext j
      exact congrArg Value.int (z_byI j)
    rw [e] at k4
    exact k4
theorem z_env.blind {a v : Nat} {A : Nat → Prop} {U V : State} (hv : U.vm = V.vm) (hh : V.heap = U.heap) (h : z_env a v A U) : z_env a v A V := by
  obtain ⟨n1, ⟨m1, m2, m3, m4, m5, m6⟩, n2, ao, rf, z⟩ := h
  have hal : U.vm.Alike V.vm := by rw [hv]; exact Vm.Alike.refl V.vm
  refine ⟨fun x hx => va_tabs (A := #[]) (A' := #[]) (u := U) rfl hv (n1 x hx), ⟨va_tabs (A := #[]) (A' := #[]) (u := U) rfl hv m1, va_tabs (A := #[]) (A' := #[]) (u := U) rfl hv m2, va_tabs (A := #[]) (A' := #[]) (u := U) rfl hv m3, va_tabs (A := #[]) (A' := #[]) (u := U) rfl hv m4, va_tabs (A := #[]) (A' := #[]) (u := U) rfl hv m5, va_tabs (A := #[]) (A' := #[]) (u := U) rfl hv m6⟩, va_tabs (A := #[]) (A' := #[]) (u := U) rfl hv n2, ao.moved hal, vk_R.same hv.symm rf, ?_⟩
  rw [hh]
  exact z.moved hal
theorem z_env.warm {a v : Nat} {A A1 : Nat → Prop} {s U : State} {H : Heap} {locs : List Loc} (h : z_env a v A s) (hS : va_S A s.heap H locs) (hF : ∀ q, A1 q → A q) (hU : U.heap = H) (hW : s.WarmedH U.vm) : z_env a v A1 U := by
  obtain ⟨n1, ⟨m1, m2, m3, m4, m5, m6⟩, n2, ao, rf, z⟩ := h
  refine ⟨n1.warm hW, ⟨va_Nw.warmM hW m1, va_Nw.warmM hW m2, va_Nw.warmM hW m3, va_Nw.warmM hW m4, va_Nw.warmM hW m5, va_Nw.warmM hW m6⟩, va_Nw.warmM hW n2, ao.moved hW.alike, rf.warm hW, ?_⟩
  rw [hU]
  exact ((z.kept hS.2.1).narrow hF).moved hW.alike
theorem x_sh_hi {k : Nat} (h : ¬ k < 49) : x_sh k = cond (Nat.beq k 99) (.inr (3, 0, [])) (.inr (9, 0, [])) := by
  unfold x_sh
  rw [show Nat.blt k 49 = false from by rw [Bool.eq_false_iff, ne_eq, Nat.blt_eq]; exact h]
  rfl
theorem x_sh_ok : x_shok x_sh 49 := by
  refine ⟨fun k q h => ?_, fun k ty n rs h ht => ?_, ⟨0, [], rfl⟩⟩
  · by_cases hk : k < 49
    · exact hk
    · rw [x_sh_hi hk] at h
      cases hb : Nat.beq k 99 <;> rw [hb] at h <;> cases h
  · by_cases hk : k < 49
    · exact hk
    · rw [x_sh_hi hk] at h
      cases hb : Nat.beq k 99 <;> rw [hb] at h <;> cases h <;> omega
theorem z_x0 {ad : Nat → Nat} {A : Nat → Prop} {L : Nat} {xs : Nat → Int32} {U : State} {H : Heap} (hL : L ≤ 256) (h1 : va_X (ad 99) L xs U H) (h2 : ad 99 < H.size) (h3 : ¬ A (ad 99)) : x_Xp x_sh ad A (z_M0 L xs) U H := fun a n rs h => by
  have ha : a = 99 := by
    by_cases hk : a < 49
    · exfalso
      have key : ∀ a, a < 49 → z_no3 (x_sh a) = true := by decide
      have := key a hk
      rw [h] at this
      cases this
    · rw [x_sh_hi hk] at h
      cases hb : Nat.beq a 99 with
      | true => exact Nat.eq_of_beq_eq_true hb
      | false => rw [hb] at h; cases h
  subst ha
  have e98 : z_M0 L xs 98 0 = nI L := rfl
  rw [e98, nI_clamp (by omega)]
  exact ⟨h1, h2, h3, rfl⟩
set_option maxRecDepth 20000 in
theorem z_w49 (ad : Nat → Nat) (aC : Nat → ClassId) (M : xM) : x_w x_sh 49 ad aC M = [(ad 0, .inr (8, [.ref (ad 1), .ref (ad 3), .ref (ad 10), .ref (ad 17), .ref (ad 19), .ref (ad 21), .ref (ad 25), .ref (ad 26), .ref (ad 33), .ref (ad 37)])), (ad 1, .inr (7, [.ref (ad 2), .int (M 1 1)])), (ad 2, .inl (aC 2, 200, .inl (M 2))), (ad 3, .inr (3, [.ref (ad 4), .ref (ad 5), .ref (ad 6), .ref (ad 7), .ref (ad 8), .ref (ad 9), .int (M 3 6), .int (M 3 7), .int (M 3 8)])), (ad 4, .inl (aC 4, 8, .inl (M 4))), (ad 5, .inl (aC 5, 8, .inl (M 5))), (ad 6, .inl (aC 6, 8, .inl (M 6))), (ad 7, .inl (aC 7, 6, .inl (M 7))), (ad 8, .inl (aC 8, 6, .inl (M 8))), (ad 9, .inl (aC 9, 6, .inl (M 9))), (ad 10, .inr (3, [.ref (ad 11), .ref (ad 12), .ref (ad 13), .ref (ad 14), .ref (ad 15), .ref (ad 16), .int (M 10 6), .int (M 10 7), .int (M 10 8)])), (ad 11, .inl (aC 11, 8, .inl (M 11))), (ad 12, .inl (aC 12, 8, .inl (M 12))), (ad 13, .inl (aC 13, 8, .inl (M 13))), (ad 14, .inl (aC 14, 6, .inl (M 14))), (ad 15, .inl (aC 15, 6, .inl (M 15))), (ad 16, .inl (aC 16, 6, .inl (M 16))), (ad 17, .inr (6, [.int (M 17 0), .ref (ad 18), .int (M 17 2)])), (ad 18, .inl (aC 18, 120, .inl (M 18))), (ad 19, .inr (6, [.int (M 19 0), .ref (ad 20), .int (M 19 2)])), (ad 20, .inl (aC 20, 30, .inl (M 20))), (ad 21, .inr (1, [.ref (ad 22), .ref (ad 23), .ref (ad 24), .int (M 21 3)])), (ad 22, .inl (aC 22, 8, .inl (M 22))), (ad 23, .inl (aC 23, 8, .inl (M 23))), (ad 24, .inl (aC 24, 8, .inl (M 24))), (ad 25, .inr (4, [.int (M 25 0), .int (M 25 1), .int (M 25 2), .int (M 25 3), .int (M 25 4), .int (M 25 5), .int (M 25 6)])), (ad 26, .inr (5, [.ref (ad 27), .int (M 26 1), .int (M 26 2), .int (M 26 3)])), (ad 27, .inl (aC 27, 5, .inr (.inr (.inr (.inr (fun j => ((([.ref 28, .ref 29, .ref 30, .ref 31, .ref 32] : List Value)[j]?).bind x_rn).map ad)))))), (ad 28, .inr (4, [.int (M 28 0), .int (M 28 1), .int (M 28 2), .int (M 28 3), .int (M 28 4), .int (M 28 5), .int (M 28 6)])), (ad 29, .inr (4, [.int (M 29 0), .int (M 29 1), .int (M 29 2), .int (M 29 3), .int (M 29 4), .int (M 29 5), .int (M 29 6)])), (ad 30, .inr (4, [.int (M 30 0), .int (M 30 1), .int (M 30 2), .int (M 30 3), .int (M 30 4), .int (M 30 5), .int (M 30 6)])), (ad 31, .inr (4, [.int (M 31 0), .int (M 31 1), .int (M 31 2), .int (M 31 3), .int (M 31 4), .int (M 31 5), .int (M 31 6)])), (ad 32, .inr (4, [.int (M 32 0), .int (M 32 1), .int (M 32 2), .int (M 32 3), .int (M 32 4), .int (M 32 5), .int (M 32 6)])), (ad 33, .inr (2, [.ref (ad 34), .ref (ad 35), .ref (ad 36)])), (ad 34, .inl (aC 34, 6, .inl (M 34))), (ad 35, .inl (aC 35, 6, .inl (M 35))), (ad 36, .inl (aC 36, 448, .inl (M 36))), (ad 37, .inr (0, [.ref (ad 38), .ref (ad 39), .int (M 37 2), .int (M 37 3)])), (ad 38, .inl (aC 38, 6, .inl (M 38))), (ad 39, .inl (aC 39, 6, .inl (M 39))), (ad 40, .inr (9, [.ref (ad 41), .int (M 40 1), .ref (ad 42), .ref (ad 43), .ref (ad 44), .ref (ad 45), .ref (ad 46), .int (M 40 7), .ref (ad 47), .int (M 40 9), .ref (ad 48), .int (M 40 11), .int (M 40 12)])), (ad 41, .inl (aC 41, 200, .inl (M 41))), (ad 42, .inl (aC 42, 30, .inl (M 42))), (ad 43, .inl (aC 43, 30, .inl (M 43))), (ad 44, .inl (aC 44, 15, .inl (M 44))), (ad 45, .inl (aC 45, 15, .inl (M 45))), (ad 46, .inl (aC 46, 120, .inl (M 46))), (ad 47, .inl (aC 47, 30, .inl (M 47))), (ad 48, .inl (aC 48, 16, .inl (M 48)))] := rfl
def z_adA (adC adM : Nat → Nat) (b k : Nat) : Nat := cond (Nat.blt k 40) (adC k) (cond (Nat.blt k 49) (adM (k - 40)) b)
def z_aCA (aCC aCM : Nat → ClassId) (k : Nat) : ClassId := cond (Nat.blt k 40) (aCC k) (aCM (k - 40))
theorem z_arrA {aCC aCM : Nat → ClassId} {U : State} (hC : z_arr x_shC 40 aCC U) (hM : z_arr x_shM 9 aCM U) : z_arr x_sh 49 (z_aCA aCC aCM) U := by
  intro k ty n rs hk hs ht
  unfold z_aCA
  by_cases h : k < 40
  · rw [show Nat.blt k 40 = true from by rw [Nat.blt_eq]; exact h]
    refine hC k ty n rs h ?_ ht
    unfold x_shC
    rw [show Nat.blt k 40 = true from by rw [Nat.blt_eq]; exact h]
    exact hs
  · rw [show Nat.blt k 40 = false from by rw [Bool.eq_false_iff, ne_eq, Nat.blt_eq]; exact h]
    refine hM (k - 40) ty n rs (by omega) ?_ ht
    unfold x_shM
    rw [show Nat.blt (k - 40) 9 = true from by rw [Nat.blt_eq]; omega, show k - 40 + 40 = k by omega, hs]
    rfl
theorem z_arr.back {sh : xH} {nc : Nat} {aC : Nat → ClassId} {s t : State} (hvm : s.vm.Alike t.vm) (h : z_arr sh nc aC t) : z_arr sh nc aC s := fun k ty n rs hk hs h3 => ⟨arrOfT_moved hvm.symm (h k ty n rs hk hs h3).1, (h k ty n rs hk hs h3).2.moved hvm.symm⟩
set_option maxHeartbeats 8000000 in
set_option maxRecDepth 100000 in
theorem whole_start {p : Program} {e : Env} {s : State} {m : MethodId} {below : List Frame} {meth : Method} {c : Code} (l : Launch) {b L : Nat} {xs : Nat → Int32} (hL : L ≤ 256) (C0 : lw_At p s m meth c b L xs) : W p l e room_1 s m #[Value.ref b] below meth c s.heap [] 0 0 (lw_Z below #[Value.ref b] s) (entryFrame m ([Value.ref b] : List Value).toArray 4) := by
  obtain ⟨hx, hb, hr, hml, hown, hts, hX, hbl, hlocks, hgv⟩ := id C0
  have htx : ∀ w ∈ xT, w.before #[Value.ref b] s = true := fun w hw => hts w (xT_tbl hw)
  obtain ⟨sa, sv, hE⟩ := z_env0 hts hgv
  have hA : ∀ q : Nat, s.heap.size ≤ q → z_Ap s q := fun _ h => h
  have hbA : ¬ z_Ap s b := Nat.not_le.mpr hbl
  obtain ⟨c0, iS0, hKn0⟩ := u_known (C := x_R0) (T := x_T0) (N := 4) (n := 4) htx x_lay0 (htx (.instantiable x_R0 4) (x_in1 (List.mem_of_getElem? (i := 209) rfl) rfl))
  obtain ⟨c1, iS1, hKn1⟩ := u_known (C := x_R1) (T := x_T1) (N := 4) (n := 4) htx x_lay1 (htx (.instantiable x_R1 4) (x_in1 (List.mem_of_getElem? (i := 113) rfl) rfl))
  obtain ⟨c2, iS2, hKn2⟩ := u_known (C := x_R2) (T := x_T2) (N := 3) (n := 3) htx x_lay2 (htx (.instantiable x_R2 3) (x_in1 (List.mem_of_getElem? (i := 191) rfl) rfl))
  obtain ⟨c3, iS3, hKn3⟩ := u_known (C := x_R3) (T := x_T3) (N := 9) (n := 9) htx x_lay3 (htx (.instantiable x_R3 9) (x_in1 (List.mem_of_getElem? (i := 42) rfl) rfl))
  obtain ⟨c4, iS4, hKn4⟩ := u_known (C := x_R4) (T := x_T4) (N := 7) (n := 7) htx x_lay4 (htx (.instantiable x_R4 7) (x_in1 (List.mem_of_getElem? (i := 133) rfl) rfl))
  obtain ⟨c5, iS5, hKn5⟩ := u_known (C := x_R5) (T := x_T5) (N := 4) (n := 4) htx x_lay5 (htx (.instantiable x_R5 4) (x_in1 (List.mem_of_getElem? (i := 167) rfl) rfl))
  obtain ⟨c6, iS6, hKn6⟩ := u_known (C := x_R6) (T := x_T6) (N := 3) (n := 3) htx x_lay6 (htx (.instantiable x_R6 3) (x_in1 (List.mem_of_getElem? (i := 93) rfl) rfl))
  obtain ⟨c7, iS7, hKn7⟩ := u_known (C := x_R7) (T := x_T7) (N := 2) (n := 2) htx x_lay7 (htx (.instantiable x_R7 2) (x_in1 (List.mem_of_getElem? (i := 27) rfl) rfl))
  obtain ⟨c8, iS8, hKn8⟩ := u_known (C := x_R8) (T := x_T8) (N := 10) (n := 10) htx x_lay8 (htx (.instantiable x_R8 10) (x_in1 (List.mem_of_getElem? (i := 19) rfl) rfl))
  obtain ⟨c9, iS9, hKn9⟩ := u_known (C := x_R9) (T := x_T9) (N := 13) (n := 13) htx x_lay9 (htx (.instantiable x_R9 13) (x_in3 (List.mem_of_getElem? (i := 214) rfl) rfl))
  obtain ⟨D, hKc⟩ : ∃ (D : va_G), ∀ (k : Nat) (q : vw_C), x_cls[k]? = some q → u_Kn s q.1 q.2.1 q.2.2 (D.1 k) (D.2 k) := by
    refine ⟨(fun k => [c0, c1, c2, c3, c4, c5, c6, c7, c8, c9].getD k c0, fun k => [iS0, iS1, iS2, iS3, iS4, iS5, iS6, iS7, iS8, iS9].getD k iS0), ?_⟩
    intro k q hq
    match k, hq with
    | 0, hq => cases hq; exact hKn0
    | 1, hq => cases hq; exact hKn1
    | 2, hq => cases hq; exact hKn2
    | 3, hq => cases hq; exact hKn3
    | 4, hq => cases hq; exact hKn4
    | 5, hq => cases hq; exact hKn5
    | 6, hq => cases hq; exact hKn6
    | 7, hq => cases hq; exact hKn7
    | 8, hq => cases hq; exact hKn8
    | 9, hq => cases hq; exact hKn9
    | k + 10, hq => simp [x_cls] at hq
  have hS : va_S (z_Ap s) s.heap s.heap [] := va_S.rf
  have hK : va_K D x_cls [] s := ⟨hKc, fun k q h => by simp at h⟩
  have hP : va_P D x_cls [] s.heap := fun k q h => by simp at h
  have hD : va_D (z_Ap s) [] := ⟨fun i j p q h => by simp at h, fun k q h => by simp at h⟩
  have hl := lv_entry ([.ref b]) (n := 4) (Nat.le_of_ble_eq_true rfl)
  rw [lg_entry_eq]
  generalize (lg_sl ([.ref b]) ++ List.replicate (4 - (lg_sl ([.ref b])).length) Slot.unset).toArray = ls at hl ⊢
  have hl : lv_has ls 4 [(0, .ref b)] := hl
  refine va_new (ci := 8) (fs := [.null, .null, .null, .null, .null, .null, .null, .null, .null, .null]) (C := x_R8) (T := x_T8) (N := 10) hx hb htx x_lay8 x_ty8 x_tyk8 hown (htx (.classLink x_R10 7 x_R8) (x_in1 (List.mem_of_getElem? (i := 18) rfl) rfl)) (htx (.instantiable x_R8 10) (x_in1 (List.mem_of_getElem? (i := 19) rfl) rfl)) (htx (.initialized x_R8) (x_in1 (List.mem_of_getElem? (i := 1) rfl) rfl)) hK hP hD hS hA rfl (fun j hj => by rcases (show j = 0 ∨ j = 1 ∨ j = 2 ∨ j = 3 ∨ j = 4 ∨ j = 5 ∨ j = 6 ∨ j = 7 ∨ j = 8 ∨ j = 9 by omega) with rfl | rfl | rfl | rfl | rfl | rfl | rfl | rfl | rfl | rfl <;> rfl) (by decide) (by decide) d_law_0 (fun qC H hP hD hS => ?_)
  have hP : va_P D x_cls [(qC, .inr (8, [.null, .null, .null, .null, .null, .null, .null, .null, .null, .null]))] H := hP
  have hD : va_D (z_Ap s) [(qC, .inr (8, [.null, .null, .null, .null, .null, .null, .null, .null, .null, .null]))] := hD
  refine W.widen (k := 1) (n := 10) (by decide) (by decide) ?_
  refine lv_dup hx hb d_law_3 rfl ?_
  have hFc := va_free (wc := [(qC, .inr (8, [.null, .null, .null, .null, .null, .null, .null, .null, .null, .null]))]) hD hS hA [0] rfl
  refine va_callv (va_runI (As := []) (rest := [.ref qC]) ⟨hx, hb, hml, hown, htx⟩ (c_iC l D qC sa sv H.size) (cwI 0 htx (z_good iC_in) rfl rfl rfl (htx (.initialized x_R8) (x_in1 (List.mem_of_getElem? (i := 1) rfl) rfl)) (htx (.methodLink x_R10 9 y_mkC) (x_in1 (List.mem_of_getElem? (i := 20) rfl) rfl)) (htx (.instanceMethod y_mkC) (x_in1 (List.mem_of_getElem? (i := 21) rfl) rfl)) rfl (by decide +kernel) ⟨by decide, by decide⟩) ⟨fun a U g mk q => by obtain ⟨q0, q1, qP, qK, qD, qE⟩ := q; exact ⟨q0, q1, qP, va_K.moved (u := U) (U := U.calling g mk a) (Vm.Alike.refl U.vm) qK, qD, z_env.blind (V := U.calling g mk a) rfl rfl qE⟩, fun U hU hW => ⟨rfl, by rw [hU], by rw [hU]; exact hP, va_K.moved hW.alike hK, hD.weaken (fun _ _ _ _ => trivial), hE.warm hS hFc hU hW⟩⟩ rfl rfl hl.1 rfl (lv_room (Nat.le_of_ble_eq_true rfl)) d_law_4 ⟨by decide, by decide⟩) hS (fun q _ h => hFc q h) hFc (fun u t H1 locs ht hvm hw hB hz1 hk1 hS => ?_)
  obtain ⟨adC, aCC, e0, hP1, hD1, hA1⟩ := hB
  rw [ht] at hP1
  have hArC := hA1.back hvm
  subst e0
  obtain ⟨hP, hD⟩ := va_join (wr := []) (w1 := x_w x_shC 40 adC aCC z_MC) hP hD [0] [] rfl rfl (by decide) (by decide) hk1 hFc hP1 hD1
  rw [z_wC] at hP hD
  clear hP1 hD1 hk1 hz1 hw ht hFc hA1
  generalize H1 = H at hP hS ⊢
  have hP : va_P D x_cls [(adC 0, .inr (8, [.ref (adC 1), .ref (adC 3), .ref (adC 10), .ref (adC 17), .ref (adC 19), .ref (adC 21), .ref (adC 25), .ref (adC 26), .ref (adC 33), .ref (adC 37)])), (adC 1, .inr (7, [.ref (adC 2), .int (z_MC 1 1)])), (adC 2, .inl (aCC 2, 200, .inl (z_MC 2))), (adC 3, .inr (3, [.ref (adC 4), .ref (adC 5), .ref (adC 6), .ref (adC 7), .ref (adC 8), .ref (adC 9), .int (z_MC 3 6), .int (z_MC 3 7), .int (z_MC 3 8)])), (adC 4, .inl (aCC 4, 8, .inl (z_MC 4))), (adC 5, .inl (aCC 5, 8, .inl (z_MC 5))), (adC 6, .inl (aCC 6, 8, .inl (z_MC 6))), (adC 7, .inl (aCC 7, 6, .inl (z_MC 7))), (adC 8, .inl (aCC 8, 6, .inl (z_MC 8))), (adC 9, .inl (aCC 9, 6, .inl (z_MC 9))), (adC 10, .inr (3, [.ref (adC 11), .ref (adC 12), .ref (adC 13), .ref (adC 14), .ref (adC 15), .ref (adC 16), .int (z_MC 10 6), .int (z_MC 10 7), .int (z_MC 10 8)])), (adC 11, .inl (aCC 11, 8, .inl (z_MC 11))), (adC 12, .inl (aCC 12, 8, .inl (z_MC 12))), (adC 13, .inl (aCC 13, 8, .inl (z_MC 13))), (adC 14, .inl (aCC 14, 6, .inl (z_MC 14))), (adC 15, .inl (aCC 15, 6, .inl (z_MC 15))), (adC 16, .inl (aCC 16, 6, .inl (z_MC 16))), (adC 17, .inr (6, [.int (z_MC 17 0), .ref (adC 18), .int (z_MC 17 2)])), (adC 18, .inl (aCC 18, 120, .inl (z_MC 18))), (adC 19, .inr (6, [.int (z_MC 19 0), .ref (adC 20), .int (z_MC 19 2)])), (adC 20, .inl (aCC 20, 30, .inl (z_MC 20))), (adC 21, .inr (1, [.ref (adC 22), .ref (adC 23), .ref (adC 24), .int (z_MC 21 3)])), (adC 22, .inl (aCC 22, 8, .inl (z_MC 22))), (adC 23, .inl (aCC 23, 8, .inl (z_MC 23))), (adC 24, .inl (aCC 24, 8, .inl (z_MC 24))), (adC 25, .inr (4, [.int (z_MC 25 0), .int (z_MC 25 1), .int (z_MC 25 2), .int (z_MC 25 3), .int (z_MC 25 4), .int (z_MC 25 5), .int (z_MC 25 6)])), (adC 26, .inr (5, [.ref (adC 27), .int (z_MC 26 1), .int (z_MC 26 2), .int (z_MC 26 3)])), (adC 27, .inl (aCC 27, 5, .inr (.inr (.inr (.inr (fun j => ((([.ref 28, .ref 29, .ref 30, .ref 31, .ref 32] : List Value)[j]?).bind x_rn).map adC)))))), (adC 28, .inr (4, [.int (z_MC 28 0), .int (z_MC 28 1), .int (z_MC 28 2), .int (z_MC 28 3), .int (z_MC 28 4), .int (z_MC 28 5), .int (z_MC 28 6)])), (adC 29, .inr (4, [.int (z_MC 29 0), .int (z_MC 29 1), .int (z_MC 29 2), .int (z_MC 29 3), .int (z_MC 29 4), .int (z_MC 29 5), .int (z_MC 29 6)])), (adC 30, .inr (4, [.int (z_MC 30 0), .int (z_MC 30 1), .int (z_MC 30 2), .int (z_MC 30 3), .int (z_MC 30 4), .int (z_MC 30 5), .int (z_MC 30 6)])), (adC 31, .inr (4, [.int (z_MC 31 0), .int (z_MC 31 1), .int (z_MC 31 2), .int (z_MC 31 3), .int (z_MC 31 4), .int (z_MC 31 5), .int (z_MC 31 6)])), (adC 32, .inr (4, [.int (z_MC 32 0), .int (z_MC 32 1), .int (z_MC 32 2), .int (z_MC 32 3), .int (z_MC 32 4), .int (z_MC 32 5), .int (z_MC 32 6)])), (adC 33, .inr (2, [.ref (adC 34), .ref (adC 35), .ref (adC 36)])), (adC 34, .inl (aCC 34, 6, .inl (z_MC 34))), (adC 35, .inl (aCC 35, 6, .inl (z_MC 35))), (adC 36, .inl (aCC 36, 448, .inl (z_MC 36))), (adC 37, .inr (0, [.ref (adC 38), .ref (adC 39), .int (z_MC 37 2), .int (z_MC 37 3)])), (adC 38, .inl (aCC 38, 6, .inl (z_MC 38))), (adC 39, .inl (aCC 39, 6, .inl (z_MC 39)))] H := hP
  have hD : va_D (z_Ap s) [(adC 0, .inr (8, [.ref (adC 1), .ref (adC 3), .ref (adC 10), .ref (adC 17), .ref (adC 19), .ref (adC 21), .ref (adC 25), .ref (adC 26), .ref (adC 33), .ref (adC 37)])), (adC 1, .inr (7, [.ref (adC 2), .int (z_MC 1 1)])), (adC 2, .inl (aCC 2, 200, .inl (z_MC 2))), (adC 3, .inr (3, [.ref (adC 4), .ref (adC 5), .ref (adC 6), .ref (adC 7), .ref (adC 8), .ref (adC 9), .int (z_MC 3 6), .int (z_MC 3 7), .int (z_MC 3 8)])), (adC 4, .inl (aCC 4, 8, .inl (z_MC 4))), (adC 5, .inl (aCC 5, 8, .inl (z_MC 5))), (adC 6, .inl (aCC 6, 8, .inl (z_MC 6))), (adC 7, .inl (aCC 7, 6, .inl (z_MC 7))), (adC 8, .inl (aCC 8, 6, .inl (z_MC 8))), (adC 9, .inl (aCC 9, 6, .inl (z_MC 9))), (adC 10, .inr (3, [.ref (adC 11), .ref (adC 12), .ref (adC 13), .ref (adC 14), .ref (adC 15), .ref (adC 16), .int (z_MC 10 6), .int (z_MC 10 7), .int (z_MC 10 8)])), (adC 11, .inl (aCC 11, 8, .inl (z_MC 11))), (adC 12, .inl (aCC 12, 8, .inl (z_MC 12))), (adC 13, .inl (aCC 13, 8, .inl (z_MC 13))), (adC 14, .inl (aCC 14, 6, .inl (z_MC 14))), (adC 15, .inl (aCC 15, 6, .inl (z_MC 15))), (adC 16, .inl (aCC 16, 6, .inl (z_MC 16))), (adC 17, .inr (6, [.int (z_MC 17 0), .ref (adC 18), .int (z_MC 17 2)])), (adC 18, .inl (aCC 18, 120, .inl (z_MC 18))), (adC 19, .inr (6, [.int (z_MC 19 0), .ref (adC 20), .int (z_MC 19 2)])), (adC 20, .inl (aCC 20, 30, .inl (z_MC 20))), (adC 21, .inr (1, [.ref (adC 22), .ref (adC 23), .ref (adC 24), .int (z_MC 21 3)])), (adC 22, .inl (aCC 22, 8, .inl (z_MC 22))), (adC 23, .inl (aCC 23, 8, .inl (z_MC 23))), (adC 24, .inl (aCC 24, 8, .inl (z_MC 24))), (adC 25, .inr (4, [.int (z_MC 25 0), .int (z_MC 25 1), .int (z_MC 25 2), .int (z_MC 25 3), .int (z_MC 25 4), .int (z_MC 25 5), .int (z_MC 25 6)])), (adC 26, .inr (5, [.ref (adC 27), .int (z_MC 26 1), .int (z_MC 26 2), .int (z_MC 26 3)])), (adC 27, .inl (aCC 27, 5, .inr (.inr (.inr (.inr (fun j => ((([.ref 28, .ref 29, .ref 30, .ref 31, .ref 32] : List Value)[j]?).bind x_rn).map adC)))))), (adC 28, .inr (4, [.int (z_MC 28 0), .int (z_MC 28 1), .int (z_MC 28 2), .int (z_MC 28 3), .int (z_MC 28 4), .int (z_MC 28 5), .int (z_MC 28 6)])), (adC 29, .inr (4, [.int (z_MC 29 0), .int (z_MC 29 1), .int (z_MC 29 2), .int (z_MC 29 3), .int (z_MC 29 4), .int (z_MC 29 5), .int (z_MC 29 6)])), (adC 30, .inr (4, [.int (z_MC 30 0), .int (z_MC 30 1), .int (z_MC 30 2), .int (z_MC 30 3), .int (z_MC 30 4), .int (z_MC 30 5), .int (z_MC 30 6)])), (adC 31, .inr (4, [.int (z_MC 31 0), .int (z_MC 31 1), .int (z_MC 31 2), .int (z_MC 31 3), .int (z_MC 31 4), .int (z_MC 31 5), .int (z_MC 31 6)])), (adC 32, .inr (4, [.int (z_MC 32 0), .int (z_MC 32 1), .int (z_MC 32 2), .int (z_MC 32 3), .int (z_MC 32 4), .int (z_MC 32 5), .int (z_MC 32 6)])), (adC 33, .inr (2, [.ref (adC 34), .ref (adC 35), .ref (adC 36)])), (adC 34, .inl (aCC 34, 6, .inl (z_MC 34))), (adC 35, .inl (aCC 35, 6, .inl (z_MC 35))), (adC 36, .inl (aCC 36, 448, .inl (z_MC 36))), (adC 37, .inr (0, [.ref (adC 38), .ref (adC 39), .int (z_MC 37 2), .int (z_MC 37 3)])), (adC 38, .inl (aCC 38, 6, .inl (z_MC 38))), (adC 39, .inl (aCC 39, 6, .inl (z_MC 39)))] := hD
  refine W.widen (k := 40) (n := 1028) (by decide) (by decide) ?_
  refine lv_astore_n (lv' := [(1, .ref (adC 0)), (0, .ref b)]) hx hb d_law_7 rfl hl (by decide) rfl (fun ls hl => ?_)
  refine va_new (ci := 9) (fs := [.null, .int 0, .null, .null, .null, .null, .null, .int 0, .null, .int 0, .null, .int 0, .int 0]) (C := x_R9) (T := x_T9) (N := 13) hx hb htx x_lay9 x_ty9 x_tyk9 hown (htx (.classLink x_R10 10 x_R9) (x_in3 (List.mem_of_getElem? (i := 213) rfl) rfl)) (htx (.instantiable x_R9 13) (x_in3 (List.mem_of_getElem? (i := 214) rfl) rfl)) (htx (.initialized x_R9) (x_in1 (List.mem_of_getElem? (i := 15) rfl) rfl)) hK hP hD hS hA rfl (fun j hj => by rcases (show j = 0 ∨ j = 1 ∨ j = 2 ∨ j = 3 ∨ j = 4 ∨ j = 5 ∨ j = 6 ∨ j = 7 ∨ j = 8 ∨ j = 9 ∨ j = 10 ∨ j = 11 ∨ j = 12 by omega) with rfl | rfl | rfl | rfl | rfl | rfl | rfl | rfl | rfl | rfl | rfl | rfl | rfl <;> rfl) (by decide) (by decide) d_law_8 (fun qM H hP hD hS => ?_)
  have hP : va_P D x_cls [(adC 0, .inr (8, [.ref (adC 1), .ref (adC 3), .ref (adC 10), .ref (adC 17), .ref (adC 19), .ref (adC 21), .ref (adC 25), .ref (adC 26), .ref (adC 33), .ref (adC 37)])), (adC 1, .inr (7, [.ref (adC 2), .int (z_MC 1 1)])), (adC 2, .inl (aCC 2, 200, .inl (z_MC 2))), (adC 3, .inr (3, [.ref (adC 4), .ref (adC 5), .ref (adC 6), .ref (adC 7), .ref (adC 8), .ref (adC 9), .int (z_MC 3 6), .int (z_MC 3 7), .int (z_MC 3 8)])), (adC 4, .inl (aCC 4, 8, .inl (z_MC 4))), (adC 5, .inl (aCC 5, 8, .inl (z_MC 5))), (adC 6, .inl (aCC 6, 8, .inl (z_MC 6))), (adC 7, .inl (aCC 7, 6, .inl (z_MC 7))), (adC 8, .inl (aCC 8, 6, .inl (z_MC 8))), (adC 9, .inl (aCC 9, 6, .inl (z_MC 9))), (adC 10, .inr (3, [.ref (adC 11), .ref (adC 12), .ref (adC 13), .ref (adC 14), .ref (adC 15), .ref (adC 16), .int (z_MC 10 6), .int (z_MC 10 7), .int (z_MC 10 8)])), (adC 11, .inl (aCC 11, 8, .inl (z_MC 11))), (adC 12, .inl (aCC 12, 8, .inl (z_MC 12))), (adC 13, .inl (aCC 13, 8, .inl (z_MC 13))), (adC 14, .inl (aCC 14, 6, .inl (z_MC 14))), (adC 15, .inl (aCC 15, 6, .inl (z_MC 15))), (adC 16, .inl (aCC 16, 6, .inl (z_MC 16))), (adC 17, .inr (6, [.int (z_MC 17 0), .ref (adC 18), .int (z_MC 17 2)])), (adC 18, .inl (aCC 18, 120, .inl (z_MC 18))), (adC 19, .inr (6, [.int (z_MC 19 0), .ref (adC 20), .int (z_MC 19 2)])), (adC 20, .inl (aCC 20, 30, .inl (z_MC 20))), (adC 21, .inr (1, [.ref (adC 22), .ref (adC 23), .ref (adC 24), .int (z_MC 21 3)])), (adC 22, .inl (aCC 22, 8, .inl (z_MC 22))), (adC 23, .inl (aCC 23, 8, .inl (z_MC 23))), (adC 24, .inl (aCC 24, 8, .inl (z_MC 24))), (adC 25, .inr (4, [.int (z_MC 25 0), .int (z_MC 25 1), .int (z_MC 25 2), .int (z_MC 25 3), .int (z_MC 25 4), .int (z_MC 25 5), .int (z_MC 25 6)])), (adC 26, .inr (5, [.ref (adC 27), .int (z_MC 26 1), .int (z_MC 26 2), .int (z_MC 26 3)])), (adC 27, .inl (aCC 27, 5, .inr (.inr (.inr (.inr (fun j => ((([.ref 28, .ref 29, .ref 30, .ref 31, .ref 32] : List Value)[j]?).bind x_rn).map adC)))))), (adC 28, .inr (4, [.int (z_MC 28 0), .int (z_MC 28 1), .int (z_MC 28 2), .int (z_MC 28 3), .int (z_MC 28 4), .int (z_MC 28 5), .int (z_MC 28 6)])), (adC 29, .inr (4, [.int (z_MC 29 0), .int (z_MC 29 1), .int (z_MC 29 2), .int (z_MC 29 3), .int (z_MC 29 4), .int (z_MC 29 5), .int (z_MC 29 6)])), (adC 30, .inr (4, [.int (z_MC 30 0), .int (z_MC 30 1), .int (z_MC 30 2), .int (z_MC 30 3), .int (z_MC 30 4), .int (z_MC 30 5), .int (z_MC 30 6)])), (adC 31, .inr (4, [.int (z_MC 31 0), .int (z_MC 31 1), .int (z_MC 31 2), .int (z_MC 31 3), .int (z_MC 31 4), .int (z_MC 31 5), .int (z_MC 31 6)])), (adC 32, .inr (4, [.int (z_MC 32 0), .int (z_MC 32 1), .int (z_MC 32 2), .int (z_MC 32 3), .int (z_MC 32 4), .int (z_MC 32 5), .int (z_MC 32 6)])), (adC 33, .inr (2, [.ref (adC 34), .ref (adC 35), .ref (adC 36)])), (adC 34, .inl (aCC 34, 6, .inl (z_MC 34))), (adC 35, .inl (aCC 35, 6, .inl (z_MC 35))), (adC 36, .inl (aCC 36, 448, .inl (z_MC 36))), (adC 37, .inr (0, [.ref (adC 38), .ref (adC 39), .int (z_MC 37 2), .int (z_MC 37 3)])), (adC 38, .inl (aCC 38, 6, .inl (z_MC 38))), (adC 39, .inl (aCC 39, 6, .inl (z_MC 39))), (qM, .inr (9, [.null, .int 0, .null, .null, .null, .null, .null, .int 0, .null, .int 0, .null, .int 0, .int 0]))] H := hP
  have hD : va_D (z_Ap s) [(adC 0, .inr (8, [.ref (adC 1), .ref (adC 3), .ref (adC 10), .ref (adC 17), .ref (adC 19), .ref (adC 21), .ref (adC 25), .ref (adC 26), .ref (adC 33), .ref (adC 37)])), (adC 1, .inr (7, [.ref (adC 2), .int (z_MC 1 1)])), (adC 2, .inl (aCC 2, 200, .inl (z_MC 2))), (adC 3, .inr (3, [.ref (adC 4), .ref (adC 5), .ref (adC 6), .ref (adC 7), .ref (adC 8), .ref (adC 9), .int (z_MC 3 6), .int (z_MC 3 7), .int (z_MC 3 8)])), (adC 4, .inl (aCC 4, 8, .inl (z_MC 4))), (adC 5, .inl (aCC 5, 8, .inl (z_MC 5))), (adC 6, .inl (aCC 6, 8, .inl (z_MC 6))), (adC 7, .inl (aCC 7, 6, .inl (z_MC 7))), (adC 8, .inl (aCC 8, 6, .inl (z_MC 8))), (adC 9, .inl (aCC 9, 6, .inl (z_MC 9))), (adC 10, .inr (3, [.ref (adC 11), .ref (adC 12), .ref (adC 13), .ref (adC 14), .ref (adC 15), .ref (adC 16), .int (z_MC 10 6), .int (z_MC 10 7), .int (z_MC 10 8)])), (adC 11, .inl (aCC 11, 8, .inl (z_MC 11))), (adC 12, .inl (aCC 12, 8, .inl (z_MC 12))), (adC 13, .inl (aCC 13, 8, .inl (z_MC 13))), (adC 14, .inl (aCC 14, 6, .inl (z_MC 14))), (adC 15, .inl (aCC 15, 6, .inl (z_MC 15))), (adC 16, .inl (aCC 16, 6, .inl (z_MC 16))), (adC 17, .inr (6, [.int (z_MC 17 0), .ref (adC 18), .int (z_MC 17 2)])), (adC 18, .inl (aCC 18, 120, .inl (z_MC 18))), (adC 19, .inr (6, [.int (z_MC 19 0), .ref (adC 20), .int (z_MC 19 2)])), (adC 20, .inl (aCC 20, 30, .inl (z_MC 20))), (adC 21, .inr (1, [.ref (adC 22), .ref (adC 23), .ref (adC 24), .int (z_MC 21 3)])), (adC 22, .inl (aCC 22, 8, .inl (z_MC 22))), (adC 23, .inl (aCC 23, 8, .inl (z_MC 23))), (adC 24, .inl (aCC 24, 8, .inl (z_MC 24))), (adC 25, .inr (4, [.int (z_MC 25 0), .int (z_MC 25 1), .int (z_MC 25 2), .int (z_MC 25 3), .int (z_MC 25 4), .int (z_MC 25 5), .int (z_MC 25 6)])), (adC 26, .inr (5, [.ref (adC 27), .int (z_MC 26 1), .int (z_MC 26 2), .int (z_MC 26 3)])), (adC 27, .inl (aCC 27, 5, .inr (.inr (.inr (.inr (fun j => ((([.ref 28, .ref 29, .ref 30, .ref 31, .ref 32] : List Value)[j]?).bind x_rn).map adC)))))), (adC 28, .inr (4, [.int (z_MC 28 0), .int (z_MC 28 1), .int (z_MC 28 2), .int (z_MC 28 3), .int (z_MC 28 4), .int (z_MC 28 5), .int (z_MC 28 6)])), (adC 29, .inr (4, [.int (z_MC 29 0), .int (z_MC 29 1), .int (z_MC 29 2), .int (z_MC 29 3), .int (z_MC 29 4), .int (z_MC 29 5), .int (z_MC 29 6)])), (adC 30, .inr (4, [.int (z_MC 30 0), .int (z_MC 30 1), .int (z_MC 30 2), .int (z_MC 30 3), .int (z_MC 30 4), .int (z_MC 30 5), .int (z_MC 30 6)])), (adC 31, .inr (4, [.int (z_MC 31 0), .int (z_MC 31 1), .int (z_MC 31 2), .int (z_MC 31 3), .int (z_MC 31 4), .int (z_MC 31 5), .int (z_MC 31 6)])), (adC 32, .inr (4, [.int (z_MC 32 0), .int (z_MC 32 1), .int (z_MC 32 2), .int (z_MC 32 3), .int (z_MC 32 4), .int (z_MC 32 5), .int (z_MC 32 6)])), (adC 33, .inr (2, [.ref (adC 34), .ref (adC 35), .ref (adC 36)])), (adC 34, .inl (aCC 34, 6, .inl (z_MC 34))), (adC 35, .inl (aCC 35, 6, .inl (z_MC 35))), (adC 36, .inl (aCC 36, 448, .inl (z_MC 36))), (adC 37, .inr (0, [.ref (adC 38), .ref (adC 39), .int (z_MC 37 2), .int (z_MC 37 3)])), (adC 38, .inl (aCC 38, 6, .inl (z_MC 38))), (adC 39, .inl (aCC 39, 6, .inl (z_MC 39))), (qM, .inr (9, [.null, .int 0, .null, .null, .null, .null, .null, .int 0, .null, .int 0, .null, .int 0, .int 0]))] := hD
  refine W.widen (k := 41) (n := 1041) (by decide) (by decide) ?_
  refine lv_dup hx hb d_law_11 rfl ?_
  have hPc := hP.sub (ws' := [(qM, .inr (9, [.null, .int 0, .null, .null, .null, .null, .null, .int 0, .null, .int 0, .null, .int 0, .int 0]))]) [40] rfl
  have hDc := hD.sub (ws' := [(qM, .inr (9, [.null, .int 0, .null, .null, .null, .null, .null, .int 0, .null, .int 0, .null, .int 0, .int 0]))]) [40] (by decide) rfl
  have hFc := va_free (wc := [(qM, .inr (9, [.null, .int 0, .null, .null, .null, .null, .null, .int 0, .null, .int 0, .null, .int 0, .int 0]))]) hD hS hA [40] rfl
  refine va_callv (va_runI (As := []) (rest := [.ref qM]) ⟨hx, hb, hml, hown, htx⟩ (c_iM l D qM H.size) (cwI 0 htx (z_good iM_in) rfl rfl rfl (htx (.initialized x_R9) (x_in1 (List.mem_of_getElem? (i := 15) rfl) rfl)) (htx (.methodLink x_R10 12 y_mkM) (x_in3 (List.mem_of_getElem? (i := 215) rfl) rfl)) (htx (.instanceMethod y_mkM) (x_in3 (List.mem_of_getElem? (i := 216) rfl) rfl)) rfl (by decide +kernel) ⟨by decide, by decide⟩) ⟨fun a U g mk q => by obtain ⟨q0, q1, qP, qK, qD, qN⟩ := q; exact ⟨q0, q1, qP, va_K.moved (u := U) (U := U.calling g mk a) (Vm.Alike.refl U.vm) qK, qD, fun x hx => va_tabs (A := #[]) (A' := #[]) (u := U) (U := U.calling g mk a) rfl rfl (qN x hx)⟩, fun U hU hW => ⟨rfl, by rw [hU], by rw [hU]; exact hPc, va_K.moved hW.alike hK, hDc.weaken (fun _ _ _ _ => trivial), hE.1.warm hW⟩⟩ rfl rfl hl.1 rfl (lv_room (Nat.le_of_ble_eq_true rfl)) d_law_12 ⟨by decide, by decide⟩) hS (fun q _ h => hFc q h) hFc (fun u t H1 locs ht hvm hw hB hz1 hk1 hS => ?_)
  obtain ⟨adM, aCM, e0, hP1, hD1, hA1⟩ := hB
  rw [ht] at hP1
  have hArM := hA1.back hvm
  subst e0
  obtain ⟨hP, hD⟩ := va_join (wr := [(adC 0, .inr (8, [.ref (adC 1), .ref (adC 3), .ref (adC 10), .ref (adC 17), .ref (adC 19), .ref (adC 21), .ref (adC 25), .ref (adC 26), .ref (adC 33), .ref (adC 37)])), (adC 1, .inr (7, [.ref (adC 2), .int (z_MC 1 1)])), (adC 2, .inl (aCC 2, 200, .inl (z_MC 2))), (adC 3, .inr (3, [.ref (adC 4), .ref (adC 5), .ref (adC 6), .ref (adC 7), .ref (adC 8), .ref (adC 9), .int (z_MC 3 6), .int (z_MC 3 7), .int (z_MC 3 8)])), (adC 4, .inl (aCC 4, 8, .inl (z_MC 4))), (adC 5, .inl (aCC 5, 8, .inl (z_MC 5))), (adC 6, .inl (aCC 6, 8, .inl (z_MC 6))), (adC 7, .inl (aCC 7, 6, .inl (z_MC 7))), (adC 8, .inl (aCC 8, 6, .inl (z_MC 8))), (adC 9, .inl (aCC 9, 6, .inl (z_MC 9))), (adC 10, .inr (3, [.ref (adC 11), .ref (adC 12), .ref (adC 13), .ref (adC 14), .ref (adC 15), .ref (adC 16), .int (z_MC 10 6), .int (z_MC 10 7), .int (z_MC 10 8)])), (adC 11, .inl (aCC 11, 8, .inl (z_MC 11))), (adC 12, .inl (aCC 12, 8, .inl (z_MC 12))), (adC 13, .inl (aCC 13, 8, .inl (z_MC 13))), (adC 14, .inl (aCC 14, 6, .inl (z_MC 14))), (adC 15, .inl (aCC 15, 6, .inl (z_MC 15))), (adC 16, .inl (aCC 16, 6, .inl (z_MC 16))), (adC 17, .inr (6, [.int (z_MC 17 0), .ref (adC 18), .int (z_MC 17 2)])), (adC 18, .inl (aCC 18, 120, .inl (z_MC 18))), (adC 19, .inr (6, [.int (z_MC 19 0), .ref (adC 20), .int (z_MC 19 2)])), (adC 20, .inl (aCC 20, 30, .inl (z_MC 20))), (adC 21, .inr (1, [.ref (adC 22), .ref (adC 23), .ref (adC 24), .int (z_MC 21 3)])), (adC 22, .inl (aCC 22, 8, .inl (z_MC 22))), (adC 23, .inl (aCC 23, 8, .inl (z_MC 23))), (adC 24, .inl (aCC 24, 8, .inl (z_MC 24))), (adC 25, .inr (4, [.int (z_MC 25 0), .int (z_MC 25 1), .int (z_MC 25 2), .int (z_MC 25 3), .int (z_MC 25 4), .int (z_MC 25 5), .int (z_MC 25 6)])), (adC 26, .inr (5, [.ref (adC 27), .int (z_MC 26 1), .int (z_MC 26 2), .int (z_MC 26 3)])), (adC 27, .inl (aCC 27, 5, .inr (.inr (.inr (.inr (fun j => ((([.ref 28, .ref 29, .ref 30, .ref 31, .ref 32] : List Value)[j]?).bind x_rn).map adC)))))), (adC 28, .inr (4, [.int (z_MC 28 0), .int (z_MC 28 1), .int (z_MC 28 2), .int (z_MC 28 3), .int (z_MC 28 4), .int (z_MC 28 5), .int (z_MC 28 6)])), (adC 29, .inr (4, [.int (z_MC 29 0), .int (z_MC 29 1), .int (z_MC 29 2), .int (z_MC 29 3), .int (z_MC 29 4), .int (z_MC 29 5), .int (z_MC 29 6)])), (adC 30, .inr (4, [.int (z_MC 30 0), .int (z_MC 30 1), .int (z_MC 30 2), .int (z_MC 30 3), .int (z_MC 30 4), .int (z_MC 30 5), .int (z_MC 30 6)])), (adC 31, .inr (4, [.int (z_MC 31 0), .int (z_MC 31 1), .int (z_MC 31 2), .int (z_MC 31 3), .int (z_MC 31 4), .int (z_MC 31 5), .int (z_MC 31 6)])), (adC 32, .inr (4, [.int (z_MC 32 0), .int (z_MC 32 1), .int (z_MC 32 2), .int (z_MC 32 3), .int (z_MC 32 4), .int (z_MC 32 5), .int (z_MC 32 6)])), (adC 33, .inr (2, [.ref (adC 34), .ref (adC 35), .ref (adC 36)])), (adC 34, .inl (aCC 34, 6, .inl (z_MC 34))), (adC 35, .inl (aCC 35, 6, .inl (z_MC 35))), (adC 36, .inl (aCC 36, 448, .inl (z_MC 36))), (adC 37, .inr (0, [.ref (adC 38), .ref (adC 39), .int (z_MC 37 2), .int (z_MC 37 3)])), (adC 38, .inl (aCC 38, 6, .inl (z_MC 38))), (adC 39, .inl (aCC 39, 6, .inl (z_MC 39)))]) (w1 := x_w x_shM 9 adM aCM z_K16) hP hD [40] [0, 1, 2, 3, 4, 5, 6, 7, 8, 9, 10, 11, 12, 13, 14, 15, 16, 17, 18, 19, 20, 21, 22, 23, 24, 25, 26, 27, 28, 29, 30, 31, 32, 33, 34, 35, 36, 37, 38, 39] rfl rfl (by decide) (by decide) hk1 hFc hP1 hD1
  rw [z_wM, z_rows2] at hP hD
  clear hP1 hD1 hk1 hz1 hw ht hFc hA1 hPc hDc
  generalize H1 = H at hP hS ⊢
  refine W.widen (k := 49) (n := 1497) (by decide) (by decide) ?_
  refine lv_astore_n (lv' := [(2, .ref (adM 0)), (1, .ref (adC 0)), (0, .ref b)]) hx hb d_law_15 rfl hl (by decide) rfl (fun ls hl => ?_)
  refine lv_iconst (v := nI 0) hx hb d_law_16 (by decide) ?_
  refine lv_istore_n (lv' := [(3, .int (nI 0)), (2, .ref (adM 0)), (1, .ref (adC 0)), (0, .ref b)]) hx hb d_law_17 rfl hl (by decide) rfl (fun ls hl => ?_)
  have hPx : va_P D x_cls (x_w x_sh 49 (z_adA adC adM b) (z_aCA aCC aCM) (z_M0 L xs)) H := by
    rw [z_w49, z_rows2]
    exact hP
  have hDx : va_D (z_Ap s) (x_w x_sh 49 (z_adA adC adM b) (z_aCA aCC aCM) (z_M0 L xs)) := by
    rw [z_w49, z_rows2]
    exact hD
  have hinj : x_inj (z_adA adC adM b) 49 := fun i j hi hj he => hDx.1 i j _ _ (x_w_at hi) (x_w_at hj) he
  have hA2 : ∀ k, k < 49 → z_Ap s (z_adA adC adM b k) := fun k hk => hDx.2 k _ (x_w_at hk)
  obtain ⟨M', hlaw⟩ := z_law hL L 0 (z_M0 L xs) (by omega) (by omega) (z_inv0 L xs) rfl
  obtain ⟨n, hev⟩ := x_den_iff.mp (show x_den x_sh 146 18 [some (.ref 99), some (.ref 0), some (.ref 40), some (.int (nI 0))] [] (z_M0 L xs) = some (nI 1, M') from hlaw)
  refine x_snd x_sh_ok hinj n 146 18 _ [] (z_M0 L xs) (nI 1, M') hev p e room_1 s m #[Value.ref b] below meth c 49 1497 (lw_Z below #[Value.ref b] s) (z_Ap s) ⟨⟨hx, hb, hml, hown, htx⟩, ⟨by decide, by decide, by decide, by decide⟩, x_sh_ok, hinj, hA2, ⟨hK, z_arrA hArC hArM, hE.1⟩⟩ (z_x0 hL hX hbl hbA) ?_ H _ ls ⟨rfl, hl.1, hl.2.1, ?_⟩ hPx hS
  · intro pc' lsR' H' locs' hP' hS'
    refine ⟨fun h => absurd h.1 (by decide), fun h => ?_⟩
    refine va_forget (fun q hq => hS'.2.2 q hq) ?_
    refine W.widen (k := 600000) (n := 7302250) (by decide) (by decide) ?_
    exact lw_ret hx hb hr hlocks h.1
  · intro i v hi
    match i, hi with
    | 0, hi => cases hi; exact hl.2.2 (0, .ref b) (by simp)
    | 1, hi => cases hi; exact hl.2.2 (1, .ref (adC 0)) (by simp)
    | 2, hi => cases hi; exact hl.2.2 (2, .ref (adM 0)) (by simp)
    | 3, hi => cases hi; exact hl.2.2 (3, .int (nI 0)) (by simp)
    | i + 4, hi => simp at hi
