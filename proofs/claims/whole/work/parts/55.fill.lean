/-! a call of the pure machine's methods from a method that is none of its own; Text.fill: printed by wip/whole/gen/fill55.py -/
section
variable {l : Launch} {sh : xH} {nc : Nat} {ad : Nat → Nat} {aC : Nat → ClassId} {D : va_G} {p : Program} {e : Env} {R : Room} {s : State} {m : MethodId} {args : Array Value} {below : List Frame} {meth : Method} {c : Code} {cells slots : Nat} {Q : State → Prop} {A : Nat → Prop} {cc : ByteArray} {nL : Nat} {own : String}
theorem z_run (hsh : x_shok sh nc) (hinj : x_inj ad nc) (S : p.tables.exec = Jvm.exec ∧ c.code = cc ∧ c.maxLocals = nL ∧ s.vm.findClass own = some m.cls ∧ ∀ w ∈ xT, w.before args s = true) (hA : ∀ k, k < nc → A (ad k)) (hK : x_Kp sh nc aC D s) {M : xM} (hX : x_Xp sh ad A M s s.heap) {cm a idx : Nat} {vs : List Value} {rest : List Value} {q : Int32 × xM} (hcm : cm < 146) (hev : x_den sh cm 0 (x_ent (x_ml cm) (.ref a :: vs)) [] M = some q) (h1 : vs.all x_is1 = true) (hlen : vs.length = x_np cm) (hmx : x_np cm + 1 ≤ x_ml cm) {fs : List Value} (hs : sh a = .inl (x_cn cm, fs)) (hl1 : Cond.methodLink own idx (x_y cm) ∈ xT) (hl2 : Cond.instanceMethod (x_y cm) ∈ xT) (hl3 : Cond.selects (x_R (x_cn cm)) (x_y cm) (x_y cm) ∈ xT) (hR : (x_rk cm + 1 ≤ R.frames ∧ 8 + (x_ml cm + 11) + 60 * x_rk cm ≤ R.locals) ∧ cells ≤ R.cells ∧ slots ≤ R.slots) {lsR : Array Slot} {pc : Nat} (hsz : lsR.size = nL) (hcat : (rest.map fun v => v.category).sum ≤ 8) (hd : decode cc pc = .ok (.invokevirtual idx, 3)) {H : Heap} {locs : List Loc} (hP : va_P D x_cls (x_w sh nc ad aC M) H) (hS : va_S A s.heap H locs) :
    va_Run p l e R s m args below meth c H locs cells slots 0 0 (F0 m pc lsR ((vs.map (x_rv ad)).reverse ++ .ref (ad a) :: rest)) rest (x_Qc sh nc ad aC D (x_rt cm) q (Value.ref (ad a) :: vs.map (x_rv ad)).toArray) (x_A ad nc) := by
  obtain ⟨hx, hb, hml, hown, hts⟩ := S
  obtain ⟨n, hev⟩ := x_den_iff.mp hev
  obtain ⟨hm1, hm2, hm3, hm4, hm5, hm6, hm7, hm8⟩ := x_me_at hcm
  have hka : a < nc := hsh.1 a _ hs
  have he : (x_w sh nc ad aC M)[a]? = some (ad a, .inr (x_cn cm, fs.mapIdx (fun j f => x_fv ad (M a j) f))) := by rw [x_w_at hka, x_ce_o hs]
  obtain ⟨rc, hrc, -⟩ := hP a _ he
  have hrC : rc.1 = x_R (x_cn cm) := x_allP_at x_cls_R hrc
  have hall : (Value.ref a :: vs).all x_is1 = true := by simp only [List.all_cons, Bool.and_eq_true]; exact ⟨rfl, h1⟩
  have hM := x_met (l := l) (As := .ref a :: vs) (x_snd hsh hinj n) hsh hinj hcm hev hall (by simp only [List.length_cons, hlen]; exact hmx) (aC := aC) (D := D)
  have cw : CallW R s args own (x_R (x_cn cm)) idx (x_y cm) (x_by cm) (x_ml cm) (x_rt cm) (x_ws cm) (x_rm cm) 0 0 (x_np cm) :=
    ⟨callB_of (x_np cm) hts (x_good_ws hcm) rfl rfl rfl (hts _ hm2) (hts _ hl1) ⟨hm5, hm6, hm7⟩ hR.1, hts _ hl2, hts _ hl3⟩
  have hp : PreV s H (x_R (x_cn cm)) (ad a) (x_Pc sh nc ad aC D (.ref a :: vs) M) (vs.map (x_rv ad)) := by
    refine ⟨x_blind, ?_, x_pre hA hK hP hS hX⟩
    have h3 := va_recv hK.1 hP hrc he
    rwa [hrC] at h3
  exact va_runV (g := F0 m pc lsR ((vs.map (x_rv ad)).reverse ++ .ref (ad a) :: rest)) (locs := locs) (below := below) (meth := meth) (cells := cells) (slots := slots) (e := e) (rest := rest) ⟨hx, hb, hml, hown, hts⟩ hM cw hp rfl (by rw [List.length_map]; exact hlen) hsz rfl (lv_room hcat) hd hR.2
theorem z_frz {k : Nat} (hA : ∀ k, k < nc → A (ad k)) : ∀ q, x_A ad nc q → A q := fun q ⟨k, hk, e⟩ => by rw [e]; exact hA k hk
end
def x_shT (a : Nat) : xQ := cond (Nat.beq a 0) (.inl (7, [.ref 1, .int 0])) (cond (Nat.beq a 1) (.inr (1, 200, [])) (.inr (9, 0, [])))
theorem x_shT_2 (k : Nat) : x_shT (k + 2) = .inr (9, 0, []) := rfl
theorem x_shT_ok : x_shok x_shT 2 := by
  refine ⟨fun k q h => ?_, fun k ty n rs h ht => ?_, ⟨0, [], rfl⟩⟩
  · match k, h with
    | 0, _ => omega
    | 1, _ => omega
    | k + 2, h => rw [x_shT_2] at h; cases h
  · match k, h with
    | 0, _ => omega
    | 1, _ => omega
    | k + 2, h => rw [x_shT_2] at h; cases h; omega
noncomputable def zT_clear (M : xM) : xR := x_den x_shT 0 0 [some (.ref 0)] [] M
theorem zT_clear_eq (M : xM) : zT_clear M = some (nI 0, (x_up M 0 1 (nI 0))) := x_unr x_shT 0 x_c0 (x_hco 0 x_c0 rfl) [] 6 0 [some (.ref 0)] [] M
noncomputable def zT_append (x1 : Int32) (M : xM) : xR := x_den x_shT 1 0 [some (.ref 0), some (.int x1)] [] M
theorem zT_append_eq (x1 : Int32) (M : xM) : zT_append x1 M = if (M 0 1) < (nI 200) then if (M 0 1) < nI 0 ∨ 200 ≤ (M 0 1).toNatClampNeg then none else some (nI 1, (x_up (x_up M 1 ((M 0 1).toNatClampNeg) (vp_nar .char ((x1.toUInt32 % 65536).toInt32))) 0 1 ((M 0 1) + (nI 1)))) else some (nI 0, M) := x_unr x_shT 1 x_c1 (x_hco 1 x_c1 rfl) [] 30 0 [some (.ref 0), some (.int x1)] [] M
/-- the text with i letters filled -/
def z_Mf (i : Nat) : xM := fun a k => cond (Nat.beq a 0) (nI i) (cond (Nat.blt k i) (nI (z_by.getD k 0)) (nI 0))
theorem z_ap {i : Nat} (hi : i < 76) : ∃ M', zT_append (nI (z_by.getD i 0)) (z_Mf i) = some (nI 1, M') ∧ M' 0 1 = nI (i + 1) ∧ M' 1 = z_Mf (i + 1) 1 := by
  have hb := z_b128 i hi
  have h01 : z_Mf i 0 1 = nI i := rfl
  rw [zT_append_eq, h01, if_pos (by rw [y_lt (by omega) (by omega)]; omega), y_in (show i < 200 by omega) (by decide), y_clamp (by omega), y_add]
  refine ⟨_, rfl, y_up_eq, ?_⟩
  rw [y_up_ne (by decide)]
  funext k
  rw [y_up_at]
  have hc : vp_nar .char (((nI (z_by.getD i 0)).toUInt32 % 65536).toInt32) = nI (z_by.getD i 0) := by
    have key : ∀ n, n < 128 → vp_nar .char (((nI n).toUInt32 % 65536).toInt32) = nI n := by decide +kernel
    exact key _ hb
  show (if 1 = 1 ∧ k = i then _ else cond (Nat.blt k i) (nI (z_by.getD k 0)) (nI 0)) = cond (Nat.blt k (i + 1)) (nI (z_by.getD k 0)) (nI 0)
  by_cases e1 : k = i
  · rw [if_pos ⟨rfl, e1⟩, hc, e1, show Nat.blt i (i + 1) = true from by rw [Nat.blt_eq]; omega]
    rfl
  · rw [if_neg (fun q => e1 q.2)]
    by_cases e2 : k < i
    · rw [show Nat.blt k i = true from by rw [Nat.blt_eq]; exact e2, show Nat.blt k (i + 1) = true from by rw [Nat.blt_eq]; omega]
    · rw [show Nat.blt k i = false from by rw [Bool.eq_false_iff, ne_eq, Nat.blt_eq]; exact e2, show Nat.blt k (i + 1) = false from by rw [Bool.eq_false_iff, ne_eq, Nat.blt_eq]; omega]
def z_ad2 (h0 q1 : Nat) (k : Nat) : Nat := cond (Nat.beq k 0) h0 q1
theorem z_w2 (h0 q1 : Nat) (cA : ClassId) (M : xM) : x_w x_shT 2 (z_ad2 h0 q1) (fun _ => cA) M = [(h0, .inr (7, [.ref q1, .int (M 0 1)])), (q1, .inl (cA, 200, .inl (M 1)))] := rfl
/-- the nest's words -/
def z_nst (U : State) : Prop := ∀ q ∈ x_nl, va_Nw (.methodLinkNest (x_R q.1) q.2 (x_y 10) "BackColumns") U
theorem z_nst.warm {s U : State} (hW : s.WarmedH U.vm) (h : z_nst s) : z_nst U := fun q hq => va_Nw.warmM hW (h q hq)
theorem z_nst.blind {U : State} {g : Frame} {mk : Nat} {a : Array Value} (h : z_nst U) : True := trivial
def y_fill : MethodName := ⟨x_R7, "fill", "(Ljava/lang/String;)V"⟩
theorem fill_in : Cond.code y_fill prog_9_method_4_code 3 none ∈ xT := x_in1 (List.mem_of_getElem? (i := 235) rfl) rfl
theorem d_fill_0 : decode prog_9_method_4_code 0 = .ok (.aload_n 0, 1) := by decide +kernel
theorem d_fill_1 : decode prog_9_method_4_code 1 = .ok (.invokevirtual 19, 3) := by decide +kernel
theorem d_fill_4 : decode prog_9_method_4_code 4 = .ok (.iconst 0, 1) := by decide +kernel
theorem d_fill_5 : decode prog_9_method_4_code 5 = .ok (.istore_n 2, 1) := by decide +kernel
theorem d_fill_6 : decode prog_9_method_4_code 6 = .ok (.iload_n 2, 1) := by decide +kernel
theorem d_fill_7 : decode prog_9_method_4_code 7 = .ok (.aload_n 1, 1) := by decide +kernel
theorem d_fill_8 : decode prog_9_method_4_code 8 = .ok (.invokevirtual 22, 3) := by decide +kernel
theorem d_fill_11 : decode prog_9_method_4_code 11 = .ok (.if_icmp .ge 19, 3) := by decide +kernel
theorem d_fill_14 : decode prog_9_method_4_code 14 = .ok (.aload_n 0, 1) := by decide +kernel
theorem d_fill_15 : decode prog_9_method_4_code 15 = .ok (.aload_n 1, 1) := by decide +kernel
theorem d_fill_16 : decode prog_9_method_4_code 16 = .ok (.iload_n 2, 1) := by decide +kernel
theorem d_fill_17 : decode prog_9_method_4_code 17 = .ok (.invokevirtual 27, 3) := by decide +kernel
theorem d_fill_20 : decode prog_9_method_4_code 20 = .ok (.invokevirtual 31, 3) := by decide +kernel
theorem d_fill_23 : decode prog_9_method_4_code 23 = .ok (.pop, 1) := by decide +kernel
theorem d_fill_24 : decode prog_9_method_4_code 24 = .ok (.iinc 2 1, 3) := by decide +kernel
theorem d_fill_27 : decode prog_9_method_4_code 27 = .ok (.goto (-21), 3) := by decide +kernel
theorem d_fill_30 : decode prog_9_method_4_code 30 = .ok (.return_, 1) := by decide +kernel
theorem z_lt {D : va_G} {cl : List vw_C} {ws : va_W} {H : Heap} (h : va_P D cl ws H) {k : Nat} {q : Nat × va_E} (hk : ws[k]? = some q) : q.1 < H.size := by
  have h1 := h k q hk
  obtain ⟨a, b⟩ := q
  cases b with
  | inl b =>
    have h1 : H[a]? = some _ := h1
    exact (Array.getElem?_eq_some_iff.mp h1).1
  | inr b =>
    obtain ⟨r, hr, cell, hc, -⟩ := h1
    exact (Array.getElem?_eq_some_iff.mp hc).1
theorem z_xT {ad : Nat → Nat} {A : Nat → Prop} {M : xM} {U : State} {H : Heap} : x_Xp x_shT ad A M U H := fun a n rs h => by
  match a, h with
  | 0, h => cases h
  | 1, h => cases h
  | a + 2, h => rw [x_shT_2] at h; cases h
theorem z_kT {D : va_G} {cA : ClassId} {U : State} (hK : va_K D x_cls [(cA, .char)] U) (hN : z_nst U) : x_Kp x_shT 2 (fun _ => cA) D U := by
  refine ⟨hK.sub [] rfl, fun k ty n rs hk hs ht => ?_, hN⟩
  match k, hk, hs with
  | 0, _, hs => cases hs
  | 1, _, hs => cases hs; exact hK.2 0 _ rfl
section
variable {l : Launch} {D : va_G} {p : Program} {e : Env} {R : Room} {s : State} {m : MethodId} {args : Array Value} {below : List Frame} {meth : Method} {c : Code} {cells slots : Nat} {Q : State → Prop} {A : Nat → Prop} {h0 q1 a v : Nat} {cA : ClassId}
set_option maxHeartbeats 4000000 in
set_option maxRecDepth 100000 in
theorem fill_loop (hx : p.tables.exec = Jvm.exec) (hb : c.code = prog_9_method_4_code) (hml : c.maxLocals = 3) (hown : s.vm.findClass x_R7 = some m.cls) (hts : ∀ w ∈ xT, w.before args s = true) (hRf : 10 ≤ R.frames) (hRl : 600 ≤ R.locals) (hRc : cells ≤ R.cells) (hRs : slots ≤ R.slots) (hK : va_K D x_cls [(cA, .char)] s) (hN : z_nst s) (hinj : x_inj (z_ad2 h0 q1) 2) (hA2 : ∀ k, k < 2 → A (z_ad2 h0 q1 k)) (hZ : z_str a v A s s.heap)
    (kk : ∀ (H : Heap) (locs : List Loc) (ls : Array Slot), va_P D x_cls [(h0, .inr (7, [.ref q1, .int (nI 76)])), (q1, .inl (cA, 200, .inl (z_Mf 76 1)))] H → va_S A s.heap H locs → W p l e R s m args below meth c H locs cells slots Q (F0 m 30 ls [])) :
    ∀ (n i : Nat) (H : Heap) (locs : List Loc) (ls : Array Slot), i + n = 76 → va_P D x_cls [(h0, .inr (7, [.ref q1, .int (nI i)])), (q1, .inl (cA, 200, .inl (z_Mf i 1)))] H → va_S A s.heap H locs → lv_has ls 3 [(2, .int (nI i)), (0, .ref h0), (1, .ref a)] → W p l e R s m args below meth c H locs cells slots Q (F0 m 6 ls []) := by
  intro n
  induction n with
  | zero =>
    intro i H locs ls hi hP hS hl
    have hi : i = 76 := by omega
    subst hi
    refine lv_iload_n hx hb d_fill_6 rfl (lv_at hl 0 rfl) ?_
    refine lv_aload_n hx hb d_fill_7 rfl (lv_at hl 2 rfl) ?_
    refine va_calli (va_runV (As := []) (rest := [.int (nI 76)]) ⟨hx, hb, hml, hown, hts⟩ (j_len l a v) ⟨callB_of 0 hts (z_good jlen_in) rfl rfl rfl (hts (.initialized "java/lang/String") (x_in1 (List.mem_of_getElem? (i := 11) rfl) rfl)) (hts (.methodLink x_R7 22 y_jlen) (x_in2 (List.mem_of_getElem? (i := 0) rfl) rfl)) (by decide +kernel) ⟨by show 1 + 1 ≤ R.frames; omega, by show 8 + (1 + 11) + 40 ≤ R.locals; omega⟩, (hts (.instanceMethod y_jlen) (x_in2 (List.mem_of_getElem? (i := 1) rfl) rfl)), (hts (.selects "java/lang/String" y_jlen y_jlen) (x_in2 (List.mem_of_getElem? (i := 2) rfl) rfl))⟩ ⟨z_strB, hZ.recv hS, fun U hU hW => ⟨rfl, hZ.call hS U hU hW⟩⟩ rfl rfl hl.1 rfl (lv_room (Nat.le_of_ble_eq_true rfl)) d_fill_8 ⟨hRc, hRs⟩) hS (fun _ _ h => h.elim) (fun _ h => h.elim) (fun r u t H1 locs ht hvm hw hB hz1 hk1 hS => ?_)
    subst hw
    have hP : va_P D x_cls [(h0, .inr (7, [.ref q1, .int (nI 76)])), (q1, .inl (cA, 200, .inl (z_Mf 76 1)))] H1 := hP.kept (fun k q hk => hk1 q.1 (z_lt hP hk) (fun z => z.elim))
    refine lv_icmp_ge (tgt := 30) hx hb d_fill_11 (by decide) (fun _ => ?_) (fun c9 => absurd (nI_le (Nat.le_refl 76) (by decide)) c9)
    exact kk H1 locs ls hP hS
  | succ n ih =>
    intro i H locs ls hi hP hS hl
    have hi76 : i < 76 := by omega
    refine lv_iload_n hx hb d_fill_6 rfl (lv_at hl 0 rfl) ?_
    refine lv_aload_n hx hb d_fill_7 rfl (lv_at hl 2 rfl) ?_
    refine va_calli (va_runV (As := []) (rest := [.int (nI i)]) ⟨hx, hb, hml, hown, hts⟩ (j_len l a v) ⟨callB_of 0 hts (z_good jlen_in) rfl rfl rfl (hts (.initialized "java/lang/String") (x_in1 (List.mem_of_getElem? (i := 11) rfl) rfl)) (hts (.methodLink x_R7 22 y_jlen) (x_in2 (List.mem_of_getElem? (i := 0) rfl) rfl)) (by decide +kernel) ⟨by show 1 + 1 ≤ R.frames; omega, by show 8 + (1 + 11) + 40 ≤ R.locals; omega⟩, (hts (.instanceMethod y_jlen) (x_in2 (List.mem_of_getElem? (i := 1) rfl) rfl)), (hts (.selects "java/lang/String" y_jlen y_jlen) (x_in2 (List.mem_of_getElem? (i := 2) rfl) rfl))⟩ ⟨z_strB, hZ.recv hS, fun U hU hW => ⟨rfl, hZ.call hS U hU hW⟩⟩ rfl rfl hl.1 rfl (lv_room (Nat.le_of_ble_eq_true rfl)) d_fill_8 ⟨hRc, hRs⟩) hS (fun _ _ h => h.elim) (fun _ h => h.elim) (fun r u t H1 locs ht hvm hw hB hz1 hk1 hS => ?_)
    subst hw
    have hP : va_P D x_cls [(h0, .inr (7, [.ref q1, .int (nI i)])), (q1, .inl (cA, 200, .inl (z_Mf i 1)))] H1 := hP.kept (fun k q hk => hk1 q.1 (z_lt hP hk) (fun z => z.elim))
    generalize H1 = H at hP hS ⊢
    refine lv_icmp_ge (tgt := 30) hx hb d_fill_11 (by decide) (fun c9 => absurd c9 (nI_ge hi76 (by decide))) (fun _ => ?_)
    refine lv_aload_n hx hb d_fill_14 rfl (lv_at hl 1 rfl) ?_
    refine lv_aload_n hx hb d_fill_15 rfl (lv_at hl 2 rfl) ?_
    refine lv_iload_n hx hb d_fill_16 rfl (lv_at hl 0 rfl) ?_
    refine va_calli (va_runV (As := [.int (nI i)]) (rest := [.ref h0]) ⟨hx, hb, hml, hown, hts⟩ (j_cha l a v hi76) ⟨callB_of 1 hts (z_good jcha_in) rfl rfl rfl (hts (.initialized "java/lang/String") (x_in1 (List.mem_of_getElem? (i := 11) rfl) rfl)) (hts (.methodLink x_R7 27 y_jcha) (x_in2 (List.mem_of_getElem? (i := 10) rfl) rfl)) (by decide +kernel) ⟨by show 3 + 1 ≤ R.frames; omega, by show 8 + (2 + 11) + 180 ≤ R.locals; omega⟩, (hts (.instanceMethod y_jcha) (x_in2 (List.mem_of_getElem? (i := 11) rfl) rfl)), (hts (.selects "java/lang/String" y_jcha y_jcha) (x_in2 (List.mem_of_getElem? (i := 12) rfl) rfl))⟩ ⟨z_strB, hZ.recv hS, fun U hU hW => ⟨rfl, hZ.call hS U hU hW⟩⟩ rfl rfl hl.1 rfl (lv_room (Nat.le_of_ble_eq_true rfl)) d_fill_17 ⟨hRc, hRs⟩) hS (fun _ _ h => h.elim) (fun _ h => h.elim) (fun r u t H1 locs ht hvm hw hB hz1 hk1 hS => ?_)
    subst hw
    have hP : va_P D x_cls [(h0, .inr (7, [.ref q1, .int (nI i)])), (q1, .inl (cA, 200, .inl (z_Mf i 1)))] H1 := hP.kept (fun k q hk => hk1 q.1 (z_lt hP hk) (fun z => z.elim))
    generalize H1 = H at hP hS ⊢
    obtain ⟨M', m1, m2, m3⟩ := z_ap hi76
    have hP2 : va_P D x_cls (x_w x_shT 2 (z_ad2 h0 q1) (fun _ => cA) (z_Mf i)) H := by rw [z_w2]; exact hP
    have hv := x_allP_at x_vl_ok (show x_vl[13]? = some (8, 90, 1, 0) from rfl)
    have hrun := z_run (l := l) (e := e) (below := below) (meth := meth) (R := R) (cells := cells) (slots := slots) (rest := []) (vs := [.int (nI (z_by.getD i 0))]) (cm := 1) (a := 0) (idx := 31) (pc := 20) (lsR := ls) x_shT_ok hinj ⟨hx, hb, hml, hown, hts⟩ hA2 (z_kT hK hN) z_xT (by decide) (show x_den x_shT 1 0 (x_ent (x_ml 1) (.ref 0 :: [.int (nI (z_by.getD i 0))])) [] (z_Mf i) = some (nI 1, M') from m1) rfl rfl (by decide) (fs := [.ref 1, .int 0]) rfl (x_in2 (List.mem_of_getElem? (i := 48) rfl) rfl) hv.2.1 hv.2.2 ⟨⟨by show 1 + 1 ≤ R.frames; omega, by show 8 + (2 + 11) + 60 * 1 ≤ R.locals; omega⟩, hRc, hRs⟩ hl.1 (by decide) d_fill_20 hP2 hS
    rw [show x_rt 1 = some .boolean from rfl] at hrun
    refine va_calli (a := #[]) (A1 := x_A (z_ad2 h0 q1) 2) hrun hS (fun q _ h => z_frz (k := 0) hA2 q h) (z_frz (k := 0) hA2) (fun r u t H1 locs ht hvm hw hB hz1 hk1 hS => ?_)
    subst hw
    rw [ht, z_w2] at hB
    have hP : va_P D x_cls [(h0, .inr (7, [.ref q1, .int (nI (i + 1))])), (q1, .inl (cA, 200, .inl (z_Mf (i + 1) 1)))] H1 := by
      have hB : va_P D x_cls [(h0, .inr (7, [.ref q1, .int (M' 0 1)])), (q1, .inl (cA, 200, .inl (M' 1)))] H1 := hB
      rw [m2, m3] at hB
      exact hB
    refine lv_pop hx hb d_fill_23 rfl ?_
    refine lv_iinc (v := nI (i + 1)) (lv' := [(2, .int (nI (i + 1))), (0, .ref h0), (1, .ref a)]) hx hb d_fill_24 hl (k := 0) rfl (nI_1 i) (by decide) rfl (fun ls hl => ?_)
    refine lv_goto (tgt := 6) hx hb d_fill_27 (by decide) ?_
    exact ih (i + 1) H1 locs ls (by omega) hP hS hl
end
set_option maxHeartbeats 4000000 in
set_option maxRecDepth 100000 in
theorem c_fill (l : Launch) (D : va_G) (h0 q1 : Nat) (cA : ClassId) (a v sz : Nat) : Met l y_fill (Cond.code y_fill prog_9_method_4_code 3 none :: xT) ({ frames := 10, cells := 0, slots := 0, locals := 600 }) (va_Pc [.ref h0, .ref a] (fun U => U.heap.size = sz ∧ va_P D x_cls [(h0, .inr (7, [.ref q1, .int 0])), (q1, .inl (cA, 200, .inl (fun _ => 0)))] U.heap ∧ va_K D x_cls [(cA, .char)] U ∧ va_D (fun _ => True) [(h0, .inr (7, [.ref q1, .int 0])), (q1, .inl (cA, 200, .inl (fun _ => 0)))] ∧ z_nst U ∧ z_str a v (va_A [(h0, .inr (7, [.ref q1, .int 0])), (q1, .inl (cA, 200, .inl (fun _ => 0)))] sz) U U.heap)) (va_Qv (fun _ : Unit => True) (fun _ t => va_P D x_cls [(h0, .inr (7, [.ref q1, .int (nI 76)])), (q1, .inl (cA, 200, .inl (fun k => nI (z_by.getD k 0))))] t.heap) (va_A [(h0, .inr (7, [.ref q1, .int 0])), (q1, .inl (cA, 200, .inl (fun _ => 0)))] sz)) 0 0 (va_A [(h0, .inr (7, [.ref q1, .int 0])), (q1, .inl (cA, 200, .inl (fun _ => 0)))] sz) := by
  refine Met.ofW (cc := prog_9_method_4_code) (maxL := 3) (ret := none) (by decide) rfl ?_
  intro p e s m args below meth c s₁ B hml hv
  obtain ⟨rfl, hsz, hP, hK, hD0, hN, hZ⟩ := hv
  have hx := B.exec
  have hb := B.bytes
  have hr := B.returns
  have hts0 := atoms_spec (ws := Cond.code y_fill prog_9_method_4_code 3 none :: xT) B.pre
  have hts : ∀ w ∈ xT, w.before _ s = true := fun w hw => hts0 w (List.mem_cons_of_mem _ hw)
  have hown : s.vm.findClass x_R7 = some m.cls := findClass_of_methodNamed B.named
  have hlocks := B.notSynchronized
  subst hsz
  have hD := hD0.self (sz := s.heap.size)
  generalize hAe : va_A [(h0, .inr (7, [.ref q1, .int 0])), (q1, .inl (cA, 200, .inl (fun _ => 0)))] s.heap.size = A at hD hZ ⊢
  have hS : va_S A s.heap s.heap [] := va_S.rf
  have hinj : x_inj (z_ad2 h0 q1) 2 := by
    have hne : h0 ≠ q1 := fun q => absurd (hD.1 0 1 _ _ rfl rfl q) (by decide)
    intro i j hi hj he
    match i, j, hi, hj with
    | 0, 0, _, _ => rfl
    | 1, 1, _, _ => rfl
    | 0, 1, _, _ => exact absurd he hne
    | 1, 0, _, _ => exact absurd he.symm hne
  have hA2 : ∀ k, k < 2 → A (z_ad2 h0 q1 k) := by
    intro k hk
    match k, hk with
    | 0, _ => exact hD.2 0 _ rfl
    | 1, _ => exact hD.2 1 _ rfl
  have hl := lv_entry ([.ref h0, .ref a]) (n := 3) (Nat.le_of_ble_eq_true rfl)
  rw [lg_entry_eq]
  generalize (lg_sl ([.ref h0, .ref a]) ++ List.replicate (3 - (lg_sl ([.ref h0, .ref a])).length) Slot.unset).toArray = ls at hl ⊢
  have hl : lv_has ls 3 [(0, .ref h0), (1, .ref a)] := hl
  have hP2 : va_P D x_cls (x_w x_shT 2 (z_ad2 h0 q1) (fun _ => cA) (z_Mf 0)) s.heap := by
    rw [z_w2, show z_Mf 0 1 = fun _ => 0 from by funext k; rfl]
    exact hP
  have hv := x_allP_at x_vl_ok (show x_vl[14]? = some (8, 83, 0, 0) from rfl)
  refine lv_aload_n hx hb d_fill_0 rfl (lv_at hl 0 rfl) ?_
  have hrun := z_run (l := l) (e := e) (below := below) (meth := meth) (R := (headSpec (Cond.code y_fill prog_9_method_4_code 3 none :: xT) ({ frames := 10, cells := 0, slots := 0, locals := 600 })).room) (cells := 0) (slots := 0) (rest := []) (vs := []) (cm := 0) (a := 0) (idx := 19) (pc := 1) (lsR := ls) x_shT_ok hinj ⟨hx, hb, hml, hown, hts⟩ hA2 (z_kT hK hN) z_xT (by decide) (show x_den x_shT 0 0 (x_ent (x_ml 0) (.ref 0 :: [])) [] (z_Mf 0) = some (nI 0, x_up (z_Mf 0) 0 1 (nI 0)) from zT_clear_eq _) rfl rfl (by decide) (fs := [.ref 1, .int 0]) rfl (x_in1 (List.mem_of_getElem? (i := 236) rfl) rfl) hv.2.1 hv.2.2 ⟨⟨by decide, by decide⟩, by decide, by decide⟩ hl.1 (by decide) d_fill_1 hP2 hS
  rw [show x_rt 0 = none from rfl] at hrun
  refine va_callv (a := #[]) (A1 := x_A (z_ad2 h0 q1) 2) hrun hS (fun q _ h => z_frz (k := 0) hA2 q h) (z_frz (k := 0) hA2) (fun u t H1 locs ht hvm hw hB hz1 hk1 hS => ?_)
  rw [ht, z_w2] at hB
  have hP : va_P D x_cls [(h0, .inr (7, [.ref q1, .int (nI 0)])), (q1, .inl (cA, 200, .inl (z_Mf 0 1)))] H1 := hB
  refine lv_iconst (v := nI 0) hx hb d_fill_4 (by decide) ?_
  refine lv_istore_n (lv' := [(2, .int (nI 0)), (0, .ref h0), (1, .ref a)]) hx hb d_fill_5 rfl hl (by decide) rfl (fun ls hl => ?_)
  refine fill_loop hx hb hml hown hts (by decide) (by decide) (by decide) (by decide) hK hN hinj hA2 hZ (fun H locs ls hP hS => ?_) 76 0 H1 locs ls rfl hP hS hl
  have hP : va_P D x_cls [(h0, .inr (7, [.ref q1, .int (nI 76)])), (q1, .inl (cA, 200, .inl (fun k => nI (z_by.getD k 0))))] H := by
    rw [show (fun k => nI (z_by.getD k 0)) = z_Mf 76 1 from by
      funext k
      show nI (z_by.getD k 0) = cond (Nat.blt k 76) (nI (z_by.getD k 0)) (nI 0)
      by_cases e : k < 76
      · rw [show Nat.blt k 76 = true from by rw [Nat.blt_eq]; exact e]; rfl
      · rw [show Nat.blt k 76 = false from by rw [Bool.eq_false_iff, ne_eq, Nat.blt_eq]; exact e, List.getD_eq_getElem?_getD, List.getElem?_eq_none (show z_by.length ≤ k from by show 76 ≤ k; omega)]; rfl]
    exact hP
  exact W.vret hx hb hr (fun t ht hW => ⟨⟨(), rfl, trivial, by subst ht; exact hP⟩, hS.F ht⟩) hS.2.2 d_fill_30
