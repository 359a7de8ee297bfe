/-! calls; the pure machine's answers are the machine's -/
theorem x_pop_spec : ∀ (n : Nat) (st acc As rest : List Value), x_pop n st acc = some (As, rest) → ∃ vs, vs.length = n ∧ st = vs ++ rest ∧ As = vs.reverse ++ acc
  | 0, st, acc, As, rest, h => by cases h; exact ⟨[], rfl, rfl, rfl⟩
  | n + 1, v :: r, acc, As, rest, h => by
    obtain ⟨vs, h1, h2, h3⟩ := x_pop_spec n r (v :: acc) As rest h
    exact ⟨v :: vs, by simp [h1], by rw [h2]; rfl, by rw [h3]; simp⟩
  | n + 1, [], acc, As, rest, h => by cases h
theorem x_call_spec {mi cm np v ci ml kd lk idx : Nat} {kok : Bool} (h : x_call mi cm np v ci ml kd lk idx kok = true) : kok = true ∧ x_vl[lk]? = some (x_cn mi, idx, cm, kd) ∧ cm < 146 ∧ np = x_np cm ∧ ml = x_ml cm ∧ ci = x_cn cm ∧ x_rk cm < x_rk mi ∧ (cond (Nat.beq kd 0) (np + 1) np) ≤ ml ∧ ((v = 1 ∧ x_rt cm = none) ∨ (v = 0 ∧ x_rt cm = some .int) ∨ (v = 0 ∧ x_rt cm = some .boolean)) := by
  unfold x_call at h
  simp only [Bool.and_eq_true, Bool.or_eq_true, decide_eq_true_eq] at h
  obtain ⟨⟨⟨⟨⟨⟨⟨⟨h1, h2⟩, h3⟩, h4⟩, h5⟩, h6⟩, h7⟩, h8⟩, h9⟩ := h
  exact ⟨h1, h2, x_blt h3, x_beq h4, x_beq h5, x_beq h6, x_blt h7, Nat.le_of_ble_eq_true h8, by rcases h9 with (h9 | h9) | h9 <;> simp [h9]⟩
theorem x_K_const {α : Type} (sh : xH) (w : α) (pc : Nat) (ls : xS) (st : List Value) (M : xM) (i : xI) : x_K sh w (fun _ _ _ _ => w) (fun _ => w) (fun _ _ _ _ _ => w) pc ls st M i = w := (x_nat (fun _ : Unit => w) sh () (fun _ _ _ _ => ()) (fun _ => ()) (fun _ _ _ _ _ => ()) pc ls st M i).symm
def x_P1 : Option xO → Bool
  | some (.inr (.inl _)) => false
  | _ => true
def x_P2 : Option xO → Bool
  | some (.inr (.inr _)) => false
  | _ => true
theorem x_noret {sh : xH} {pc : Nat} {ls : xS} {st : List Value} {M : xM} {i : xI} {v : Int32} (e : x_st sh pc ls st M i = x_K sh none (fun a b c d => some (.inl (a, b, c, d))) (fun _ => none) (fun cm ml As r v => some (.inr (.inr (cm, ml, As, r, v)))) pc ls st M i) (h : x_st sh pc ls st M i = some (.inr (.inl v))) : False := by
  have h1 := x_nat x_P1 sh none (fun a b c d => some (Sum.inl (a, b, c, d))) (fun _ => none) (fun cm ml As r v => some (Sum.inr (Sum.inr (cm, ml, As, r, v)))) pc ls st M i
  rw [← e, h] at h1
  exact absurd (h1.trans (x_K_const sh true pc ls st M i)) (fun z => by cases z)
theorem x_nocall {sh : xH} {pc : Nat} {ls : xS} {st : List Value} {M : xM} {i : xI} {v : Nat × Nat × List Value × List Value × Bool} (e : x_st sh pc ls st M i = x_K sh none (fun a b c d => some (.inl (a, b, c, d))) (fun r => some (.inr (.inl r))) (fun _ _ _ _ _ => none) pc ls st M i) (h : x_st sh pc ls st M i = some (.inr (.inr v))) : False := by
  have h1 := x_nat x_P2 sh none (fun a b c d => some (Sum.inl (a, b, c, d))) (fun r => some (Sum.inr (Sum.inl r))) (fun _ _ _ _ _ => none) pc ls st M i
  rw [← e, h] at h1
  exact absurd (h1.trans (x_K_const sh true pc ls st M i)) (fun z => by cases z)
def x_rm (cm : Nat) : Room := { frames := x_rk cm, cells := 0, slots := 0, locals := 60 * x_rk cm }
def x_ws (cm : Nat) : List Cond := Cond.code (x_y cm) (x_by cm) (x_ml cm) (x_rt cm) :: xT
def x_Pc (sh : xH) (nc : Nat) (ad : Nat → Nat) (aC : Nat → ClassId) (D : va_G) (As : List Value) (M : xM) : Array Value → State → Prop := va_Pc (As.map (x_rv ad)) (fun U => va_P D x_cls (x_w sh nc ad aC M) U.heap ∧ x_Kp sh nc aC D U ∧ x_Xp sh ad (x_A ad nc) M U U.heap)
def x_Qc (sh : xH) (nc : Nat) (ad : Nat → Nat) (aC : Nat → ClassId) (D : va_G) (rt : Option FieldType) (r : Int32 × xM) : Array Value → State → Outcome → State → Prop := match rt with
  | none => va_Qv (S := Unit) (fun _ => True) (fun _ t => va_P D x_cls (x_w sh nc ad aC r.2) t.heap) (x_A ad nc)
  | some _ => va_Qi (S := Unit) (fun v _ => v = r.1) (fun _ t => va_P D x_cls (x_w sh nc ad aC r.2) t.heap) (x_A ad nc)
/-- what the pure machine answers within n steps the machine answers -/
def x_Snd (l : Launch) (sh : xH) (nc : Nat) (ad : Nat → Nat) (aC : Nat → ClassId) (D : va_G) (n : Nat) : Prop := ∀ (mi pc : Nat) (ls : xS) (st : List Value) (M : xM) (r : Int32 × xM), x_ev sh n mi pc ls st M = some r →
  ∀ (p : Program) (e : Env) (R : Room) (s : State) (m : MethodId) (args : Array Value) (below : List Frame) (meth : Method) (c : Code) (cells slots : Nat) (Q : State → Prop) (A : Nat → Prop), x_Fr sh nc ad aC D p R s m args c cells slots A mi → x_Xp sh ad A M s s.heap →
  (∀ (pc' : Nat) (lsR' : Array Slot) (H' : Heap) (locs' : List Loc), va_P D x_cls (x_w sh nc ad aC r.2) H' → va_S A s.heap H' locs' →
    ((x_rt mi = none ∧ decode (x_by mi) pc' = .ok (.return_, 1)) → W p l e R s m args below meth c H' locs' cells slots Q (F0 m pc' lsR' [])) ∧
    ((decode (x_by mi) pc' = .ok (.ireturn, 1) ∧ (x_rt mi = some .int ∨ (x_rt mi = some .boolean ∧ (r.1 = 0 ∨ r.1 = 1)))) → W p l e R s m args below meth c H' locs' cells slots Q (F0 m pc' lsR' [.int r.1]))) →
  x_G l sh nc ad aC D p e R s m args below meth c cells slots Q A mi pc ls st M
section
variable {l : Launch} {sh : xH} {nc : Nat} {ad : Nat → Nat} {aC : Nat → ClassId} {D : va_G}
theorem x_nar_b {v : Int32} (h : v = 0 ∨ v = 1) : narrow .boolean (.int v) = .int v := by
  rcases h with rfl | rfl <;> decide +kernel
theorem x_met {n : Nat} (IH : x_Snd l sh nc ad aC D n) (hsh : x_shok sh nc) (hinj : x_inj ad nc) {cm : Nat} {As : List Value} {M : xM} {r : Int32 × xM} (hcm : cm < 146) (hev : x_ev sh n cm 0 (x_ent (x_ml cm) As) [] M = some r) (h1 : As.all x_is1 = true) (hl : As.length ≤ x_ml cm) :
    Met l (x_y cm) (x_ws cm) (x_rm cm) (x_Pc sh nc ad aC D As M) (x_Qc sh nc ad aC D (x_rt cm) r) 0 0 (x_A ad nc) := by
  obtain ⟨-, -, hcls, hplain, -⟩ := x_me_at hcm
  refine Met.ofW (cc := x_by cm) (maxL := x_ml cm) (ret := x_rt cm) hplain rfl ?_
  intro p e s m args below meth c s₁ B hml hv
  obtain ⟨rfl, hP, hK, hX⟩ := hv
  have hts := atoms_spec (ws := x_ws cm) B.pre
  have hown : s.vm.findClass (x_R (x_cn cm)) = some m.cls := by
    have h0 := findClass_of_methodNamed B.named
    rw [show (x_y cm).cls = x_R (x_cn cm) from hcls] at h0
    exact h0
  rw [lg_entry_eq]
  refine IH cm 0 _ [] M r hev p e _ s m _ below meth c 0 0 _ (x_A ad nc) ⟨⟨B.exec, B.bytes, hml, hown, fun w hw => hts w (List.mem_cons_of_mem _ hw)⟩, ⟨Nat.le_refl _, Nat.le_refl _, Nat.le_refl _, Nat.le_refl _⟩, hsh, hinj, fun k hk => ⟨k, hk, rfl⟩, hK⟩ hX ?_ s.heap [] _ (x_L_ent h1 hl) hP va_S.rf
  intro pc' lsR' H' locs' hP' hS'
  refine ⟨fun ⟨hr, hd⟩ => ?_, fun ⟨hd, hr⟩ => ?_⟩
  · refine W.vret B.exec B.bytes (by rw [B.returns, hr]) (fun t ht hW => ?_) hS'.2.2 hd B.notSynchronized
    rw [hr]
    exact ⟨⟨(), rfl, trivial, by subst ht; exact hP'⟩, hS'.F ht⟩
  · rcases hr with hr | ⟨hr, hb⟩
    · refine W.iret B.exec B.bytes (by rw [B.returns, hr]) (fun t ht hW => ?_) hS'.2.2 hd B.notSynchronized
      rw [hr]
      exact ⟨⟨r.1, (), rfl, rfl, by subst ht; exact hP'⟩, hS'.F ht⟩
    · refine W.zret B.exec B.bytes (by rw [B.returns, hr]) (x_nar_b hb) (fun t ht hW => ?_) hS'.2.2 hd B.notSynchronized
      rw [hr]
      exact ⟨⟨r.1, (), rfl, rfl, by subst ht; exact hP'⟩, hS'.F ht⟩
variable {p : Program} {e : Env} {R : Room} {s : State} {m : MethodId} {args : Array Value} {below : List Frame} {meth : Method} {c : Code} {cells slots : Nat} {Q : State → Prop} {A : Nat → Prop} {mi : Nat}
/-- behind a call -/
theorem x_after (hA : ∀ k, k < nc → A (ad k)) {cm pc v : Nat} {r : Int32 × xM} {rest st0 : List Value} {ls : xS} {lsR : Array Slot} {H : Heap} {locs : List Loc} {a : Array Value} (hS : va_S A s.heap H locs) (hL : x_L ad lsR (x_ml mi) ls)
    (hv : (v = 1 ∧ x_rt cm = none) ∨ (v = 0 ∧ x_rt cm = some .int) ∨ (v = 0 ∧ x_rt cm = some .boolean)) (hrun : va_Run p l e R s m args below meth c H locs cells slots 0 0 (F0 m pc lsR st0) (rest.map (x_rv ad)) (x_Qc sh nc ad aC D (x_rt cm) r a) (x_A ad nc))
    (kk : x_G l sh nc ad aC D p e R s m args below meth c cells slots Q A mi (pc + 3) ls (cond (Nat.beq v 1) rest (.int r.1 :: rest)) r.2) : W p l e R s m args below meth c H locs cells slots Q (F0 m pc lsR st0) := by
  have hAA : ∀ q, x_A ad nc q → A q := fun q ⟨k, hk, e⟩ => by rw [e]; exact hA k hk
  have hi : ∀ t : FieldType, v = 0 → x_rt cm = some t → W p l e R s m args below meth c H locs cells slots Q (F0 m pc lsR st0) := by
    intro t hv hr
    rw [hr] at hrun
    subst hv
    refine va_calli (a := a) (A1 := x_A ad nc) hrun hS (fun q _ h => hAA q h) hAA (fun w u t H1 locs1 ht hvm hw hB hz hk hS1 => ?_)
    subst hw
    exact kk H1 locs1 lsR hL (by rw [← ht]; exact hB) hS1
  rcases hv with ⟨hv, hr⟩ | ⟨hv, hr⟩ | ⟨hv, hr⟩
  · rw [hr] at hrun
    subst hv
    exact va_callv (a := a) (A1 := x_A ad nc) hrun hS (fun q _ h => hAA q h) hAA (fun u t H1 locs1 ht hvm hw hB hz hk hS1 => kk H1 locs1 lsR hL (by rw [← ht]; exact hB) hS1)
  · exact hi _ hv hr
  · exact hi _ hv hr
theorem x_blind {As : List Value} {M : xM} : FrameBlind (x_Pc sh nc ad aC D As M) := by
  intro a U g mk q
  obtain ⟨q0, q1, q2, q3⟩ := q
  refine ⟨q0, q1, ⟨va_K.moved (u := U) (U := U.calling g mk a) (Vm.Alike.refl U.vm) q2.1, fun k ty n rs hk hs ht => ?_, fun q hq => va_tabs (A := #[]) (A' := #[]) (u := U) (U := U.calling g mk a) rfl rfl (q2.2.2 q hq)⟩, fun a' n rs h => ?_⟩
  · have h1 := q2.2.1 k ty n rs hk hs ht
    exact ⟨arrOfT_moved (show U.vm.Alike (U.calling g mk a).vm from Vm.Alike.refl U.vm) h1.1, h1.2.moved (u := U) (U := U.calling g mk a) (Vm.Alike.refl U.vm)⟩
  · obtain ⟨z1, z2, z3⟩ := q3 a' n rs h
    exact ⟨va_X.moved (u := U) (U := U.calling g mk a) (Vm.Alike.refl U.vm) z1, z2, z3⟩
theorem x_pre (hA : ∀ k, k < nc → A (ad k)) {As : List Value} {M : xM} {H : Heap} {locs : List Loc} (hK : x_Kp sh nc aC D s) (hP : va_P D x_cls (x_w sh nc ad aC M) H) (hS : va_S A s.heap H locs) (hX : x_Xp sh ad A M s s.heap) : ∀ U : State, U.heap = H → s.WarmedH U.vm → x_Pc sh nc ad aC D As M (As.map (x_rv ad)).toArray U := by
  intro U hU hW
  refine ⟨rfl, by rw [hU]; exact hP, hK.warm hW, fun a n rs h => ?_⟩
  obtain ⟨z1, z2, z3, z4⟩ := hX a n rs h
  refine ⟨?_, by rw [hU]; exact Nat.lt_of_lt_of_le z2 hS.1, fun ⟨k, hk, e⟩ => z3 (by rw [e]; exact hA k hk), z4⟩
  rw [hU]
  exact (z1.kept (hS.2.1 _ z2 z3)).moved hW.alike
theorem x_good_ws {cm : Nat} (hcm : cm < 146) : GoodIn xT (x_ws cm) := by
  intro w hw
  rcases List.mem_cons.mp hw with rfl | hw
  · exact ⟨(x_me_at hcm).1, Or.inl rfl⟩
  · exact xT_self w hw
theorem x_cls_R : x_allP (fun k (q : vw_C) => q.1 = x_R k) 0 x_cls := ⟨rfl, rfl, rfl, rfl, rfl, rfl, rfl, rfl, rfl, rfl, trivial⟩
theorem x_room {cm : Nat} (hcm : cm < 146) (hrk : x_rk cm < x_rk mi) (h1 : x_rk mi ≤ R.frames) (h2 : 60 * x_rk mi ≤ R.locals) : (x_rm cm).frames + 1 ≤ R.frames ∧ 8 + (x_ml cm + 11) + (x_rm cm).locals ≤ R.locals := by
  obtain ⟨-, -, -, -, -, -, -, h41⟩ := x_me_at hcm
  have h41 : x_ml cm ≤ 41 := h41
  exact ⟨by show x_rk cm + 1 ≤ _; omega, by show 8 + (x_ml cm + 11) + 60 * x_rk cm ≤ _; omega⟩
/-- a call of a method on an object -/
theorem x_s_cav (F : x_Fr sh nc ad aC D p R s m args c cells slots A mi) {n pc idx cm np v ci ml kd lk : Nat} (IH : x_Snd l sh nc ad aC D n) {ls : xS} {st : List Value} {M : xM} {q : Int32 × xM} (hX : x_Xp sh ad A M s s.heap) (hd : decode (x_by mi) pc = .ok (.invokevirtual idx, 3)) (hchk : x_call mi cm np v ci ml kd lk idx (Nat.beq kd 0) = true)
    {cm' ml' : Nat} {As' rest' : List Value} {v' : Bool} (h : x_cav sh none (fun cm ml As r v => some (Sum.inr (Sum.inr (cm, ml, As, r, v)) : xO)) st cm np v ci ml = some (.inr (.inr (cm', ml', As', rest', v')))) (hev : x_ev sh n cm' 0 (x_ent ml' As') [] M = some q)
    (kk : x_G l sh nc ad aC D p e R s m args below meth c cells slots Q A mi (pc + 3) ls (cond v' rest' (.int q.1 :: rest')) q.2) : x_G l sh nc ad aC D p e R s m args below meth c cells slots Q A mi pc ls st M := by
  obtain ⟨⟨hx, hb, hml, hown, hts⟩, ⟨hr1, hr2, hr3, hr4⟩, hsh, hinj, hA, hK⟩ := F
  obtain ⟨hk0, hvl, hcm, rfl, rfl, rfl, hrk, hmx, hv⟩ := x_call_spec hchk
  have hk0 := x_beq hk0
  subst hk0
  obtain ⟨hl1, hl2, hl3⟩ : x_vlP lk (x_cn mi, idx, cm, 0) := x_allP_at x_vl_ok hvl
  obtain ⟨hm1, hm2, hm3, hm4, hm5, hm6, hm7, hm8⟩ := x_me_at hcm
  intro H locs lsR hL hP hS
  unfold x_cav at h
  split at h
  · next As0 a r0 hpop =>
    split at h
    · next c0 fs hs =>
      obtain ⟨h1, h2⟩ := x_g_cond h
      cases h2
      simp only [Bool.and_eq_true, x_roomy] at h1
      obtain ⟨h11, h12, h13⟩ := h1
      have hc0 := x_beq h11
      subst hc0
      obtain ⟨vs, e1, e2, e3⟩ := x_pop_spec _ _ _ _ _ hpop
      rw [List.append_nil] at e3
      subst e3
      have hka : a < nc := hsh.1 a _ hs
      have he : (x_w sh nc ad aC M)[a]? = some (ad a, .inr (x_cn cm, fs.mapIdx (fun j f => x_fv ad (M a j) f))) := by rw [x_w_at hka, x_ce_o hs]
      obtain ⟨rc, hrc, -⟩ := hP a _ he
      have hrC : rc.1 = x_R (x_cn cm) := x_allP_at x_cls_R hrc
      have hall : (Value.ref a :: vs.reverse).all x_is1 = true := by simp only [List.all_cons, Bool.and_eq_true]; exact ⟨rfl, h12⟩
      have hM := x_met (As := .ref a :: vs.reverse) IH hsh hinj hcm hev hall (by simp only [List.length_cons, List.length_reverse, e1]; exact hmx)
      have hcat : ((rest'.map (x_rv ad)).map fun v => v.category) = rest'.map fun v => v.category := by
        rw [List.map_map]
        exact List.map_congr_left (fun v _ => x_rv_cat ad v)
      have cw : CallW R s args (x_R (x_cn mi)) (x_R (x_cn cm)) idx (x_y cm) (x_by cm) (x_ml cm) (x_rt cm) (x_ws cm) (x_rm cm) 0 0 (x_np cm) :=
        ⟨callB_of (x_np cm) hts (x_good_ws hcm) rfl rfl rfl (hts _ hm2) (hts _ hl1) ⟨hm5, hm6, hm7⟩ (x_room hcm hrk hr1 hr2), hts _ hl2, hts _ hl3⟩
      have hp : PreV s H (x_R (x_cn cm)) (ad a) (x_Pc sh nc ad aC D (.ref a :: vs.reverse) M) (vs.reverse.map (x_rv ad)) := by
        refine ⟨x_blind, ?_, x_pre hA hK hP hS hX⟩
        have h3 := va_recv hK.1 hP hrc he
        rwa [hrC] at h3
      have hrun := va_runV (g := F0 m pc lsR (st.map (x_rv ad))) (locs := locs) (below := below) (meth := meth) (cells := cells) (slots := slots) (e := e) (rest := rest'.map (x_rv ad)) ⟨hx, hb, hml, hown, hts⟩ hM cw hp rfl (by rw [List.length_map, List.length_reverse]; exact e1) hL.2.1 (by
        show st.map (x_rv ad) = _
        rw [e2, List.map_append, ← List.map_reverse, List.reverse_reverse]; rfl) (lv_room (by rw [hcat]; exact Nat.le_of_ble_eq_true h13)) hd ⟨hr3, hr4⟩
      exact x_after hA hS hL hv hrun kk
    · cases h
  · cases h
/-- a static call -/
theorem x_s_cas (F : x_Fr sh nc ad aC D p R s m args c cells slots A mi) {n pc idx cm np v ci ml kd lk : Nat} (IH : x_Snd l sh nc ad aC D n) {ls : xS} {st : List Value} {M : xM} {q : Int32 × xM} (hX : x_Xp sh ad A M s s.heap) (hd : decode (x_by mi) pc = .ok (.invokestatic idx, 3)) (hchk : x_call mi cm np v ci ml kd lk idx (Nat.beq kd 1 || Nat.beq kd 2) = true)
    {cm' ml' : Nat} {As' rest' : List Value} {v' : Bool} (h : x_cas none (fun cm ml As r v => some (Sum.inr (Sum.inr (cm, ml, As, r, v)) : xO)) st cm np v ml = some (.inr (.inr (cm', ml', As', rest', v')))) (hev : x_ev sh n cm' 0 (x_ent ml' As') [] M = some q)
    (kk : x_G l sh nc ad aC D p e R s m args below meth c cells slots Q A mi (pc + 3) ls (cond v' rest' (.int q.1 :: rest')) q.2) : x_G l sh nc ad aC D p e R s m args below meth c cells slots Q A mi pc ls st M := by
  obtain ⟨⟨hx, hb, hml, hown, hts⟩, ⟨hr1, hr2, hr3, hr4⟩, hsh, hinj, hA, hK⟩ := F
  obtain ⟨hk0, hvl, hcm, rfl, rfl, rfl, hrk, hmx, hv⟩ := x_call_spec hchk
  have hlk : x_vlP lk (x_cn mi, idx, cm, kd) := x_allP_at x_vl_ok hvl
  obtain ⟨hm1, hm2, hm3, hm4, hm5, hm6, hm7, hm8⟩ := x_me_at hcm
  intro H locs lsR hL hP hS
  unfold x_cas at h
  split at h
  · next As0 r0 hpop =>
    obtain ⟨h1, h2⟩ := x_g_cond h
    cases h2
    simp only [Bool.and_eq_true, x_roomy] at h1
    obtain ⟨h12, h13⟩ := h1
    obtain ⟨vs, e1, e2, e3⟩ := x_pop_spec _ _ _ _ _ hpop
    rw [List.append_nil] at e3
    subst e3
    have hlen : vs.reverse.length ≤ x_ml cm := by
      rw [List.length_reverse, e1]
      have : x_np cm ≤ cond (Nat.beq kd 0) (x_np cm + 1) (x_np cm) := by cases Nat.beq kd 0 <;> simp
      omega
    have hM := x_met (As := vs.reverse) IH hsh hinj hcm hev h12 hlen
    have hcat : ((rest'.map (x_rv ad)).map fun v => v.category) = rest'.map fun v => v.category := by
      rw [List.map_map]
      exact List.map_congr_left (fun v _ => x_rv_cat ad v)
    have hp : PreS s H (x_Pc sh nc ad aC D vs.reverse M) (vs.reverse.map (x_rv ad)) := ⟨x_blind, x_pre hA hK hP hS hX⟩
    have hst : st.map (x_rv ad) = (vs.reverse.map (x_rv ad)).reverse ++ rest'.map (x_rv ad) := by
      rw [e2, List.map_append, ← List.map_reverse, List.reverse_reverse]
    simp only [Bool.or_eq_true] at hk0
    rcases hk0 with hk0 | hk0
    · have hk0 := x_beq hk0
      subst hk0
      obtain ⟨hl1, hl2⟩ := hlk
      have hrun := va_runS (g := F0 m pc lsR (st.map (x_rv ad))) (locs := locs) (below := below) (meth := meth) (cells := cells) (slots := slots) (e := e) (rest := rest'.map (x_rv ad)) ⟨hx, hb, hml, hown, hts⟩ hM ⟨callB_of (x_np cm) hts (x_good_ws hcm) rfl rfl rfl (hts _ hm2) (hts _ hl1) ⟨hm5, hm6, hm7⟩ (x_room hcm hrk hr1 hr2), hts _ hl2⟩ hp rfl (by rw [List.length_map, List.length_reverse]; exact e1) hL.2.1 hst (lv_room (by rw [hcat]; exact Nat.le_of_ble_eq_true h13)) hd ⟨hr3, hr4⟩
      exact x_after hA hS hL hv hrun kk
    · have hk0 := x_beq hk0
      subst hk0
      obtain ⟨hl1, hl3, hl2⟩ := hlk
      have hl3 : cm = 10 := hl3
      have hN := hK.2.2 _ hl1
      rw [← hl3] at hN
      have hrun := va_runSN (host := "BackColumns") (g := F0 m pc lsR (st.map (x_rv ad))) (locs := locs) (below := below) (meth := meth) (cells := cells) (slots := slots) (e := e) (rest := rest'.map (x_rv ad)) ⟨hx, hb, hml, hown, hts⟩ hM ⟨va_cnB (x_np cm) hts (x_good_ws hcm) rfl rfl rfl hN (hts _ hm2) ⟨hm5, hm6, hm7⟩ (x_room hcm hrk hr1 hr2), hts _ hl2, trivial⟩ hp rfl (by rw [List.length_map, List.length_reverse]; exact e1) hL.2.1 hst (lv_room (by rw [hcat]; exact Nat.le_of_ble_eq_true h13)) hd ⟨hr3, hr4⟩
      exact x_after hA hS hL hv hrun kk
  · cases h
theorem x_snd (hsh : x_shok sh nc) (hinj : x_inj ad nc) : ∀ n, x_Snd l sh nc ad aC D n
  | 0 => fun mi pc ls st M r h => by cases h
  | n + 1 => by
    intro mi pc ls st M r h p e R s m args below meth c cells slots Q A F hX hret
    have IH := x_snd hsh hinj n
    rw [x_ev_s, x_B_ap] at h
    cases hc : x_co mi pc with
    | none => rw [hc] at h; cases h
    | some i =>
      rw [hc] at h
      have h : x_ap (x_ev sh n) (x_ev sh n) mi pc ls M (x_st sh pc ls st M i) = some r := h
      cases ho : x_st sh pc ls st M i with
      | none => rw [ho] at h; cases h
      | some o =>
        rw [ho] at h
        rcases o with ⟨a1, b1, c1, d1⟩ | v | ⟨cm, ml, As, rr, v⟩
        · exact x_go F hX hc ho (IH mi a1 b1 c1 d1 r h p e R s m args below meth c cells slots Q A F (hX.keep hsh (x_st_keep ho)) hret)
        · cases h
          obtain ⟨i, aux⟩ := i
          have ha := x_auxok hc
          intro H locs lsR hL hP hS
          obtain ⟨k1, k2⟩ := hret pc lsR H locs hP hS
          cases i
          case ireturn =>
            have hd := x_dec hc rfl
            unfold x_st x_K at ho
            dsimp only at ho
            split at ho
            · next v0 =>
              match aux, ha, ho with
              | 0 :: t, ha, ho =>
                cases ho
                exact k2 ⟨hd, Or.inl (of_decide_eq_true ha)⟩
              | (j + 1) :: t, ha, ho =>
                have ho : (if v0 = 0 ∨ v0 = 1 then some (Sum.inr (Sum.inl v0) : xO) else none) = some (.inr (.inl v)) := ho
                split at ho
                · next hv =>
                  cases ho
                  exact k2 ⟨hd, Or.inr ⟨of_decide_eq_true ha, hv⟩⟩
                · cases ho
              | [], ha, ho =>
                have ho : (if v0 = 0 ∨ v0 = 1 then some (Sum.inr (Sum.inl v0) : xO) else none) = some (.inr (.inl v)) := ho
                split at ho
                · next hv =>
                  cases ho
                  exact k2 ⟨hd, Or.inr ⟨of_decide_eq_true ha, hv⟩⟩
                · cases ho
            · cases ho
          case return_ =>
            have hd := x_dec hc rfl
            unfold x_st x_K at ho
            dsimp only at ho
            split at ho
            · cases ho
              exact k1 ⟨of_decide_eq_true ha, hd⟩
            · cases ho
          all_goals exact absurd ho (x_noret rfl)
        · obtain ⟨q, h1, h2⟩ := Option.bind_eq_some_iff.mp (show (x_ev sh n cm 0 (x_ent ml As) [] M).bind (fun q => x_ev sh n mi (pc + 3) ls (cond v rr (.int q.1 :: rr)) q.2) = some r from h)
          have kk := IH mi (pc + 3) ls _ q.2 r h2 p e R s m args below meth c cells slots Q A F (hX.keep hsh (x_ev_keep n h1)) hret
          obtain ⟨i, aux⟩ := i
          have ha := x_auxok hc
          cases i
          case invokevirtual idx =>
            have hd := x_dec hc rfl
            match aux, ha, ho with
            | cm0 :: np :: v0 :: ci :: ml0 :: kd :: lk :: t, ha, ho => exact x_s_cav F IH hX hd ha ho h1 kk
            | [], ha, _ => cases ha
            | [_], ha, _ => cases ha
            | [_, _], ha, _ => cases ha
            | [_, _, _], ha, _ => cases ha
            | [_, _, _, _], ha, _ => cases ha
            | [_, _, _, _, _], ha, _ => cases ha
            | [_, _, _, _, _, _], ha, _ => cases ha
          case invokestatic idx =>
            have hd := x_dec hc rfl
            match aux, ha, ho with
            | cm0 :: np :: v0 :: ci :: ml0 :: kd :: lk :: t, ha, ho => exact x_s_cas F IH hX hd ha ho h1 kk
            | [], ha, ho => cases ho
            | [_], ha, ho => exact absurd ho (x_nocall rfl)
            | [_, _], ha, ho => exact absurd ho (x_nocall rfl)
            | [_, _, _], ha, ho => cases ho
            | [_, _, _, _], ha, ho => cases ho
            | [_, _, _, _, _], ha, _ => cases ha
            | [_, _, _, _, _, _], ha, _ => cases ha
          all_goals exact absurd ho (x_nocall rfl)
end
