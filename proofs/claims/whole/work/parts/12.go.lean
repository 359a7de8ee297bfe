/-! every instruction that goes on in the same method, on the machine; what no instruction writes -/
section
variable {l : Launch} {sh : xH} {nc : Nat} {ad : Nat → Nat} {aC : Nat → ClassId} {D : va_G} {p : Program} {e : Env} {R : Room} {s : State} {m : MethodId} {args : Array Value} {below : List Frame} {meth : Method} {c : Code} {cells slots : Nat} {Q : State → Prop} {A : Nat → Prop} {mi : Nat}
set_option maxHeartbeats 4000000 in
theorem x_go (F : x_Fr sh nc ad aC D p R s m args c cells slots A mi) {pc : Nat} {i : xI} {ls ls' : xS} {st st' : List Value} {M M' : xM} {pc' : Nat} (hX : x_Xp sh ad A M s s.heap) (hc : x_co mi pc = some i) (h : x_st sh pc ls st M i = some (.inl (pc', ls', st', M')))
    (kk : x_G l sh nc ad aC D p e R s m args below meth c cells slots Q A mi pc' ls' st' M') : x_G l sh nc ad aC D p e R s m args below meth c cells slots Q A mi pc ls st M := by
  obtain ⟨i, aux⟩ := i
  have ha := x_auxok hc
  have h1k : 1 ≤ x_rk mi := (x_chk_dec (x_ok hc)).2.2
  have F' := F
  obtain ⟨⟨hx, hb, hml, hown, hts⟩, -, hsh, hinj, hA, hK⟩ := F
  have hnL : ∀ {lsR : Array Slot} {ls0 : xS} {j : Nat}, x_L ad lsR (x_ml mi) ls0 → j < ls0.length → j < x_ml mi := fun hL hj => by rw [← hL.1]; exact hj
  cases i
  case iconst n =>
    have hd := x_dec hc rfl
    cases h
    intro H locs lsR hL hP hS
    exact lv_iconst hx hb hd rfl (kk H locs lsR hL hP hS)
  case bipush n =>
    have hd := x_dec hc rfl
    cases h
    intro H locs lsR hL hP hS
    exact lv_bipush hx hb hd rfl (kk H locs lsR hL hP hS)
  case sipush n =>
    have hd := x_dec hc rfl
    cases h
    intro H locs lsR hL hP hS
    exact lv_sipush hx hb hd rfl (kk H locs lsR hL hP hS)
  case lconst n =>
    have hd := x_dec hc rfl
    cases h
    intro H locs lsR hL hP hS
    exact lv_lconst hx hb hd rfl (kk H locs lsR hL hP hS)
  case ldc idx =>
    have hd := x_dec hc rfl
    match aux, ha, h with
    | v :: lk :: t, ha, h =>
      cases h
      have hl : x_klP lk (x_cn mi, idx, v) := x_allP_at x_kl_ok (of_decide_eq_true ha)
      intro H locs lsR hL hP hS
      exact lv_ldc hx hb hown (hts _ hl) hd (kk H locs lsR hL hP hS)
    | [_], ha, _ => cases ha
    | [], ha, _ => cases ha
  case ldc_w idx =>
    have hd := x_dec hc rfl
    match aux, ha, h with
    | v :: lk :: t, ha, h =>
      cases h
      have hl : x_klP lk (x_cn mi, idx, v) := x_allP_at x_kl_ok (of_decide_eq_true ha)
      intro H locs lsR hL hP hS
      exact lv_ldcw hx hb hown (hts _ hl) hd (kk H locs lsR hL hP hS)
    | [_], ha, _ => cases ha
    | [], ha, _ => cases ha
  case ldc2_w idx =>
    have hd := x_dec hc rfl
    match aux, ha, h with
    | v :: lk :: t, ha, h =>
      cases h
      have hl : x_k2P lk (x_cn mi, idx, v) := x_allP_at x_k2_ok (of_decide_eq_true ha)
      intro H locs lsR hL hP hS
      exact lv_ldc2 hx hb hown (hts _ hl) hd (kk H locs lsR hL hP hS)
    | [_], ha, _ => cases ha
    | [], ha, _ => cases ha
  case iload k =>
    have hd := x_dec hc rfl
    obtain ⟨x, h1, rfl, rfl, rfl, rfl⟩ := x_g_ldi h
    intro H locs lsR hL hP hS
    exact lv_iload hx hb hd (hL.2.2.2 _ _ h1) (kk H locs lsR hL hP hS)
  case iload_n k =>
    have hd := x_dec hc rfl
    obtain ⟨x, h1, rfl, rfl, rfl, rfl⟩ := x_g_ldi h
    intro H locs lsR hL hP hS
    exact lv_iload_n hx hb hd rfl (hL.2.2.2 _ _ h1) (kk H locs lsR hL hP hS)
  case lload k =>
    have hd := x_dec hc rfl
    obtain ⟨x, h1, rfl, rfl, rfl, rfl⟩ := x_g_ldl h
    intro H locs lsR hL hP hS
    exact lv_lload hx hb hd (hL.2.2.2 _ _ h1) (kk H locs lsR hL hP hS)
  case lload_n k =>
    have hd := x_dec hc rfl
    obtain ⟨x, h1, rfl, rfl, rfl, rfl⟩ := x_g_ldl h
    intro H locs lsR hL hP hS
    exact lv_lload_n hx hb hd rfl (hL.2.2.2 _ _ h1) (kk H locs lsR hL hP hS)
  case aload k =>
    have hd := x_dec hc rfl
    obtain ⟨x, h1, rfl, rfl, rfl, rfl⟩ := x_g_lda h
    intro H locs lsR hL hP hS
    exact lv_aload hx hb hd (hL.2.2.2 _ _ h1) (kk H locs lsR hL hP hS)
  case aload_n k =>
    have hd := x_dec hc rfl
    obtain ⟨x, h1, rfl, rfl, rfl, rfl⟩ := x_g_lda h
    intro H locs lsR hL hP hS
    exact lv_aload_n hx hb hd rfl (hL.2.2.2 _ _ h1) (kk H locs lsR hL hP hS)
  case istore k =>
    have hd := x_dec hc rfl
    obtain ⟨x, h1, rfl, rfl, rfl, rfl⟩ := x_g_sti h
    intro H locs lsR hL hP hS
    exact lv_istore hx hb hd hL.has (hnL hL h1) rfl (fun ls2 h2 => kk H locs ls2 (hL.st1 (v := .int x) h2) hP hS)
  case istore_n k =>
    have hd := x_dec hc rfl
    obtain ⟨x, h1, rfl, rfl, rfl, rfl⟩ := x_g_sti h
    intro H locs lsR hL hP hS
    exact lv_istore_n hx hb hd rfl hL.has (hnL hL h1) rfl (fun ls2 h2 => kk H locs ls2 (hL.st1 (v := .int x) h2) hP hS)
  case lstore k =>
    have hd := x_dec hc rfl
    obtain ⟨x, h1, rfl, rfl, rfl, rfl⟩ := x_g_stl h
    intro H locs lsR hL hP hS
    exact lv_lstore hx hb hd hL.has (hnL hL h1) rfl (fun ls2 h2 => kk H locs ls2 (hL.st2 (v := .long x) h2) hP hS)
  case lstore_n k =>
    have hd := x_dec hc rfl
    obtain ⟨x, h1, rfl, rfl, rfl, rfl⟩ := x_g_stl h
    intro H locs lsR hL hP hS
    exact lv_lstore_n hx hb hd rfl hL.has (hnL hL h1) rfl (fun ls2 h2 => kk H locs ls2 (hL.st2 (v := .long x) h2) hP hS)
  case astore k =>
    have hd := x_dec hc rfl
    obtain ⟨x, h1, rfl, rfl, rfl, rfl⟩ := x_g_sta h
    intro H locs lsR hL hP hS
    exact lv_astore hx hb hd hL.has (hnL hL h1) rfl (fun ls2 h2 => kk H locs ls2 (hL.st1 (v := .ref x) h2) hP hS)
  case astore_n k =>
    have hd := x_dec hc rfl
    obtain ⟨x, h1, rfl, rfl, rfl, rfl⟩ := x_g_sta h
    intro H locs lsR hL hP hS
    exact lv_astore_n hx hb hd rfl hL.has (hnL hL h1) rfl (fun ls2 h2 => kk H locs ls2 (hL.st1 (v := .ref x) h2) hP hS)
  case iinc k n =>
    have hd := x_dec hc rfl
    unfold x_st x_K at h
    dsimp only at h
    split at h
    · next x h1 =>
      cases h
      intro H locs lsR hL hP hS
      have hm : (k, Value.int x) ∈ x_as ad ls := x_as_mem.mpr ⟨.int x, h1, rfl⟩
      obtain ⟨kq, hkq⟩ := List.getElem?_of_mem hm
      exact lv_iinc hx hb hd hL.has hkq rfl (hnL hL (List.getElem?_eq_some_iff.mp h1).1) rfl (fun ls2 h2 => kk H locs ls2 (hL.st1 (v := .int (x + Int32.ofInt n)) h2) hP hS)
    · cases h
  case iadd =>
    have hd := x_dec hc rfl
    obtain ⟨x, y, r, rfl, rfl, rfl, rfl, rfl⟩ := x_g_bi h
    intro H locs lsR hL hP hS
    exact lv_iadd hx hb hd (kk H locs lsR hL hP hS)
  case isub =>
    have hd := x_dec hc rfl
    obtain ⟨x, y, r, rfl, rfl, rfl, rfl, rfl⟩ := x_g_bi h
    intro H locs lsR hL hP hS
    exact lv_isub hx hb hd (kk H locs lsR hL hP hS)
  case imul =>
    have hd := x_dec hc rfl
    obtain ⟨x, y, r, rfl, rfl, rfl, rfl, rfl⟩ := x_g_bi h
    intro H locs lsR hL hP hS
    exact lv_imul hx hb hd (kk H locs lsR hL hP hS)
  case iand =>
    have hd := x_dec hc rfl
    obtain ⟨x, y, r, rfl, rfl, rfl, rfl, rfl⟩ := x_g_bi h
    intro H locs lsR hL hP hS
    exact lv_iand hx hb hd (kk H locs lsR hL hP hS)
  case ior =>
    have hd := x_dec hc rfl
    obtain ⟨x, y, r, rfl, rfl, rfl, rfl, rfl⟩ := x_g_bi h
    intro H locs lsR hL hP hS
    exact lv_ior hx hb hd (kk H locs lsR hL hP hS)
  case ixor =>
    have hd := x_dec hc rfl
    obtain ⟨x, y, r, rfl, rfl, rfl, rfl, rfl⟩ := x_g_bi h
    intro H locs lsR hL hP hS
    exact lv_ixor hx hb hd (kk H locs lsR hL hP hS)
  case ishl =>
    have hd := x_dec hc rfl
    obtain ⟨x, y, r, rfl, rfl, rfl, rfl, rfl⟩ := x_g_bi h
    intro H locs lsR hL hP hS
    exact lv_ishl hx hb hd (kk H locs lsR hL hP hS)
  case ishr =>
    have hd := x_dec hc rfl
    obtain ⟨x, y, r, rfl, rfl, rfl, rfl, rfl⟩ := x_g_bi h
    intro H locs lsR hL hP hS
    exact lv_ishr hx hb hd (kk H locs lsR hL hP hS)
  case iushr =>
    have hd := x_dec hc rfl
    obtain ⟨x, y, r, rfl, rfl, rfl, rfl, rfl⟩ := x_g_bi h
    intro H locs lsR hL hP hS
    exact lv_iushr hx hb hd rfl (kk H locs lsR hL hP hS)
  case ladd =>
    have hd := x_dec hc rfl
    obtain ⟨x, y, r, rfl, rfl, rfl, rfl, rfl⟩ := x_g_bl h
    intro H locs lsR hL hP hS
    exact lv_ladd hx hb hd (kk H locs lsR hL hP hS)
  case lsub =>
    have hd := x_dec hc rfl
    obtain ⟨x, y, r, rfl, rfl, rfl, rfl, rfl⟩ := x_g_bl h
    intro H locs lsR hL hP hS
    exact lv_lsub hx hb hd (kk H locs lsR hL hP hS)
  case lmul =>
    have hd := x_dec hc rfl
    obtain ⟨x, y, r, rfl, rfl, rfl, rfl, rfl⟩ := x_g_bl h
    intro H locs lsR hL hP hS
    exact lv_lmul hx hb hd (kk H locs lsR hL hP hS)
  case idiv =>
    have hd := x_dec hc rfl
    unfold x_st x_K at h
    dsimp only at h
    split at h
    · next y x r =>
      split at h
      · cases h
      · next hy =>
        cases h
        intro H locs lsR hL hP hS
        exact lv_idiv hx hb hd hy (kk H locs lsR hL hP hS)
    · cases h
  case irem =>
    have hd := x_dec hc rfl
    unfold x_st x_K at h
    dsimp only at h
    split at h
    · next y x r =>
      split at h
      · cases h
      · next hy =>
        cases h
        intro H locs lsR hL hP hS
        exact lv_irem hx hb hd hy (kk H locs lsR hL hP hS)
    · cases h
  case lrem =>
    have hd := x_dec hc rfl
    unfold x_st x_K at h
    dsimp only at h
    split at h
    · next y x r =>
      split at h
      · cases h
      · next hy =>
        cases h
        intro H locs lsR hL hP hS
        exact lv_lrem hx hb hd hy (kk H locs lsR hL hP hS)
    · cases h
  case lcmp =>
    have hd := x_dec hc rfl
    unfold x_st x_K at h
    dsimp only at h
    split at h
    · next y x r =>
      cases h
      intro H locs lsR hL hP hS
      have k1 := kk H locs lsR hL hP hS
      rw [x_lc_eq] at k1
      exact W.lcmp hx hb hd k1
    · cases h
  case i2l =>
    have hd := x_dec hc rfl
    unfold x_st x_K at h
    dsimp only at h
    split at h
    · next x r =>
      cases h
      intro H locs lsR hL hP hS
      exact lv_i2l hx hb hd rfl (kk H locs lsR hL hP hS)
    · cases h
  case l2i =>
    have hd := x_dec hc rfl
    unfold x_st x_K at h
    dsimp only at h
    split at h
    · next x r =>
      cases h
      intro H locs lsR hL hP hS
      exact lv_l2i hx hb hd rfl (kk H locs lsR hL hP hS)
    · cases h
  case i2c =>
    have hd := x_dec hc rfl
    unfold x_st x_K at h
    dsimp only at h
    split at h
    · next x r =>
      cases h
      intro H locs lsR hL hP hS
      exact lv_i2c hx hb hd rfl (kk H locs lsR hL hP hS)
    · cases h
  case pop =>
    have hd := x_dec hc rfl
    unfold x_st x_K at h
    dsimp only at h
    split at h
    · next v r =>
      obtain ⟨h1, h2⟩ := x_g_cond h
      cases h2
      intro H locs lsR hL hP hS
      exact lv_pop hx hb hd (va := x_rv ad v) (by rw [x_rv_cat]; exact x_is1_cat h1) (kk H locs lsR hL hP hS)
    · cases h
  case dup =>
    have hd := x_dec hc rfl
    unfold x_st x_K at h
    dsimp only at h
    split at h
    · next v r =>
      obtain ⟨h1, h2⟩ := x_g_cond h
      cases h2
      intro H locs lsR hL hP hS
      exact lv_dup hx hb hd (va := x_rv ad v) (by rw [x_rv_cat]; exact x_is1_cat h1) (kk H locs lsR hL hP hS)
    · cases h
  case dup2 =>
    have hd := x_dec hc rfl
    unfold x_st x_K at h
    dsimp only at h
    split at h
    · next v w r =>
      obtain ⟨h1, h2⟩ := x_g_cond h
      cases h2
      simp only [Bool.and_eq_true] at h1
      intro H locs lsR hL hP hS
      exact lv_dup2_11 hx hb hd (va := x_rv ad v) (vb := x_rv ad w) (by rw [x_rv_cat]; exact x_is1_cat h1.1) (by rw [x_rv_cat]; exact x_is1_cat h1.2) (kk H locs lsR hL hP hS)
    · cases h
  case goto o =>
    have hd := x_dec hc rfl
    match aux, ha, h with
    | t :: _, ha, h =>
      cases h
      intro H locs lsR hL hP hS
      exact lv_goto hx hb hd (of_decide_eq_true ha) (kk H locs lsR hL hP hS)
    | [], ha, _ => cases ha
  case if_icmp cd o =>
    have hd := x_dec hc rfl
    match aux, ha, h with
    | t :: _, ha, h =>
      unfold x_st x_K at h
      dsimp only at h
      split at h
      · next y x r => exact x_s_br hx hb hd (of_decide_eq_true ha) h kk
      · cases h
    | [], ha, _ => cases ha
  case ifCond cd o =>
    have hd := x_dec hc rfl
    match aux, ha, h with
    | t :: _, ha, h =>
      unfold x_st x_K at h
      dsimp only at h
      split at h
      · next x r => exact x_s_br0 hx hb hd (of_decide_eq_true ha) h kk
      · cases h
    | [], ha, _ => cases ha
  case tableswitch df lo hi offs =>
    obtain ⟨⟨n, hd, -⟩, -⟩ := x_chk_dec (x_ok hc)
    match aux, ha, h with
    | t :: ts, ha, h =>
      have ha : (decide ((pc : Int) + df = (t : Int)) && decide (lo = 0) && decide (hi + 1 = (ts.length : Int)) && x_offs pc offs.toList ts && Nat.blt ts.length 1000) = true := ha
      simp only [Bool.and_eq_true, decide_eq_true_eq] at ha
      obtain ⟨⟨⟨⟨a1, a2⟩, a3⟩, a4⟩, a5⟩ := ha
      unfold x_st x_K at h
      dsimp only at h
      split at h
      · next x r => exact x_s_tsw hx hb hd a1 a2 a3 a4 (x_blt a5) h kk
      · cases h
    | [], ha, _ => cases ha
  case lookupswitch df ps =>
    obtain ⟨⟨n, hd, -⟩, -⟩ := x_chk_dec (x_ok hc)
    match aux, ha, h with
    | t :: ts, ha, h =>
      have ha : (decide ((pc : Int) + df = (t : Int)) && x_flat pc ps.toList ts && (ps.toList.zip (ps.toList.drop 1)).all (fun (a, next) => a.1 < next.1)) = true := ha
      simp only [Bool.and_eq_true, decide_eq_true_eq] at ha
      obtain ⟨⟨a1, a2⟩, a3⟩ := ha
      unfold x_st x_K at h
      dsimp only at h
      split at h
      · next x r => exact x_s_lsw hx hb hd a1 a2 a3 h kk
      · cases h
    | [], ha, _ => cases ha
  case getfield idx =>
    have hd := x_dec hc rfl
    match aux, ha, h with
    | ci :: k :: lk :: _, ha, h =>
      have ha : (decide (x_fl[lk]? = some (x_cn mi, idx, ci, k, 0)) || decide (x_fl[lk]? = some (x_cn mi, idx, ci, k, 1))) = true := ha
      simp only [Bool.or_eq_true, decide_eq_true_eq] at ha
      rcases ha with ha | ha
      · exact x_s_get F' hd ha h kk
      · exact x_s_get F' hd ha h kk
    | [_, _], ha, _ => cases ha
    | [_], ha, _ => cases ha
    | [], ha, _ => cases ha
  case putfield idx =>
    have hd := x_dec hc rfl
    match aux, ha, h with
    | ci :: k :: lk :: _, ha, h => exact x_s_put F' hd (of_decide_eq_true ha) h kk
    | [_, _], ha, _ => cases ha
    | [_], ha, _ => cases ha
    | [], ha, _ => cases ha
  case iaload => exact x_s_ald F' hX (x_dec hc rfl) h kk
  case caload => exact x_s_cald F' (x_dec hc rfl) h kk
  case iastore => exact x_s_ast F' (x_dec hc rfl) h kk
  case castore => exact x_s_cast F' (x_dec hc rfl) h kk
  case aaload => exact x_s_aal F' (x_dec hc rfl) h kk
  case arraylength => exact x_s_aln F' hX (x_dec hc rfl) h kk
  case invokestatic idx =>
    have hd := x_dec hc rfl
    match aux, ha, h with
    | [], ha, h => cases h
    | [lk], ha, h => exact x_s_cpy F' h1k hd (of_decide_eq_true ha) h kk
    | [w, lk], ha, h => exact x_s_mm F' h1k hd (of_decide_eq_true ha) h kk
    | [_, _, _], ha, h => cases h
    | [_, _, _, _], ha, h => cases h
    | cm :: np :: v :: ci :: ml :: t, ha, h =>
      have h : x_cas none (fun cm ml As r v => some (Sum.inr (Sum.inr (cm, ml, As, r, v)) : xO)) st cm np v ml = some (.inl (pc', ls', st', M')) := h
      unfold x_cas at h
      split at h
      · obtain ⟨-, h2⟩ := x_g_cond h
        cases h2
      · cases h
  case invokevirtual idx =>
    match aux, h with
    | cm :: np :: v :: ci :: ml :: t, h =>
      have h : x_cav sh none (fun cm ml As r v => some (Sum.inr (Sum.inr (cm, ml, As, r, v)) : xO)) st cm np v ci ml = some (.inl (pc', ls', st', M')) := h
      unfold x_cav at h
      split at h
      · split at h
        · obtain ⟨-, h2⟩ := x_g_cond h
          cases h2
        · cases h
      · cases h
    | [], h => cases h
    | [_], h => cases h
    | [_, _], h => cases h
    | [_, _, _], h => cases h
    | [_, _, _, _], h => cases h
  case ireturn =>
    unfold x_st x_K at h
    dsimp only at h
    split at h
    · split at h
      · cases h
      · split at h <;> cases h
    · cases h
  case return_ =>
    unfold x_st x_K at h
    dsimp only at h
    split at h <;> cases h
  all_goals cases h
end
