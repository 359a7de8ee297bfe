/-! what no instruction writes; calls; the pure machine's answers are the machine's -/
theorem x_up_keep {sh : xH} {M : xM} {a : Nat} {f : Nat → Int32} (h : ¬ x_ro sh a) : ∀ b, x_ro sh b → x_set M a f b = M b := fun b hb => x_set_ne b (fun z => h (z ▸ hb))
theorem x_lsw_keep {ls : xS} {M : xM} {x : Int32} {d : Nat} {r : List Value} {pc' : Nat} {ls' : xS} {st' : List Value} {M' : xM} : ∀ (ts : List Nat), x_lsw (fun a b c d => some (Sum.inl (a, b, c, d) : xO)) ls M x d r ts = some (.inl (pc', ls', st', M')) → M' = M
  | [], h => by cases h; rfl
  | [_], h => by cases h; rfl
  | k :: t :: ts, h => by
    unfold x_lsw at h
    split at h
    · cases h; rfl
    · exact x_lsw_keep ts h
theorem x_ald_keep {sh : xH} {pc w : Nat} {ls ls' : xS} {st st' : List Value} {M M' : xM} {pc' : Nat} (h : x_ald sh none (fun a b c d => some (Sum.inl (a, b, c, d) : xO)) pc ls st M w = some (.inl (pc', ls', st', M'))) : M' = M := by
  unfold x_ald at h
  split at h
  · next i a rest =>
    split at h
    · next ty n rs hs =>
      cases hb0 : Nat.beq ty w with
      | true =>
        rw [hb0] at h
        have h : (if i < 0 ∨ n ≤ i.toNatClampNeg then none else some (Sum.inl (pc + 1, ls, .int (M a i.toNatClampNeg) :: rest, M) : xO)) = some (.inl (pc', ls', st', M')) := h
        split at h <;> cases h
        rfl
      | false =>
        rw [hb0] at h
        obtain ⟨h1, h2⟩ := x_g_condO (show cond (Nat.beq ty 3 && Nat.beq w 0) (if i < 0 ∨ (M 98 0).toNatClampNeg ≤ i.toNatClampNeg then none else some (Sum.inl (pc + 1, ls, .int (M a i.toNatClampNeg) :: rest, M) : xO)) none = some (.inl (pc', ls', st', M')) from h)
        split at h2 <;> cases h2
        rfl
    · cases h
  · cases h
theorem x_aln_keep {sh : xH} {pc : Nat} {ls ls' : xS} {st st' : List Value} {M M' : xM} {pc' : Nat} (h : x_aln sh none (fun a b c d => some (Sum.inl (a, b, c, d) : xO)) pc ls st M = some (.inl (pc', ls', st', M'))) : M' = M := by
  unfold x_aln at h
  split at h
  · next a rest =>
    split at h
    · next ty n rs hs =>
      cases hb0 : Nat.blt ty 3 with
      | true => rw [hb0] at h; cases h; rfl
      | false =>
        rw [hb0] at h
        obtain ⟨-, h2⟩ := x_g_cond (show cond (Nat.beq ty 3) (some (Sum.inl (pc + 1, ls, .int (M 98 0) :: rest, M) : xO)) none = some (.inl (pc', ls', st', M')) from h)
        cases h2
        rfl
    · cases h
  · cases h
set_option maxHeartbeats 4000000 in
theorem x_st_keep {sh : xH} {pc : Nat} {i : xI} {ls ls' : xS} {st st' : List Value} {M M' : xM} {pc' : Nat} (h : x_st sh pc ls st M i = some (.inl (pc', ls', st', M'))) : ∀ a, x_ro sh a → M' a = M a := by
  obtain ⟨i, aux⟩ := i
  cases i
  case iload k => obtain ⟨x, h1, rfl, rfl, rfl, rfl⟩ := x_g_ldi h; intro _ _; rfl
  case iload_n k => obtain ⟨x, h1, rfl, rfl, rfl, rfl⟩ := x_g_ldi h; intro _ _; rfl
  case lload k => obtain ⟨x, h1, rfl, rfl, rfl, rfl⟩ := x_g_ldl h; intro _ _; rfl
  case lload_n k => obtain ⟨x, h1, rfl, rfl, rfl, rfl⟩ := x_g_ldl h; intro _ _; rfl
  case aload k => obtain ⟨x, h1, rfl, rfl, rfl, rfl⟩ := x_g_lda h; intro _ _; rfl
  case aload_n k => obtain ⟨x, h1, rfl, rfl, rfl, rfl⟩ := x_g_lda h; intro _ _; rfl
  case istore k => obtain ⟨x, h1, rfl, rfl, rfl, rfl⟩ := x_g_sti h; intro _ _; rfl
  case istore_n k => obtain ⟨x, h1, rfl, rfl, rfl, rfl⟩ := x_g_sti h; intro _ _; rfl
  case lstore k => obtain ⟨x, h1, rfl, rfl, rfl, rfl⟩ := x_g_stl h; intro _ _; rfl
  case lstore_n k => obtain ⟨x, h1, rfl, rfl, rfl, rfl⟩ := x_g_stl h; intro _ _; rfl
  case astore k => obtain ⟨x, h1, rfl, rfl, rfl, rfl⟩ := x_g_sta h; intro _ _; rfl
  case astore_n k => obtain ⟨x, h1, rfl, rfl, rfl, rfl⟩ := x_g_sta h; intro _ _; rfl
  case iadd => obtain ⟨x, y, r, rfl, rfl, rfl, rfl, rfl⟩ := x_g_bi h; intro _ _; rfl
  case isub => obtain ⟨x, y, r, rfl, rfl, rfl, rfl, rfl⟩ := x_g_bi h; intro _ _; rfl
  case imul => obtain ⟨x, y, r, rfl, rfl, rfl, rfl, rfl⟩ := x_g_bi h; intro _ _; rfl
  case iand => obtain ⟨x, y, r, rfl, rfl, rfl, rfl, rfl⟩ := x_g_bi h; intro _ _; rfl
  case ior => obtain ⟨x, y, r, rfl, rfl, rfl, rfl, rfl⟩ := x_g_bi h; intro _ _; rfl
  case ixor => obtain ⟨x, y, r, rfl, rfl, rfl, rfl, rfl⟩ := x_g_bi h; intro _ _; rfl
  case ishl => obtain ⟨x, y, r, rfl, rfl, rfl, rfl, rfl⟩ := x_g_bi h; intro _ _; rfl
  case ishr => obtain ⟨x, y, r, rfl, rfl, rfl, rfl, rfl⟩ := x_g_bi h; intro _ _; rfl
  case iushr => obtain ⟨x, y, r, rfl, rfl, rfl, rfl, rfl⟩ := x_g_bi h; intro _ _; rfl
  case ladd => obtain ⟨x, y, r, rfl, rfl, rfl, rfl, rfl⟩ := x_g_bl h; intro _ _; rfl
  case lsub => obtain ⟨x, y, r, rfl, rfl, rfl, rfl, rfl⟩ := x_g_bl h; intro _ _; rfl
  case lmul => obtain ⟨x, y, r, rfl, rfl, rfl, rfl, rfl⟩ := x_g_bl h; intro _ _; rfl
  case pop =>
    unfold x_st x_K at h
    dsimp only at h
    split at h
    · obtain ⟨-, h2⟩ := x_g_cond h; cases h2; intro _ _; rfl
    · cases h
  case dup =>
    unfold x_st x_K at h
    dsimp only at h
    split at h
    · obtain ⟨-, h2⟩ := x_g_cond h; cases h2; intro _ _; rfl
    · cases h
  case dup2 =>
    unfold x_st x_K at h
    dsimp only at h
    split at h
    · obtain ⟨-, h2⟩ := x_g_cond h; cases h2; intro _ _; rfl
    · cases h
  case if_icmp cd o =>
    unfold x_st x_K at h
    dsimp only at h
    split at h
    · split at h
      · unfold x_br at h
        cases cd <;> dsimp only at h <;> split at h <;> cases h <;> intro _ _ <;> rfl
      · cases h
    · cases h
  case ifCond cd o =>
    unfold x_st x_K at h
    dsimp only at h
    split at h
    · split at h
      · unfold x_br at h
        cases cd <;> dsimp only at h <;> split at h <;> cases h <;> intro _ _ <;> rfl
      · cases h
    · cases h
  case tableswitch df lo hi offs =>
    unfold x_st x_K at h
    dsimp only at h
    split at h
    · split at h
      · obtain ⟨⟨-, -, rfl⟩, -⟩ := x_g_tsw _ _ h
        intro _ _; rfl
      · cases h
    · cases h
  case lookupswitch df ps =>
    unfold x_st x_K at h
    dsimp only at h
    split at h
    · split at h
      · have e := x_lsw_keep _ h
        subst e
        intro _ _; rfl
      · cases h
    · cases h
  case getfield idx =>
    unfold x_st x_K at h
    dsimp only at h
    split at h
    · unfold x_get at h
      split at h
      · split at h
        · obtain ⟨-, h2⟩ := x_g_condO h
          split at h2 <;> cases h2 <;> intro _ _ <;> rfl
        · cases h
      · cases h
    · cases h
  case putfield idx =>
    unfold x_st x_K at h
    dsimp only at h
    split at h
    · unfold x_put at h
      split at h
      · split at h
        · next hs =>
          obtain ⟨-, h2⟩ := x_g_condO h
          split at h2
          · cases h2
            exact x_up_keep (fun ⟨_, _, _, z, _⟩ => by rw [hs] at z; cases z)
          · cases h2
        · cases h
      · cases h
    · cases h
  case iaload =>
    have e := x_ald_keep h
    subst e
    intro _ _; rfl
  case caload =>
    have e := x_ald_keep h
    subst e
    intro _ _; rfl
  case iastore =>
    have h : x_ast sh none (fun a b c d => some (Sum.inl (a, b, c, d) : xO)) pc ls st M 0 (fun x => x) = some (.inl (pc', ls', st', M')) := h
    unfold x_ast at h
    split at h
    · split at h
      · next hs =>
        obtain ⟨h1, h2⟩ := x_g_condO h
        have e := x_beq h1
        split at h2
        · cases h2
        · cases h2
          exact x_up_keep (fun ⟨_, _, _, z, z2⟩ => by rw [hs] at z; cases z; omega)
      · cases h
    · cases h
  case castore =>
    have h : x_ast sh none (fun a b c d => some (Sum.inl (a, b, c, d) : xO)) pc ls st M 1 (fun x => vp_nar .char x) = some (.inl (pc', ls', st', M')) := h
    unfold x_ast at h
    split at h
    · split at h
      · next hs =>
        obtain ⟨h1, h2⟩ := x_g_condO h
        have e := x_beq h1
        split at h2
        · cases h2
        · cases h2
          exact x_up_keep (fun ⟨_, _, _, z, z2⟩ => by rw [hs] at z; cases z; omega)
      · cases h
    · cases h
  case aaload =>
    have h : x_aal sh none (fun a b c d => some (Sum.inl (a, b, c, d) : xO)) pc ls st M = some (.inl (pc', ls', st', M')) := h
    unfold x_aal at h
    split at h
    · split at h
      · obtain ⟨-, h2⟩ := x_g_condO h
        split at h2
        · cases h2
        · split at h2 <;> cases h2
          intro _ _; rfl
      · cases h
    · cases h
  case arraylength =>
    have e := x_aln_keep h
    subst e
    intro _ _; rfl
  case invokestatic idx =>
    unfold x_st x_K at h
    dsimp only at h
    split at h
    · unfold x_cpy at h
      split at h
      · split at h
        · next hs0 hs1 =>
          obtain ⟨h1, h2⟩ := x_g_condO h
          simp only [Bool.and_eq_true] at h1
          have e1 := x_beq h1.1.2
          split at h2
          · cases h2
          · cases h2
            exact x_up_keep (fun ⟨_, _, _, z, z2⟩ => by rw [hs1] at z; cases z; omega)
        · cases h
      · cases h
    · unfold x_mm at h
      split at h
      · obtain ⟨-, h2⟩ := x_g_cond h
        cases h2
        intro _ _; rfl
      · cases h
    · unfold x_cas at h
      split at h
      · obtain ⟨-, h2⟩ := x_g_cond h
        cases h2
      · cases h
    · cases h
  case invokevirtual idx =>
    unfold x_st x_K at h
    dsimp only at h
    split at h
    · unfold x_cav at h
      split at h
      · split at h
        · obtain ⟨-, h2⟩ := x_g_cond h
          cases h2
        · cases h
      · cases h
    · cases h
  all_goals first
    | (cases h; intro _ _; rfl)
    | (unfold x_st x_K at h; dsimp only at h; split at h <;> first | (cases h; done) | (cases h; intro _ _; rfl) | (split at h <;> first | (cases h; done) | (cases h; intro _ _; rfl) | (split at h <;> cases h)))
    | (cases h; done)
theorem x_ev_keep {sh : xH} : ∀ (n : Nat) {mi pc : Nat} {ls : xS} {st : List Value} {M : xM} {r : Int32 × xM}, x_ev sh n mi pc ls st M = some r → ∀ a, x_ro sh a → r.2 a = M a
  | 0, _, _, _, _, _, _, h => by cases h
  | n + 1, mi, pc, ls, st, M, r, h => by
    rw [x_ev_s, x_B_ap] at h
    cases hc : x_co mi pc with
    | none => rw [hc] at h; cases h
    | some i =>
      rw [hc] at h
      have h : x_ap (x_ev sh n) (x_ev sh n) mi pc ls M (x_st sh pc ls st M i) = some r := h
      intro a ha
      cases ho : x_st sh pc ls st M i with
      | none => rw [ho] at h; cases h
      | some o =>
        rw [ho] at h
        rcases o with ⟨a1, b1, c1, d1⟩ | v | ⟨cm, ml, As, rr, v⟩
        · have h1 := x_ev_keep n (show x_ev sh n mi a1 b1 c1 d1 = some r from h) a ha
          rw [h1]
          exact x_st_keep ho a ha
        · cases h; rfl
        · obtain ⟨q, h1, h2⟩ := Option.bind_eq_some_iff.mp (show (x_ev sh n cm 0 (x_ent ml As) [] M).bind (fun q => x_ev sh n mi (pc + 3) ls (cond v rr (.int q.1 :: rr)) q.2) = some r from h)
          have k1 := x_ev_keep n h1 a ha
          have k2 := x_ev_keep n h2 a ha
          rw [k2, k1]
