/-! the memory's instructions of the pure machine, on the machine -/
section
variable {l : Launch} {sh : xH} {nc : Nat} {ad : Nat → Nat} {aC : Nat → ClassId} {D : va_G} {p : Program} {e : Env} {R : Room} {s : State} {m : MethodId} {args : Array Value} {below : List Frame} {meth : Method} {c : Code} {cells slots : Nat} {Q : State → Prop} {A : Nat → Prop} {mi : Nat}
theorem x_beq {a b : Nat} (h : Nat.beq a b = true) : a = b := Nat.eq_of_beq_eq_true h
theorem x_fl_at {lk cn idx ci k w : Nat} (h : x_fl[lk]? = some (cn, idx, ci, k, w)) : ∃ r : vw_C, x_cls[ci]? = some r ∧ k < r.2.2 ∧ Cond.fieldLink (x_R cn) idx (r.2.1 k).1 (r.2.1 k).2.1 (r.2.1 k).2.2.1 ∈ xT ∧ (w = 1 → (r.2.1 k).2.2.2 = false ∧ parseFieldDescriptor (r.2.1 k).2.2.1 = some .int) := x_allP_at x_fl_ok h
theorem x_cl_at {ci : Nat} {r : vw_C} (h : x_cls[ci]? = some r) : (∀ w ∈ u_ws r.1 r.2.1 r.2.2, w ∈ xT) ∧ (∃ ty : Nat → FieldType, ∀ k, k < r.2.2 → parseFieldDescriptor (r.2.1 k).2.2.1 = some (ty k)) ∧ (∀ a, a < r.2.2 → ∀ b, b < r.2.2 → a ≠ b → (r.2.1 a).2.1 ≠ (r.2.1 b).2.1) := x_allP_at x_cls_ok h
theorem x_s_get (F : x_Fr sh nc ad aC D p R s m args c cells slots A mi) {pc ci k lk idx w : Nat} {ls ls' : xS} {st st' : List Value} {M M' : xM} {pc' : Nat} (hd : decode (x_by mi) pc = .ok (.getfield idx, 3)) (hlk : x_fl[lk]? = some (x_cn mi, idx, ci, k, w))
    (h : x_get sh none (fun a b c d => some (Sum.inl (a, b, c, d) : xO)) pc ls st M ci k = some (.inl (pc', ls', st', M')))
    (kk : x_G l sh nc ad aC D p e R s m args below meth c cells slots Q A mi pc' ls' st' M') : x_G l sh nc ad aC D p e R s m args below meth c cells slots Q A mi pc ls st M := by
  obtain ⟨⟨hx, hb, hml, hown, hts⟩, -, hsh, hinj, hA, hK⟩ := F
  obtain ⟨r, hr, hkN, hlink, -⟩ := x_fl_at hlk
  obtain ⟨hlay, -, -⟩ := x_cl_at hr
  intro H locs lsR hL hP hS
  unfold x_get at h
  split at h
  · next a rest =>
    split at h
    · next c0 fs hs =>
      obtain ⟨h1, h2⟩ := x_g_condO h
      have hc0 := x_beq h1
      subst hc0
      have hk : a < nc := hsh.1 a _ hs
      have he : (x_w sh nc ad aC M)[a]? = some (ad a, .inr (c0, fs.mapIdx (fun j f => x_fv ad (M a j) f))) := by rw [x_w_at hk, x_ce_o hs]
      split at h2
      · next t hf =>
        cases h2
        exact va_get (own := x_R (x_cn mi)) (ref := (r.2.1 k).1) (C := r.1) (T := r.2.1) (N := r.2.2) hx hb hts hlay hown hK.1 hP a he hr k hkN (hts _ hlink) (fun _ h => h) (v := .ref (ad t)) (by rw [List.getElem?_mapIdx, hf]; rfl) hd (kk H locs lsR hL hP hS)
      · next y hf =>
        cases h2
        exact va_get (own := x_R (x_cn mi)) (ref := (r.2.1 k).1) (C := r.1) (T := r.2.1) (N := r.2.2) hx hb hts hlay hown hK.1 hP a he hr k hkN (hts _ hlink) (fun _ h => h) (v := .int (M a k)) (by rw [List.getElem?_mapIdx, hf]; rfl) hd (kk H locs lsR hL hP hS)
      · cases h2
    · cases h
  · cases h
theorem x_s_put (F : x_Fr sh nc ad aC D p R s m args c cells slots A mi) {pc ci k lk idx : Nat} {ls ls' : xS} {st st' : List Value} {M M' : xM} {pc' : Nat} (hd : decode (x_by mi) pc = .ok (.putfield idx, 3)) (hlk : x_fl[lk]? = some (x_cn mi, idx, ci, k, 1))
    (h : x_put sh none (fun a b c d => some (Sum.inl (a, b, c, d) : xO)) pc ls st M ci k = some (.inl (pc', ls', st', M')))
    (kk : x_G l sh nc ad aC D p e R s m args below meth c cells slots Q A mi pc' ls' st' M') : x_G l sh nc ad aC D p e R s m args below meth c cells slots Q A mi pc ls st M := by
  obtain ⟨⟨hx, hb, hml, hown, hts⟩, -, hsh, hinj, hA, hK⟩ := F
  obtain ⟨r, hr, hkN, hlink, hw⟩ := x_fl_at hlk
  obtain ⟨hfin, hpd⟩ := hw rfl
  obtain ⟨hlay, ⟨ty, hty⟩, hnm⟩ := x_cl_at hr
  intro H locs lsR hL hP hS
  unfold x_put at h
  split at h
  · next x a rest =>
    split at h
    · next c0 fs hs =>
      obtain ⟨h1, h2⟩ := x_g_condO h
      have hc0 := x_beq h1
      subst hc0
      have hk : a < nc := hsh.1 a _ hs
      have he : (x_w sh nc ad aC M)[a]? = some (ad a, .inr (c0, fs.mapIdx (fun j f => x_fv ad (M a j) f))) := by rw [x_w_at hk, x_ce_o hs]
      split at h2
      · next y hf =>
        cases h2
        have hl : k < (fs.mapIdx (fun j f => x_fv ad (M a j) f)).length := by rw [List.length_mapIdx]; exact (List.getElem?_eq_some_iff.mp hf).1
        refine va_put (own := x_R (x_cn mi)) (ref := (r.2.1 k).1) (C := r.1) (T := r.2.1) (N := r.2.2) (A := A) hx hb hts hlay ty hty hnm hown hK.1 hP (x_D hinj hA) hS a he hr k hkN (hts _ hlink) (fun _ h => h) hfin (ty := .int) (v := .int x) hpd rfl rfl hl hd (fun H1 locs1 hP1 _ hS1 => ?_)
        rw [x_w_setO hk hs hf] at hP1
        exact kk H1 locs1 lsR hL hP1 hS1
      · cases h2
    · cases h
  · cases h
theorem x_s_ald (F : x_Fr sh nc ad aC D p R s m args c cells slots A mi) {pc : Nat} {ls ls' : xS} {st st' : List Value} {M M' : xM} {pc' : Nat} (hX : x_Xp sh ad A M s s.heap) (hd : decode (x_by mi) pc = .ok (.iaload, 1))
    (h : x_ald sh none (fun a b c d => some (Sum.inl (a, b, c, d) : xO)) pc ls st M 0 = some (.inl (pc', ls', st', M')))
    (kk : x_G l sh nc ad aC D p e R s m args below meth c cells slots Q A mi pc' ls' st' M') : x_G l sh nc ad aC D p e R s m args below meth c cells slots Q A mi pc ls st M := by
  obtain ⟨⟨hx, hb, hml, hown, hts⟩, -, hsh, hinj, hA, hK⟩ := F
  intro H locs lsR hL hP hS
  unfold x_ald at h
  split at h
  · next i a rest =>
    split at h
    · next ty n rs hs =>
      cases hb0 : Nat.beq ty 0 with
      | true =>
        rw [hb0] at h
        have hty := x_beq hb0
        subst hty
        have hk : a < nc := hsh.2.1 a _ _ _ hs (by omega)
        have h : (if i < 0 ∨ n ≤ i.toNatClampNeg then none else some (Sum.inl (pc + 1, ls, .int (M a i.toNatClampNeg) :: rest, M) : xO)) = some (.inl (pc', ls', st', M')) := h
        split at h
        · cases h
        · next hin =>
          cases h
          exact va_iald hx hb (hK.arr hk hs (by omega)) hP a 0 (by rw [x_w_at hk, x_ce_a hs (by omega)]) rfl hin hd (kk H locs lsR hL hP hS)
      | false =>
        rw [hb0] at h
        obtain ⟨h1, h2⟩ := x_g_condO (show cond (Nat.beq ty 3 && Nat.beq 0 0) (if i < 0 ∨ (M 98 0).toNatClampNeg ≤ i.toNatClampNeg then none else some (Sum.inl (pc + 1, ls, .int (M a i.toNatClampNeg) :: rest, M) : xO)) none = some (.inl (pc', ls', st', M')) from h)
        simp only [Bool.and_eq_true] at h1
        have hty := x_beq h1.1
        subst hty
        obtain ⟨hX1, hX2, hX3, -⟩ := hX a n rs hs
        split at h2
        · cases h2
        · next hin =>
          cases h2
          exact va_sld hx hb hX1 hX2 hX3 hS hin hd (kk H locs lsR hL hP hS)
    · cases h
  · cases h
theorem x_s_cald (F : x_Fr sh nc ad aC D p R s m args c cells slots A mi) {pc : Nat} {ls ls' : xS} {st st' : List Value} {M M' : xM} {pc' : Nat} (hd : decode (x_by mi) pc = .ok (.caload, 1))
    (h : x_ald sh none (fun a b c d => some (Sum.inl (a, b, c, d) : xO)) pc ls st M 1 = some (.inl (pc', ls', st', M')))
    (kk : x_G l sh nc ad aC D p e R s m args below meth c cells slots Q A mi pc' ls' st' M') : x_G l sh nc ad aC D p e R s m args below meth c cells slots Q A mi pc ls st M := by
  obtain ⟨⟨hx, hb, hml, hown, hts⟩, -, hsh, hinj, hA, hK⟩ := F
  intro H locs lsR hL hP hS
  unfold x_ald at h
  split at h
  · next i a rest =>
    split at h
    · next ty n rs hs =>
      cases hb0 : Nat.beq ty 1 with
      | true =>
        rw [hb0] at h
        have hty := x_beq hb0
        subst hty
        have hk : a < nc := hsh.2.1 a _ _ _ hs (by omega)
        have h : (if i < 0 ∨ n ≤ i.toNatClampNeg then none else some (Sum.inl (pc + 1, ls, .int (M a i.toNatClampNeg) :: rest, M) : xO)) = some (.inl (pc', ls', st', M')) := h
        split at h
        · cases h
        · next hin =>
          cases h
          exact va_cald hx hb (hK.arr hk hs (by omega)) hP a 0 (by rw [x_w_at hk, x_ce_a hs (by omega)]) rfl hin hd (kk H locs lsR hL hP hS)
      | false =>
        rw [hb0] at h
        obtain ⟨h1, h2⟩ := x_g_condO (show cond (Nat.beq ty 3 && Nat.beq 1 0) (if i < 0 ∨ (M 98 0).toNatClampNeg ≤ i.toNatClampNeg then none else some (Sum.inl (pc + 1, ls, .int (M a i.toNatClampNeg) :: rest, M) : xO)) none = some (.inl (pc', ls', st', M')) from h)
        simp only [Bool.and_eq_true] at h1
        exact absurd h1.2 (by decide)
    · cases h
  · cases h
theorem x_s_ast (F : x_Fr sh nc ad aC D p R s m args c cells slots A mi) {pc : Nat} {ls ls' : xS} {st st' : List Value} {M M' : xM} {pc' : Nat} (hd : decode (x_by mi) pc = .ok (.iastore, 1))
    (h : x_ast sh none (fun a b c d => some (Sum.inl (a, b, c, d) : xO)) pc ls st M 0 (fun x => x) = some (.inl (pc', ls', st', M')))
    (kk : x_G l sh nc ad aC D p e R s m args below meth c cells slots Q A mi pc' ls' st' M') : x_G l sh nc ad aC D p e R s m args below meth c cells slots Q A mi pc ls st M := by
  obtain ⟨⟨hx, hb, hml, hown, hts⟩, -, hsh, hinj, hA, hK⟩ := F
  intro H locs lsR hL hP hS
  unfold x_ast at h
  split at h
  · next x i a rest =>
    split at h
    · next ty n rs hs =>
      obtain ⟨h1, h2⟩ := x_g_condO h
      have hty := x_beq h1
      subst hty
      have hk : a < nc := hsh.2.1 a _ _ _ hs (by omega)
      split at h2
      · cases h2
      · next hin =>
        cases h2
        refine va_iast (A := A) hx hb (hK.arr hk hs (by omega)) hP (x_D hinj hA) hS a 0 (by rw [x_w_at hk, x_ce_a hs (by omega)]) rfl hin hd (fun H1 locs1 hP1 _ hS1 => ?_)
        rw [x_w_setA hk hs (by omega)] at hP1
        exact kk H1 locs1 lsR hL hP1 hS1
    · cases h
  · cases h
theorem x_s_cast (F : x_Fr sh nc ad aC D p R s m args c cells slots A mi) {pc : Nat} {ls ls' : xS} {st st' : List Value} {M M' : xM} {pc' : Nat} (hd : decode (x_by mi) pc = .ok (.castore, 1))
    (h : x_ast sh none (fun a b c d => some (Sum.inl (a, b, c, d) : xO)) pc ls st M 1 (fun x => vp_nar .char x) = some (.inl (pc', ls', st', M')))
    (kk : x_G l sh nc ad aC D p e R s m args below meth c cells slots Q A mi pc' ls' st' M') : x_G l sh nc ad aC D p e R s m args below meth c cells slots Q A mi pc ls st M := by
  obtain ⟨⟨hx, hb, hml, hown, hts⟩, -, hsh, hinj, hA, hK⟩ := F
  intro H locs lsR hL hP hS
  unfold x_ast at h
  split at h
  · next x i a rest =>
    split at h
    · next ty n rs hs =>
      obtain ⟨h1, h2⟩ := x_g_condO h
      have hty := x_beq h1
      subst hty
      have hk : a < nc := hsh.2.1 a _ _ _ hs (by omega)
      split at h2
      · cases h2
      · next hin =>
        cases h2
        refine va_cast (A := A) hx hb (hK.arr hk hs (by omega)) hP (x_D hinj hA) hS a 0 (by rw [x_w_at hk, x_ce_a hs (by omega)]) rfl hin hd (fun H1 locs1 hP1 _ hS1 => ?_)
        rw [x_w_setA hk hs (by omega)] at hP1
        exact kk H1 locs1 lsR hL hP1 hS1
    · cases h
  · cases h
theorem x_s_aal (F : x_Fr sh nc ad aC D p R s m args c cells slots A mi) {pc : Nat} {ls ls' : xS} {st st' : List Value} {M M' : xM} {pc' : Nat} (hd : decode (x_by mi) pc = .ok (.aaload, 1))
    (h : x_aal sh none (fun a b c d => some (Sum.inl (a, b, c, d) : xO)) pc ls st M = some (.inl (pc', ls', st', M')))
    (kk : x_G l sh nc ad aC D p e R s m args below meth c cells slots Q A mi pc' ls' st' M') : x_G l sh nc ad aC D p e R s m args below meth c cells slots Q A mi pc ls st M := by
  obtain ⟨⟨hx, hb, hml, hown, hts⟩, -, hsh, hinj, hA, hK⟩ := F
  intro H locs lsR hL hP hS
  unfold x_aal at h
  split at h
  · next i a rest =>
    split at h
    · next ty n rs hs =>
      obtain ⟨h1, h2⟩ := x_g_condO h
      have hty := x_beq h1
      subst hty
      have hk : a < nc := hsh.2.1 a _ _ _ hs (by omega)
      split at h2
      · cases h2
      · next hin =>
        split at h2
        · next t ht =>
          cases h2
          refine va_aldq hx hb (hK.arr hk hs (by omega)) hP a 0 (by rw [x_w_at hk, x_ce_r hs]) rfl hin hd ?_
          have e1 : va_rf (((rs[i.toNatClampNeg]?).bind x_rn).map ad) = .ref (ad t) := by rw [ht]; rfl
          rw [e1]
          exact kk H locs lsR hL hP hS
        · cases h2
    · cases h
  · cases h
theorem x_s_aln (F : x_Fr sh nc ad aC D p R s m args c cells slots A mi) {pc : Nat} {ls ls' : xS} {st st' : List Value} {M M' : xM} {pc' : Nat} (hX : x_Xp sh ad A M s s.heap) (hd : decode (x_by mi) pc = .ok (.arraylength, 1))
    (h : x_aln sh none (fun a b c d => some (Sum.inl (a, b, c, d) : xO)) pc ls st M = some (.inl (pc', ls', st', M')))
    (kk : x_G l sh nc ad aC D p e R s m args below meth c cells slots Q A mi pc' ls' st' M') : x_G l sh nc ad aC D p e R s m args below meth c cells slots Q A mi pc ls st M := by
  obtain ⟨⟨hx, hb, hml, hown, hts⟩, -, hsh, hinj, hA, hK⟩ := F
  intro H locs lsR hL hP hS
  unfold x_aln at h
  split at h
  · next a rest =>
    split at h
    · next ty n rs hs =>
      cases hb0 : Nat.blt ty 3 with
      | true =>
        rw [hb0] at h
        have hty := x_blt hb0
        have hk : a < nc := hsh.2.1 a _ _ _ hs hty
        cases h
        by_cases h2 : ty = 2
        · subst h2
          exact va_alen (x := (n, .inr (.inr (.inr (.inr (fun j => ((rs[j]?).bind x_rn).map ad)))))) (v := Int32.ofNat n) hx hb (hK.arr hk hs (by omega)) hP a 0 (by rw [x_w_at hk, x_ce_r hs]) rfl rfl hd (kk H locs lsR hL hP hS)
        · exact va_alen (x := (n, .inl (M a))) (v := Int32.ofNat n) hx hb (hK.arr hk hs hty) hP a 0 (by rw [x_w_at hk, x_ce_a hs h2]) rfl rfl hd (kk H locs lsR hL hP hS)
      | false =>
        rw [hb0] at h
        obtain ⟨h1, h2⟩ := x_g_cond (show cond (Nat.beq ty 3) (some (Sum.inl (pc + 1, ls, .int (M 98 0) :: rest, M) : xO)) none = some (.inl (pc', ls', st', M')) from h)
        cases h2
        have hty := x_beq h1
        subst hty
        obtain ⟨hX1, hX2, hX3, hX4⟩ := hX a n rs hs
        refine va_slen hx hb hX1 hX2 hX3 hS hd ?_
        rw [hX4]
        exact kk H locs lsR hL hP hS
    · cases h
  · cases h
theorem x_s_mm (F : x_Fr sh nc ad aC D p R s m args c cells slots A mi) {pc w lk idx : Nat} {ls ls' : xS} {st st' : List Value} {M M' : xM} {pc' : Nat} (h1k : 1 ≤ x_rk mi) (hd : decode (x_by mi) pc = .ok (.invokestatic idx, 3)) (hlk : x_xl[lk]? = some (x_cn mi, idx, w))
    (h : x_mm none (fun a b c d => some (Sum.inl (a, b, c, d) : xO)) pc ls st M w = some (.inl (pc', ls', st', M')))
    (kk : x_G l sh nc ad aC D p e R s m args below meth c cells slots Q A mi pc' ls' st' M') : x_G l sh nc ad aC D p e R s m args below meth c cells slots Q A mi pc ls st M := by
  obtain ⟨⟨hx, hb, hml, hown, hts⟩, ⟨hr1, hr2, hr3, hr4⟩, hsh, hinj, hA, hK⟩ := F
  intro H locs lsR hL hP hS
  have hl : x_xlP lk (x_cn mi, idx, w) := x_allP_at x_xl_ok hlk
  unfold x_mm at h
  split at h
  · next y x rest =>
    obtain ⟨h1, h2⟩ := x_g_cond h
    cases h2
    have hc8 := Nat.le_of_ble_eq_true h1
    have hcat : ((rest.map (x_rv ad)).map fun v => v.category) = rest.map fun v => v.category := by
      rw [List.map_map]
      exact List.map_congr_left (fun v _ => x_rv_cat ad v)
    rcases hl with ⟨e0, hl⟩ | ⟨e0, hl⟩
    · have e0 : w = 0 := e0
      subst e0
      exact va_mmax hx hb (by rw [hml]; exact hL.2.1.symm) hown (hts _ hl) (hts _ x_max_s) (hts _ x_math_i) (hts _ x_max_c) (by omega) (by rw [hcat]; omega) hr3 hr4 hd (kk H locs lsR hL hP hS)
    · have e0 : w = 1 := e0
      subst e0
      exact va_mmin hx hb (by rw [hml]; exact hL.2.1.symm) hown (hts _ hl) (hts _ x_min_s) (hts _ x_math_i) (hts _ x_min_c) (by omega) (by rw [hcat]; omega) hr3 hr4 hd (kk H locs lsR hL hP hS)
  · cases h
theorem x_s_cpy (F : x_Fr sh nc ad aC D p R s m args c cells slots A mi) {pc lk idx : Nat} {ls ls' : xS} {st st' : List Value} {M M' : xM} {pc' : Nat} (h1k : 1 ≤ x_rk mi) (hd : decode (x_by mi) pc = .ok (.invokestatic idx, 3)) (hlk : x_al[lk]? = some (x_cn mi, idx))
    (h : x_cpy sh none (fun a b c d => some (Sum.inl (a, b, c, d) : xO)) pc ls st M = some (.inl (pc', ls', st', M')))
    (kk : x_G l sh nc ad aC D p e R s m args below meth c cells slots Q A mi pc' ls' st' M') : x_G l sh nc ad aC D p e R s m args below meth c cells slots Q A mi pc ls st M := by
  obtain ⟨⟨hx, hb, hml, hown, hts⟩, ⟨hr1, hr2, hr3, hr4⟩, hsh, hinj, hA, hK⟩ := F
  intro H locs lsR hL hP hS
  have hl : x_alP lk (x_cn mi, idx) := x_allP_at x_al_ok hlk
  unfold x_cpy at h
  split at h
  · next n dp d sp a rest =>
    split at h
    · next t0 n0 rs0 t1 n1 rs1 hs0 hs1 =>
      obtain ⟨h1, h2⟩ := x_g_condO h
      simp only [Bool.and_eq_true] at h1
      obtain ⟨⟨h10, h11⟩, h12⟩ := h1
      have e0 := x_beq h10
      have e1 := x_beq h11
      subst e0; subst e1
      have hc8 := Nat.le_of_ble_eq_true h12
      have hcat : ((rest.map (x_rv ad)).map fun v => v.category) = rest.map fun v => v.category := by
        rw [List.map_map]
        exact List.map_congr_left (fun v _ => x_rv_cat ad v)
      have hka : a < nc := hsh.2.1 a _ _ _ hs0 (by omega)
      have hkd : d < nc := hsh.2.1 d _ _ _ hs1 (by omega)
      split at h2
      · cases h2
      · next hin =>
        cases h2
        have hK2 : va_K D x_cls [(aC a, .int), (aC d, .int)] s := (hK.arr hka hs0 (by omega)).app (hK.arr hkd hs1 (by omega))
        refine va_copyi (A := A) (own := x_R (x_cn mi)) hx hb (by rw [hml]; exact hL.2.1.symm) hown (hts _ hl) (hts _ x_ac_n) (hts _ x_ac_s) (hts _ x_ac_i) hK2 hP (x_D hinj hA) hS a d 0 1 (by rw [x_w_at hka, x_ce_a hs0 (by omega)]) (by rw [x_w_at hkd, x_ce_a hs1 (by omega)]) rfl rfl rfl (fun z => hin (Or.inl z)) (fun z => hin (Or.inr (Or.inl z))) (fun z => hin (Or.inr (Or.inr (Or.inl z)))) (Nat.not_lt.mp fun z => hin (Or.inr (Or.inr (Or.inr (Or.inl z))))) (Nat.not_lt.mp fun z => hin (Or.inr (Or.inr (Or.inr (Or.inr z))))) (fun _ _ => rfl) (by omega) (by rw [hcat, show nativeFrameWords "java/lang/System" "arraycopy" 5 = 7 by decide +kernel]; omega) hd (fun H1 locs1 hP1 _ hS1 => ?_)
        rw [x_w_setA hkd hs1 (by omega)] at hP1
        exact kk H1 locs1 lsR hL hP1 hS1
    · cases h
  · cases h
end
