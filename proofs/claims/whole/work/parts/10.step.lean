/-! one instruction of the pure machine, on the machine -/
theorem x_chk_dec {mi pc : Nat} {i : xI} (h : x_chk mi pc i = true) : (∃ n, decode (x_by mi) pc = .ok (i.1, n) ∧ (x_isw i.1 = true ∨ n = x_ln i.1)) ∧ x_aux mi pc i = true ∧ 1 ≤ x_rk mi := by
  unfold x_chk at h
  simp only [Bool.and_eq_true] at h
  obtain ⟨⟨h1, h2⟩, h3⟩ := h
  refine ⟨?_, h2, Nat.le_of_ble_eq_true h3⟩
  cases hd : decode (x_by mi) pc with
  | error e => rw [hd] at h1; cases h1
  | ok q =>
    obtain ⟨j, n⟩ := q
    rw [hd] at h1
    simp only [Bool.and_eq_true, decide_eq_true_eq, Bool.or_eq_true] at h1
    obtain ⟨e, h4⟩ := h1
    subst e
    exact ⟨n, rfl, h4.imp id Nat.eq_of_beq_eq_true⟩
theorem x_dec {mi pc : Nat} {i : Instr} {a : List Nat} (h : x_co mi pc = some (i, a)) (hs : x_isw i = false) : decode (x_by mi) pc = .ok (i, x_ln i) := by
  obtain ⟨⟨n, h1, h2⟩, -⟩ := x_chk_dec (x_ok h)
  rcases h2 with h2 | h2
  · rw [show x_isw i = true from h2] at hs; cases hs
  · rw [h1, h2]
theorem x_auxok {mi pc : Nat} {i : xI} (h : x_co mi pc = some i) : x_aux mi pc i = true := (x_chk_dec (x_ok h)).2.1
section
variable {l : Launch} {sh : xH} {nc : Nat} {ad : Nat → Nat} {aC : Nat → ClassId} {D : va_G} {p : Program} {e : Env} {R : Room} {s : State} {m : MethodId} {args : Array Value} {below : List Frame} {meth : Method} {c : Code} {cells slots : Nat} {Q : State → Prop} {A : Nat → Prop} {mi : Nat}
/-- from this place on all is well -/
def x_G (l : Launch) (sh : xH) (nc : Nat) (ad : Nat → Nat) (aC : Nat → ClassId) (D : va_G) (p : Program) (e : Env) (R : Room) (s : State) (m : MethodId) (args : Array Value) (below : List Frame) (meth : Method) (c : Code) (cells slots : Nat) (Q : State → Prop) (A : Nat → Prop) (mi pc : Nat) (ls : xS) (st : List Value) (M : xM) : Prop :=
  ∀ (H : Heap) (locs : List Loc) (lsR : Array Slot), x_L ad lsR (x_ml mi) ls → va_P D x_cls (x_w sh nc ad aC M) H → va_S A s.heap H locs → W p l e R s m args below meth c H locs cells slots Q (F0 m pc lsR (st.map (x_rv ad)))
/-- what a frame knows -/
def x_Fr (sh : xH) (nc : Nat) (ad : Nat → Nat) (aC : Nat → ClassId) (D : va_G) (p : Program) (R : Room) (s : State) (m : MethodId) (args : Array Value) (c : Code) (cells slots : Nat) (A : Nat → Prop) (mi : Nat) : Prop :=
  (p.tables.exec = Jvm.exec ∧ c.code = x_by mi ∧ c.maxLocals = x_ml mi ∧ s.vm.findClass (x_R (x_cn mi)) = some m.cls ∧ ∀ w ∈ xT, w.before args s = true) ∧ (x_rk mi ≤ R.frames ∧ 60 * x_rk mi ≤ R.locals ∧ cells ≤ R.cells ∧ slots ≤ R.slots) ∧ x_shok sh nc ∧ x_inj ad nc ∧ (∀ k, k < nc → A (ad k)) ∧ x_Kp sh nc aC D s
theorem x_g_ldi {pc i n : Nat} {ls ls' : xS} {st st' : List Value} {M M' : xM} {pc' : Nat} (h : x_ldi none (fun a b c d => some (Sum.inl (a, b, c, d) : xO)) pc ls st M i n = some (.inl (pc', ls', st', M'))) : ∃ x, ls[i]? = some (some (.int x)) ∧ pc' = pc + n ∧ ls' = ls ∧ st' = .int x :: st ∧ M' = M := by
  unfold x_ldi at h
  split at h
  · next x hx => cases h; exact ⟨x, hx, rfl, rfl, rfl, rfl⟩
  · cases h
theorem x_g_ldl {pc i n : Nat} {ls ls' : xS} {st st' : List Value} {M M' : xM} {pc' : Nat} (h : x_ldl none (fun a b c d => some (Sum.inl (a, b, c, d) : xO)) pc ls st M i n = some (.inl (pc', ls', st', M'))) : ∃ x, ls[i]? = some (some (.long x)) ∧ pc' = pc + n ∧ ls' = ls ∧ st' = .long x :: st ∧ M' = M := by
  unfold x_ldl at h
  split at h
  · next x hx => cases h; exact ⟨x, hx, rfl, rfl, rfl, rfl⟩
  · cases h
theorem x_g_lda {pc i n : Nat} {ls ls' : xS} {st st' : List Value} {M M' : xM} {pc' : Nat} (h : x_lda none (fun a b c d => some (Sum.inl (a, b, c, d) : xO)) pc ls st M i n = some (.inl (pc', ls', st', M'))) : ∃ x, ls[i]? = some (some (.ref x)) ∧ pc' = pc + n ∧ ls' = ls ∧ st' = .ref x :: st ∧ M' = M := by
  unfold x_lda at h
  split at h
  · next x hx => cases h; exact ⟨x, hx, rfl, rfl, rfl, rfl⟩
  · cases h
theorem x_blt {a b : Nat} (h : Nat.blt a b = true) : a < b := Nat.le_of_ble_eq_true h
theorem x_g_cond {α : Type} {b : Bool} {x : α} {r : α} (h : cond b (some x) none = some r) : b = true ∧ x = r := by
  cases b with
  | true => cases h; exact ⟨rfl, rfl⟩
  | false => cases h
theorem x_g_condO {α : Type} {b : Bool} {x : Option α} {r : α} (h : cond b x none = some r) : b = true ∧ x = some r := by
  cases b with
  | true => exact ⟨rfl, h⟩
  | false => cases h
theorem x_g_sti {pc i n : Nat} {ls ls' : xS} {st st' : List Value} {M M' : xM} {pc' : Nat} (h : x_sti none (fun a b c d => some (Sum.inl (a, b, c, d) : xO)) pc ls st M i n = some (.inl (pc', ls', st', M'))) : ∃ x, i < ls.length ∧ st = .int x :: st' ∧ pc' = pc + n ∧ ls' = x_st1 ls i (.int x) ∧ M' = M := by
  unfold x_sti at h
  split at h
  · next x r => obtain ⟨h1, h2⟩ := x_g_cond h; cases h2; exact ⟨x, x_blt h1, rfl, rfl, rfl, rfl⟩
  · cases h
theorem x_g_stl {pc i n : Nat} {ls ls' : xS} {st st' : List Value} {M M' : xM} {pc' : Nat} (h : x_stl none (fun a b c d => some (Sum.inl (a, b, c, d) : xO)) pc ls st M i n = some (.inl (pc', ls', st', M'))) : ∃ x, i + 1 < ls.length ∧ st = .long x :: st' ∧ pc' = pc + n ∧ ls' = x_st2 ls i (.long x) ∧ M' = M := by
  unfold x_stl at h
  split at h
  · next x r => obtain ⟨h1, h2⟩ := x_g_cond h; cases h2; exact ⟨x, x_blt h1, rfl, rfl, rfl, rfl⟩
  · cases h
theorem x_g_sta {pc i n : Nat} {ls ls' : xS} {st st' : List Value} {M M' : xM} {pc' : Nat} (h : x_sta none (fun a b c d => some (Sum.inl (a, b, c, d) : xO)) pc ls st M i n = some (.inl (pc', ls', st', M'))) : ∃ x, i < ls.length ∧ st = .ref x :: st' ∧ pc' = pc + n ∧ ls' = x_st1 ls i (.ref x) ∧ M' = M := by
  unfold x_sta at h
  split at h
  · next x r => obtain ⟨h1, h2⟩ := x_g_cond h; cases h2; exact ⟨x, x_blt h1, rfl, rfl, rfl, rfl⟩
  · cases h
theorem x_g_bi {pc : Nat} {ls ls' : xS} {st st' : List Value} {M M' : xM} {pc' : Nat} {f : Int32 → Int32 → Int32} (h : x_bi none (fun a b c d => some (Sum.inl (a, b, c, d) : xO)) pc ls st M f = some (.inl (pc', ls', st', M'))) : ∃ x y r, st = .int y :: .int x :: r ∧ pc' = pc + 1 ∧ ls' = ls ∧ st' = .int (f x y) :: r ∧ M' = M := by
  unfold x_bi at h
  split at h
  · next y x r => cases h; exact ⟨x, y, r, rfl, rfl, rfl, rfl, rfl⟩
  · cases h
theorem x_g_bl {pc : Nat} {ls ls' : xS} {st st' : List Value} {M M' : xM} {pc' : Nat} {f : Int64 → Int64 → Int64} (h : x_bl none (fun a b c d => some (Sum.inl (a, b, c, d) : xO)) pc ls st M f = some (.inl (pc', ls', st', M'))) : ∃ x y r, st = .long y :: .long x :: r ∧ pc' = pc + 1 ∧ ls' = ls ∧ st' = .long (f x y) :: r ∧ M' = M := by
  unfold x_bl at h
  split at h
  · next y x r => cases h; exact ⟨x, y, r, rfl, rfl, rfl, rfl, rfl⟩
  · cases h
/-- a branch -/
theorem x_s_br (hx : p.tables.exec = Jvm.exec) (hb : c.code = x_by mi) {pc t : Nat} {cd : ClassFile.Cond} {off : Int} {x y : Int32} {r : List Value} {ls : xS} {M : xM} {pc' : Nat} {ls' : xS} {st' : List Value} {M' : xM}
    (hd : decode (x_by mi) pc = .ok (.if_icmp cd off, 3)) (ht : (pc : Int) + off = (t : Int)) (h : x_br (fun a b c d => some (Sum.inl (a, b, c, d) : xO)) pc ls M cd x y t r = some (.inl (pc', ls', st', M')))
    (k : x_G l sh nc ad aC D p e R s m args below meth c cells slots Q A mi pc' ls' st' M') : x_G l sh nc ad aC D p e R s m args below meth c cells slots Q A mi pc ls (.int y :: .int x :: r) M := by
  intro H locs lsR hL hP hS
  unfold x_br at h
  cases cd <;> dsimp only at h <;> split at h <;> cases h
  · next hc => exact lv_icmp_eq hx hb hd ht (fun _ => k H locs lsR hL hP hS) (fun z => absurd hc z)
  · next hc => exact lv_icmp_eq hx hb hd ht (fun z => absurd z hc) (fun _ => k H locs lsR hL hP hS)
  · next hc => exact lv_icmp_ne hx hb hd ht (fun z => absurd hc z) (fun _ => k H locs lsR hL hP hS)
  · next hc => exact lv_icmp_ne hx hb hd ht (fun _ => k H locs lsR hL hP hS) (fun z => absurd z hc)
  · next hc => exact lv_icmp_lt hx hb hd ht (fun _ => k H locs lsR hL hP hS) (fun z => absurd hc z)
  · next hc => exact lv_icmp_lt hx hb hd ht (fun z => absurd z hc) (fun _ => k H locs lsR hL hP hS)
  · next hc => exact lv_icmp_ge hx hb hd ht (fun _ => k H locs lsR hL hP hS) (fun z => absurd hc z)
  · next hc => exact lv_icmp_ge hx hb hd ht (fun z => absurd z hc) (fun _ => k H locs lsR hL hP hS)
  · next hc => exact lv_icmp_gt hx hb hd ht (fun _ => k H locs lsR hL hP hS) (fun z => absurd hc z)
  · next hc => exact lv_icmp_gt hx hb hd ht (fun z => absurd z hc) (fun _ => k H locs lsR hL hP hS)
  · next hc => exact lv_icmp_le hx hb hd ht (fun _ => k H locs lsR hL hP hS) (fun z => absurd hc z)
  · next hc => exact lv_icmp_le hx hb hd ht (fun z => absurd z hc) (fun _ => k H locs lsR hL hP hS)
theorem x_s_br0 (hx : p.tables.exec = Jvm.exec) (hb : c.code = x_by mi) {pc t : Nat} {cd : ClassFile.Cond} {off : Int} {x : Int32} {r : List Value} {ls : xS} {M : xM} {pc' : Nat} {ls' : xS} {st' : List Value} {M' : xM}
    (hd : decode (x_by mi) pc = .ok (.ifCond cd off, 3)) (ht : (pc : Int) + off = (t : Int)) (h : x_br (fun a b c d => some (Sum.inl (a, b, c, d) : xO)) pc ls M cd x 0 t r = some (.inl (pc', ls', st', M')))
    (k : x_G l sh nc ad aC D p e R s m args below meth c cells slots Q A mi pc' ls' st' M') : x_G l sh nc ad aC D p e R s m args below meth c cells slots Q A mi pc ls (.int x :: r) M := by
  intro H locs lsR hL hP hS
  unfold x_br at h
  cases cd <;> dsimp only at h <;> split at h <;> cases h
  · next hc => exact lv_if_eq hx hb hd ht (fun _ => k H locs lsR hL hP hS) (fun z => absurd hc z)
  · next hc => exact lv_if_eq hx hb hd ht (fun z => absurd z hc) (fun _ => k H locs lsR hL hP hS)
  · next hc => exact lv_if_ne hx hb hd ht (fun z => absurd hc z) (fun _ => k H locs lsR hL hP hS)
  · next hc => exact lv_if_ne hx hb hd ht (fun _ => k H locs lsR hL hP hS) (fun z => absurd z hc)
  · next hc => exact lv_if_lt hx hb hd ht (fun _ => k H locs lsR hL hP hS) (fun z => absurd hc z)
  · next hc => exact lv_if_lt hx hb hd ht (fun z => absurd z hc) (fun _ => k H locs lsR hL hP hS)
  · next hc => exact lv_if_ge hx hb hd ht (fun _ => k H locs lsR hL hP hS) (fun z => absurd hc z)
  · next hc => exact lv_if_ge hx hb hd ht (fun z => absurd z hc) (fun _ => k H locs lsR hL hP hS)
  · next hc => exact lv_if_gt hx hb hd ht (fun _ => k H locs lsR hL hP hS) (fun z => absurd hc z)
  · next hc => exact lv_if_gt hx hb hd ht (fun z => absurd z hc) (fun _ => k H locs lsR hL hP hS)
  · next hc => exact lv_if_le hx hb hd ht (fun _ => k H locs lsR hL hP hS) (fun z => absurd hc z)
  · next hc => exact lv_if_le hx hb hd ht (fun z => absurd z hc) (fun _ => k H locs lsR hL hP hS)
/-- switches -/
theorem x_g_tsw {ls : xS} {M : xM} {x : Int32} {d : Nat} {r : List Value} {pc' : Nat} {ls' : xS} {st' : List Value} {M' : xM} : ∀ (ts : List Nat) (k : Nat), x_tsw (fun a b c d => some (Sum.inl (a, b, c, d) : xO)) ls M x d r k ts = some (.inl (pc', ls', st', M')) → (ls' = ls ∧ st' = r ∧ M' = M) ∧ ((pc' = d ∧ ∀ j, j < ts.length → x ≠ Int32.ofNat (k + j)) ∨ ∃ j, ts[j]? = some pc' ∧ x = Int32.ofNat (k + j))
  | [], k, h => by
    cases h
    exact ⟨⟨rfl, rfl, rfl⟩, Or.inl ⟨rfl, fun j hj => absurd hj (Nat.not_lt_zero j)⟩⟩
  | t :: ts, k, h => by
    unfold x_tsw at h
    split at h
    · next hc =>
      cases h
      exact ⟨⟨rfl, rfl, rfl⟩, Or.inr ⟨0, rfl, by rw [Nat.add_zero]; exact hc⟩⟩
    · next hc =>
      obtain ⟨h1, h2⟩ := x_g_tsw ts (k + 1) h
      refine ⟨h1, ?_⟩
      rcases h2 with ⟨h2, h3⟩ | ⟨j, h2, h3⟩
      · refine Or.inl ⟨h2, fun j hj => ?_⟩
        cases j with
        | zero => rw [Nat.add_zero]; exact hc
        | succ j =>
          rw [show k + (j + 1) = k + 1 + j by omega]
          exact h3 j (by simpa using hj)
      · exact Or.inr ⟨j + 1, by rw [List.getElem?_cons_succ]; exact h2, by rw [show k + (j + 1) = k + 1 + j by omega]; exact h3⟩
theorem x_offs_at {pc : Nat} : ∀ (os : List Int) (ts : List Nat), x_offs pc os ts = true → os.length = ts.length ∧ ∀ (j t : Nat), ts[j]? = some t → ∃ o, os[j]? = some o ∧ (pc : Int) + o = (t : Int)
  | [], [], _ => ⟨rfl, fun j t h => by simp at h⟩
  | [], _ :: _, h => by cases h
  | _ :: _, [], h => by cases h
  | o :: os, t :: ts, h => by
    unfold x_offs at h
    simp only [Bool.and_eq_true, decide_eq_true_eq] at h
    obtain ⟨h1, h2⟩ := x_offs_at os ts h.2
    refine ⟨by simp [h1], fun j t' hj => ?_⟩
    cases j with
    | zero =>
      rw [List.getElem?_cons_zero] at hj
      cases hj
      exact ⟨o, rfl, h.1⟩
    | succ j =>
      rw [List.getElem?_cons_succ] at hj ⊢
      exact h2 j t' hj
theorem x_s_tsw (hx : p.tables.exec = Jvm.exec) (hb : c.code = x_by mi) {pc len d : Nat} {dflt lo hi : Int} {offs : Array Int} {ts : List Nat} {x : Int32} {r : List Value} {ls : xS} {M : xM} {pc' : Nat} {ls' : xS} {st' : List Value} {M' : xM}
    (hd : decode (x_by mi) pc = .ok (.tableswitch dflt lo hi offs, len)) (h1 : (pc : Int) + dflt = (d : Int)) (h2 : lo = 0) (h3 : hi + 1 = (ts.length : Int)) (h4 : x_offs pc offs.toList ts = true) (h5 : ts.length < 1000)
    (h : x_tsw (fun a b c d => some (Sum.inl (a, b, c, d) : xO)) ls M x d r 0 ts = some (.inl (pc', ls', st', M')))
    (k : x_G l sh nc ad aC D p e R s m args below meth c cells slots Q A mi pc' ls' st' M') : x_G l sh nc ad aC D p e R s m args below meth c cells slots Q A mi pc ls (.int x :: r) M := by
  intro H locs lsR hL hP hS
  obtain ⟨⟨e1, e2, e3⟩, h6⟩ := x_g_tsw ts 0 h
  subst e1; subst e2; subst e3
  have kk := k H locs lsR hL hP hS
  obtain ⟨ho1, ho2⟩ := x_offs_at _ _ h4
  rcases h6 with ⟨rfl, h6⟩ | ⟨j, h6, h7⟩
  · refine lv_tableOut hx hb hd ?_ h1 kk
    by_cases hlt : x.toInt < lo
    · exact Or.inl hlt
    · refine Or.inr ?_
      by_cases hge : hi < x.toInt
      · exact hge
      · exfalso
        have hn : x = Int32.ofNat (0 + x.toInt.toNat) := by
          rw [Nat.zero_add]
          apply Int32.toInt_inj.mp
          rw [show Int32.ofNat x.toInt.toNat = nI x.toInt.toNat from rfl, nI_toInt (by omega)]
          omega
        exact h6 x.toInt.toNat (by omega) hn
  · rw [Nat.zero_add] at h7
    have hj : j < ts.length := (List.getElem?_eq_some_iff.mp h6).1
    have hxi : x.toInt = (j : Int) := by rw [h7]; exact nI_toInt (by omega)
    obtain ⟨o, ho3, ho4⟩ := ho2 j _ h6
    refine lv_tableIn hx hb hd (by omega) (by omega) (off := o) ?_ ho4 kk
    rw [← Array.getElem?_toList, show (x.toInt - lo).toNat = j by omega]
    exact ho3
theorem x_g_lsw {ls : xS} {M : xM} {x : Int32} {d pc : Nat} {dflt : Int} {r : List Value} {pc' : Nat} {ls' : xS} {st' : List Value} {M' : xM} (hdf : (pc : Int) + dflt = (d : Int)) : ∀ (ps : List (Int × Int)) (ts : List Nat), x_flat pc ps ts = true → x_lsw (fun a b c d => some (Sum.inl (a, b, c, d) : xO)) ls M x d r ts = some (.inl (pc', ls', st', M')) → (ls' = ls ∧ st' = r ∧ M' = M) ∧ (pc : Int) + Op.lookupswitch.offset ps dflt x.toInt = (pc' : Int)
  | [], [], _, h => by
    cases h
    exact ⟨⟨rfl, rfl, rfl⟩, hdf⟩
  | [], [_], h0, _ => by cases h0
  | [], _ :: _ :: _, h0, _ => by cases h0
  | (a, o) :: ps, [], h0, _ => by cases h0
  | (a, o) :: ps, [_], h0, _ => by cases h0
  | (a, o) :: ps, k :: t :: ts, h0, h => by
    unfold x_flat at h0
    simp only [Bool.and_eq_true, decide_eq_true_eq] at h0
    obtain ⟨⟨⟨e1, e2⟩, e3⟩, e4⟩ := h0
    have hk : k < 2147483648 := x_blt e3
    unfold x_lsw at h
    rw [Op.lookupswitch.offset_cons]
    have hT : (Int32.ofNat k).toInt = (k : Int) := nI_toInt (by omega)
    split at h
    · next hc =>
      cases h
      refine ⟨⟨rfl, rfl, rfl⟩, ?_⟩
      rw [if_pos (by rw [hc, hT]; exact e1)]
      exact e2
    · next hc =>
      rw [if_neg (fun z => hc (Int32.toInt_inj.mp (by rw [hT, ← z]; exact e1)))]
      exact x_g_lsw hdf ps ts e4 h
theorem x_s_lsw (hx : p.tables.exec = Jvm.exec) (hb : c.code = x_by mi) {pc len d : Nat} {dflt : Int} {ps : Array (Int × Int)} {ts : List Nat} {x : Int32} {r : List Value} {ls : xS} {M : xM} {pc' : Nat} {ls' : xS} {st' : List Value} {M' : xM}
    (hd : decode (x_by mi) pc = .ok (.lookupswitch dflt ps, len)) (h1 : (pc : Int) + dflt = (d : Int)) (h2 : x_flat pc ps.toList ts = true) (h3 : (ps.toList.zip (ps.toList.drop 1)).all (fun (a, next) => a.1 < next.1) = true)
    (h : x_lsw (fun a b c d => some (Sum.inl (a, b, c, d) : xO)) ls M x d r ts = some (.inl (pc', ls', st', M')))
    (k : x_G l sh nc ad aC D p e R s m args below meth c cells slots Q A mi pc' ls' st' M') : x_G l sh nc ad aC D p e R s m args below meth c cells slots Q A mi pc ls (.int x :: r) M := by
  intro H locs lsR hL hP hS
  obtain ⟨⟨e1, e2, e3⟩, h6⟩ := x_g_lsw h1 _ _ h2 h
  subst e1; subst e2; subst e3
  exact lv_lookup hx hb hd h3 rfl h6 (k H locs lsR hL hP hS)
end
