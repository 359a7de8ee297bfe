/-! the pure memory and the heap -/
def x_rv (ad : Nat → Nat) : Value → Value
  | .ref k => .ref (ad k)
  | v => v
def x_fv (ad : Nat → Nat) (x : Int32) : Value → Value
  | .ref k => .ref (ad k)
  | _ => .int x
def x_rn : Value → Option Nat
  | .ref t => some t
  | _ => none
def x_ce (sh : xH) (ad : Nat → Nat) (aC : Nat → ClassId) (M : xM) (k : Nat) : va_E := match sh k with
  | .inl (c, fs) => .inr (c, fs.mapIdx (fun j f => x_fv ad (M k j) f))
  | .inr (ty, n, rs) => .inl (aC k, n, if ty = 2 then .inr (.inr (.inr (.inr (fun j => ((rs[j]?).bind x_rn).map ad)))) else .inl (M k))
def x_w (sh : xH) (nc : Nat) (ad : Nat → Nat) (aC : Nat → ClassId) (M : xM) : va_W := (List.range nc).map (fun k => (ad k, x_ce sh ad aC M k))
theorem x_w_at {sh : xH} {nc : Nat} {ad : Nat → Nat} {aC : Nat → ClassId} {M : xM} {k : Nat} (hk : k < nc) : (x_w sh nc ad aC M)[k]? = some (ad k, x_ce sh ad aC M k) := by
  simp [x_w, hk]
theorem x_ce_o {sh : xH} {ad : Nat → Nat} {aC : Nat → ClassId} {M : xM} {k c : Nat} {fs : List Value} (h : sh k = .inl (c, fs)) : x_ce sh ad aC M k = .inr (c, fs.mapIdx (fun j f => x_fv ad (M k j) f)) := by
  unfold x_ce; rw [h]
theorem x_ce_a {sh : xH} {ad : Nat → Nat} {aC : Nat → ClassId} {M : xM} {k ty n : Nat} {rs : List Value} (h : sh k = .inr (ty, n, rs)) (ht : ty ≠ 2) : x_ce sh ad aC M k = .inl (aC k, n, .inl (M k)) := by
  unfold x_ce; rw [h]; simp only [if_neg ht]
theorem x_ce_r {sh : xH} {ad : Nat → Nat} {aC : Nat → ClassId} {M : xM} {k n : Nat} {rs : List Value} (h : sh k = .inr (2, n, rs)) : x_ce sh ad aC M k = .inl (aC k, n, .inr (.inr (.inr (.inr (fun j => ((rs[j]?).bind x_rn).map ad))))) := by
  unfold x_ce; rw [h]; rfl
theorem x_ce_same {sh : xH} {ad : Nat → Nat} {aC : Nat → ClassId} {M M' : xM} {k : Nat} (h : M' k = M k) : x_ce sh ad aC M' k = x_ce sh ad aC M k := by
  unfold x_ce; rw [h]
theorem x_w_set {sh : xH} {nc : Nat} {ad : Nat → Nat} {aC : Nat → ClassId} {M M' : xM} {k : Nat} {e : va_E} (hk : k < nc) (he : x_ce sh ad aC M' k = e) (ho : ∀ j, j ≠ k → M' j = M j) : (x_w sh nc ad aC M).set k (ad k, e) = x_w sh nc ad aC M' := by
  apply List.ext_getElem?
  intro j
  by_cases hj : j = k
  · subst hj
    rw [List.getElem?_set_self (by simp [x_w, hk]), x_w_at hk, he]
  · rw [List.getElem?_set_ne (Ne.symm hj)]
    by_cases hl : j < nc
    · rw [x_w_at hl, x_w_at hl, x_ce_same (ho j hj)]
    · rw [List.getElem?_eq_none (by simp [x_w]; omega), List.getElem?_eq_none (by simp [x_w]; omega)]
theorem x_set_ne {M : xM} {a : Nat} {f : Nat → Int32} (j : Nat) (h : j ≠ a) : x_set M a f j = M j := if_neg h
theorem x_set_eq {M : xM} {a : Nat} {f : Nat → Int32} : x_set M a f a = f := if_pos rfl
theorem x_w_setA {sh : xH} {nc : Nat} {ad : Nat → Nat} {aC : Nat → ClassId} {M : xM} {a ty n : Nat} {rs : List Value} {f : Nat → Int32} (hk : a < nc) (h : sh a = .inr (ty, n, rs)) (ht : ty ≠ 2) : (x_w sh nc ad aC M).set a (ad a, .inl (aC a, n, .inl f)) = x_w sh nc ad aC (x_set M a f) :=
  x_w_set hk (by rw [x_ce_a h ht, x_set_eq]) x_set_ne
theorem x_w_setO {sh : xH} {nc : Nat} {ad : Nat → Nat} {aC : Nat → ClassId} {M : xM} {a c k : Nat} {fs : List Value} {x y : Int32} (hk : a < nc) (h : sh a = .inl (c, fs)) (hf : fs[k]? = some (.int y)) : (x_w sh nc ad aC M).set a (ad a, .inr (c, (fs.mapIdx (fun j f => x_fv ad (M a j) f)).set k (.int x))) = x_w sh nc ad aC (x_up M a k x) := by
  refine x_w_set hk ?_ x_set_ne
  rw [x_ce_o h]
  congr 2
  apply List.ext_getElem?
  intro j
  unfold x_up
  rw [x_set_eq]
  by_cases hj : j = k
  · subst hj
    have hl : j < fs.length := (List.getElem?_eq_some_iff.mp hf).1
    rw [List.getElem?_set_self (by rw [List.length_mapIdx]; exact hl), List.getElem?_mapIdx, hf]
    simp [x_fv, upd]
  · rw [List.getElem?_set_ne (Ne.symm hj), List.getElem?_mapIdx, List.getElem?_mapIdx]
    simp [upd, hj]
/-- which cells are the world's -/
def x_A (ad : Nat → Nat) (nc : Nat) : Nat → Prop := fun q => ∃ k, k < nc ∧ q = ad k
def x_inj (ad : Nat → Nat) (nc : Nat) : Prop := ∀ i j, i < nc → j < nc → ad i = ad j → i = j
theorem x_D {sh : xH} {nc : Nat} {ad : Nat → Nat} {aC : Nat → ClassId} {M : xM} {A : Nat → Prop} (hi : x_inj ad nc) (hA : ∀ k, k < nc → A (ad k)) : va_D A (x_w sh nc ad aC M) := by
  have key : ∀ (k : Nat) (q : Nat × va_E), (x_w sh nc ad aC M)[k]? = some q → k < nc ∧ q.1 = ad k := by
    intro k q h
    have hk : k < nc := by
      have h1 := (List.getElem?_eq_some_iff.mp h).1
      simpa [x_w] using h1
    rw [x_w_at hk] at h
    cases h
    exact ⟨hk, rfl⟩
  refine ⟨fun i j p q h1 h2 e => ?_, fun k q h => ?_⟩
  · obtain ⟨a1, a2⟩ := key i p h1
    obtain ⟨b1, b2⟩ := key j q h2
    exact hi i j a1 b1 (by rw [← a2, ← b2]; exact e)
  · obtain ⟨a1, a2⟩ := key k q h
    rw [a2]
    exact hA k a1
/-- the shape is sound: what is an object or an array is a cell of the world; no cell stands at 98 -/
def x_shok (sh : xH) (nc : Nat) : Prop := (∀ k q, sh k = .inl q → k < nc) ∧ (∀ k ty n rs, sh k = .inr (ty, n, rs) → ty < 3 → k < nc) ∧ ∃ n rs, sh 98 = .inr (9, n, rs)
def x_ty : Nat → FieldType
  | 0 => .int
  | 1 => .char
  | _ => .object "BackColumns$Reading"
/-- what the tables say of the world's classes and arrays, and of the nest -/
def x_Kp (sh : xH) (nc : Nat) (aC : Nat → ClassId) (D : va_G) (U : State) : Prop := va_K D x_cls [] U ∧ (∀ k ty n rs, k < nc → sh k = .inr (ty, n, rs) → ty < 3 → ArrOfT U (aC k) (x_ty ty) ∧ va_RA U (aC k) (x_ty ty)) ∧ ∀ q ∈ x_nl, va_Nw (.methodLinkNest (x_R q.1) q.2 (x_y 10) "BackColumns") U
theorem x_Kp.arr {sh : xH} {nc : Nat} {aC : Nat → ClassId} {D : va_G} {U : State} (h : x_Kp sh nc aC D U) {k ty n : Nat} {rs : List Value} (hk : k < nc) (hs : sh k = .inr (ty, n, rs)) (ht : ty < 3) : va_K D x_cls [(aC k, x_ty ty)] U := by
  refine ⟨h.1.1, fun j q hq => ?_⟩
  cases j with
  | zero =>
    rw [List.getElem?_cons_zero] at hq
    cases hq
    exact h.2.1 k ty n rs hk hs ht
  | succ j => simp at hq
theorem x_Kp.warm {sh : xH} {nc : Nat} {aC : Nat → ClassId} {D : va_G} {s U : State} (h : x_Kp sh nc aC D s) (hW : s.WarmedH U.vm) : x_Kp sh nc aC D U := by
  have h3 := hW.alike
  refine ⟨va_K.moved h3 h.1, fun k ty n rs hk hs ht => ?_, fun q hq => va_Nw.warmM hW (h.2.2 q hq)⟩
  have h1 := h.2.1 k ty n rs hk hs ht
  exact ⟨arrOfT_moved h3 h1.1, h1.2.moved h3⟩
/-- the script -/
def x_Xp (sh : xH) (ad : Nat → Nat) (A : Nat → Prop) (M : xM) (U : State) (H : Heap) : Prop := ∀ a n rs, sh a = .inr (3, n, rs) → va_X (ad a) (M 98 0).toNatClampNeg (M a) U H ∧ ad a < H.size ∧ ¬ A (ad a) ∧ Int32.ofNat (M 98 0).toNatClampNeg = M 98 0
/-- a cell that is never written -/
def x_ro (sh : xH) (a : Nat) : Prop := ∃ ty n rs, sh a = .inr (ty, n, rs) ∧ 3 ≤ ty
theorem x_Xp.keep {sh : xH} {nc : Nat} {ad : Nat → Nat} {A : Nat → Prop} {M M' : xM} {U : State} {H : Heap} (hsh : x_shok sh nc) (h : x_Xp sh ad A M U H) (hk : ∀ a, x_ro sh a → M' a = M a) : x_Xp sh ad A M' U H := by
  obtain ⟨n9, r9, h9⟩ := hsh.2.2
  intro a n rs ha
  rw [hk 98 ⟨9, n9, r9, h9, by omega⟩, hk a ⟨3, n, rs, ha, by omega⟩]
  exact h a n rs ha
/-! the locals -/
def x_L (ad : Nat → Nat) (lsR : Array Slot) (nL : Nat) (ls : xS) : Prop := ls.length = nL ∧ lsR.size = nL ∧ lv_wf lsR ∧ ∀ (i : Nat) (v : Value), ls[i]? = some (some v) → lsR[i]? = some (.val (x_rv ad v))
def x_as (ad : Nat → Nat) (ls : xS) : List (Nat × Value) := (List.range ls.length).filterMap (fun j => match ls[j]? with
  | some (some v) => some (j, x_rv ad v)
  | _ => none)
theorem x_as_mem {ad : Nat → Nat} {ls : xS} {q : Nat × Value} : q ∈ x_as ad ls ↔ ∃ v, ls[q.1]? = some (some v) ∧ q.2 = x_rv ad v := by
  unfold x_as
  rw [List.mem_filterMap]
  constructor
  · rintro ⟨j, -, h⟩
    split at h
    · next v hv =>
      cases h
      exact ⟨v, hv, rfl⟩
    · cases h
  · rintro ⟨v, h1, h2⟩
    refine ⟨q.1, List.mem_range.mpr (List.getElem?_eq_some_iff.mp h1).1, ?_⟩
    rw [h1]
    show some (q.1, x_rv ad v) = some q
    rw [← h2]
theorem x_L.has {ad : Nat → Nat} {lsR : Array Slot} {nL : Nat} {ls : xS} (h : x_L ad lsR nL ls) : lv_has lsR nL (x_as ad ls) := by
  refine ⟨h.2.1, h.2.2.1, fun q hq => ?_⟩
  obtain ⟨v, h1, h2⟩ := x_as_mem.mp hq
  rw [h2]
  exact h.2.2.2 _ _ h1
theorem x_rv_cat (ad : Nat → Nat) (v : Value) : (x_rv ad v).category = v.category := by cases v <;> rfl
theorem x_kil_some {a : Option Value} {w : Value} (h : x_kil a = some w) : a = some w ∧ ¬ w.category = 2 := by
  cases a with
  | none => cases h
  | some v =>
    have h : cond (Nat.beq v.category 2) none (some v) = some w := h
    cases hb : Nat.beq v.category 2 with
    | true => rw [hb] at h; cases h
    | false =>
      rw [hb] at h
      cases h
      exact ⟨rfl, fun q => by rw [q] at hb; cases hb⟩
theorem x_st1_len : ∀ (ls : xS) (i : Nat) (v : Value), (x_st1 ls i v).length = ls.length
  | [], _, _ => by unfold x_st1; rfl
  | _ :: r, 0, v => by unfold x_st1; rfl
  | a :: r, 1, v => by unfold x_st1; simp [x_st1_len r 0 v]
  | a :: r, n + 2, v => by unfold x_st1; simp [x_st1_len r (n + 1) v]
theorem x_st2_len : ∀ (ls : xS) (i : Nat) (v : Value), (x_st2 ls i v).length = ls.length
  | [], _, _ => by unfold x_st2; rfl
  | _ :: [], 0, v => by unfold x_st2; rfl
  | _ :: _ :: r, 0, v => by unfold x_st2; rfl
  | a :: r, 1, v => by unfold x_st2; simp [x_st2_len r 0 v]
  | a :: r, n + 2, v => by unfold x_st2; simp [x_st2_len r (n + 1) v]
theorem x_st1_at : ∀ (ls : xS) (i : Nat) (v : Value) (j : Nat) (w : Value), (x_st1 ls i v)[j]? = some (some w) → (j = i ∧ w = v) ∨ (j ≠ i ∧ ls[j]? = some (some w) ∧ ¬ (j + 1 = i ∧ w.category = 2))
  | [], i, v, j, w, h => by unfold x_st1 at h; simp at h
  | a :: r, 0, v, j, w, h => by
    unfold x_st1 at h
    cases j with
    | zero => rw [List.getElem?_cons_zero] at h; cases h; exact Or.inl ⟨rfl, rfl⟩
    | succ j => rw [List.getElem?_cons_succ] at h; exact Or.inr ⟨by omega, by rw [List.getElem?_cons_succ]; exact h, by omega⟩
  | a :: r, 1, v, j, w, h => by
    unfold x_st1 at h
    cases j with
    | zero =>
      rw [List.getElem?_cons_zero] at h
      obtain ⟨h1, h2⟩ := x_kil_some (Option.some.inj h)
      exact Or.inr ⟨by omega, by rw [List.getElem?_cons_zero, h1], fun q => h2 q.2⟩
    | succ j =>
      rw [List.getElem?_cons_succ] at h
      rcases x_st1_at r 0 v j w h with ⟨h1, h2⟩ | ⟨h1, h2, h3⟩
      · exact Or.inl ⟨by omega, h2⟩
      · exact Or.inr ⟨by omega, by rw [List.getElem?_cons_succ]; exact h2, by omega⟩
  | a :: r, n + 2, v, j, w, h => by
    unfold x_st1 at h
    cases j with
    | zero =>
      rw [List.getElem?_cons_zero] at h
      exact Or.inr ⟨by omega, by rw [List.getElem?_cons_zero]; exact h, by omega⟩
    | succ j =>
      rw [List.getElem?_cons_succ] at h
      rcases x_st1_at r (n + 1) v j w h with ⟨h1, h2⟩ | ⟨h1, h2, h3⟩
      · exact Or.inl ⟨by omega, h2⟩
      · exact Or.inr ⟨by omega, by rw [List.getElem?_cons_succ]; exact h2, fun q => h3 ⟨by omega, q.2⟩⟩
theorem x_st2_at : ∀ (ls : xS) (i : Nat) (v : Value) (j : Nat) (w : Value), (x_st2 ls i v)[j]? = some (some w) → (j = i ∧ w = v) ∨ (j ≠ i ∧ j ≠ i + 1 ∧ ls[j]? = some (some w) ∧ ¬ (j + 1 = i ∧ w.category = 2))
  | [], i, v, j, w, h => by unfold x_st2 at h; simp at h
  | a :: r, 0, v, j, w, h => by
    unfold x_st2 at h
    cases j with
    | zero => rw [List.getElem?_cons_zero] at h; cases h; exact Or.inl ⟨rfl, rfl⟩
    | succ j =>
      rw [List.getElem?_cons_succ] at h
      cases r with
      | nil => simp at h
      | cons b t =>
        cases j with
        | zero => rw [List.getElem?_cons_zero] at h; cases h
        | succ j =>
          rw [List.getElem?_cons_succ] at h
          exact Or.inr ⟨by omega, by omega, by rw [List.getElem?_cons_succ, List.getElem?_cons_succ]; exact h, by omega⟩
  | a :: r, 1, v, j, w, h => by
    unfold x_st2 at h
    cases j with
    | zero =>
      rw [List.getElem?_cons_zero] at h
      obtain ⟨h1, h2⟩ := x_kil_some (Option.some.inj h)
      exact Or.inr ⟨by omega, by omega, by rw [List.getElem?_cons_zero, h1], fun q => h2 q.2⟩
    | succ j =>
      rw [List.getElem?_cons_succ] at h
      rcases x_st2_at r 0 v j w h with ⟨h1, h2⟩ | ⟨h1, h2, h3, h4⟩
      · exact Or.inl ⟨by omega, h2⟩
      · exact Or.inr ⟨by omega, by omega, by rw [List.getElem?_cons_succ]; exact h3, by omega⟩
  | a :: r, n + 2, v, j, w, h => by
    unfold x_st2 at h
    cases j with
    | zero =>
      rw [List.getElem?_cons_zero] at h
      exact Or.inr ⟨by omega, by omega, by rw [List.getElem?_cons_zero]; exact h, by omega⟩
    | succ j =>
      rw [List.getElem?_cons_succ] at h
      rcases x_st2_at r (n + 1) v j w h with ⟨h1, h2⟩ | ⟨h1, h2, h3, h4⟩
      · exact Or.inl ⟨by omega, h2⟩
      · exact Or.inr ⟨by omega, by omega, by rw [List.getElem?_cons_succ]; exact h3, fun q => h4 ⟨by omega, q.2⟩⟩
theorem x_L.st1 {ad : Nat → Nat} {lsR ls' : Array Slot} {nL i : Nat} {ls : xS} {v : Value} (h : x_L ad lsR nL ls) (h' : lv_has ls' nL ((i, x_rv ad v) :: (x_as ad ls).filter (fun q => !(q.1 == i) && !(q.1 + 1 == i && q.2.category == 2)))) : x_L ad ls' nL (x_st1 ls i v) := by
  refine ⟨by rw [x_st1_len]; exact h.1, h'.1, h'.2.1, fun j w hj => ?_⟩
  refine h'.2.2 (j, x_rv ad w) ?_
  rcases x_st1_at _ _ _ _ _ hj with ⟨rfl, rfl⟩ | ⟨e, a, b⟩
  · exact List.mem_cons_self
  · refine List.mem_cons_of_mem _ (List.mem_filter.mpr ⟨x_as_mem.mpr ⟨w, a, rfl⟩, ?_⟩)
    simp only [Bool.and_eq_true, Bool.not_eq_true', beq_eq_false_iff_ne, ne_eq, Bool.and_eq_false_iff]
    refine ⟨e, ?_⟩
    by_cases e2 : j + 1 = i
    · exact Or.inr (fun q => b ⟨e2, by rw [← x_rv_cat ad]; exact q⟩)
    · exact Or.inl e2
theorem x_L.st2 {ad : Nat → Nat} {lsR ls' : Array Slot} {nL i : Nat} {ls : xS} {v : Value} (h : x_L ad lsR nL ls) (h' : lv_has ls' nL ((i, x_rv ad v) :: (x_as ad ls).filter (fun q => !(q.1 == i) && (!(q.1 == i + 1) && !(q.1 + 1 == i && q.2.category == 2))))) : x_L ad ls' nL (x_st2 ls i v) := by
  refine ⟨by rw [x_st2_len]; exact h.1, h'.1, h'.2.1, fun j w hj => ?_⟩
  refine h'.2.2 (j, x_rv ad w) ?_
  rcases x_st2_at _ _ _ _ _ hj with ⟨rfl, rfl⟩ | ⟨e, e1, a, b⟩
  · exact List.mem_cons_self
  · refine List.mem_cons_of_mem _ (List.mem_filter.mpr ⟨x_as_mem.mpr ⟨w, a, rfl⟩, ?_⟩)
    simp only [Bool.and_eq_true, Bool.not_eq_true', beq_eq_false_iff_ne, ne_eq, Bool.and_eq_false_iff]
    refine ⟨e, e1, ?_⟩
    by_cases e2 : j + 1 = i
    · exact Or.inr (fun q => b ⟨e2, by rw [← x_rv_cat ad]; exact q⟩)
    · exact Or.inl e2
theorem x_sl_one : ∀ (vs : List Value), (∀ v ∈ vs, v.category = 1) → (lg_sl vs).length = vs.length
  | [], _ => rfl
  | v :: vs, h => by
    have hv := h v List.mem_cons_self
    have h1 := x_sl_one vs (fun w hw => h w (List.mem_cons_of_mem _ hw))
    show ((if v.category = 2 then [Slot.val v, Slot.second] else [Slot.val v]) ++ lg_sl vs).length = _
    rw [if_neg (by omega), List.length_append, h1]
    simp; omega
theorem x_args_one : ∀ (vs : List Value) (i : Nat), (∀ v ∈ vs, v.category = 1) → ∀ (j : Nat) (v : Value), vs[j]? = some v → (i + j, v) ∈ lv_args i vs
  | [], _, _, j, v, h => by simp at h
  | w :: vs, i, hc, j, v, h => by
    show (i + j, v) ∈ (i, w) :: lv_args (if w.category = 2 then i + 2 else i + 1) vs
    rw [if_neg (by have := hc w List.mem_cons_self; omega)]
    cases j with
    | zero =>
      rw [List.getElem?_cons_zero] at h
      cases h
      exact List.mem_cons_self
    | succ j =>
      rw [List.getElem?_cons_succ] at h
      have h1 := x_args_one vs (i + 1) (fun u hu => hc u (List.mem_cons_of_mem _ hu)) j v h
      rw [show i + (j + 1) = i + 1 + j by omega]
      exact List.mem_cons_of_mem _ h1
theorem x_is1_cat {v : Value} (h : x_is1 v = true) : v.category = 1 := by cases v <;> first | rfl | cases h
theorem x_L_ent {ad : Nat → Nat} {ml : Nat} {As : List Value} (h1 : As.all x_is1 = true) (hl : As.length ≤ ml) : x_L ad ((lg_sl (As.map (x_rv ad)) ++ List.replicate (ml - (lg_sl (As.map (x_rv ad))).length) Slot.unset).toArray) ml (x_ent ml As) := by
  have hc : ∀ v ∈ As.map (x_rv ad), v.category = 1 := by
    intro v hv
    obtain ⟨w, hw, rfl⟩ := List.mem_map.mp hv
    rw [x_rv_cat]
    exact x_is1_cat (List.all_eq_true.mp h1 w hw)
  have hn := x_sl_one _ hc
  rw [List.length_map] at hn
  have h := lv_entry (As.map (x_rv ad)) (n := ml) (by omega)
  refine ⟨?_, h.1, h.2.1, fun i v hi => ?_⟩
  · unfold x_ent
    rw [List.length_append, List.length_map, List.length_replicate]
    omega
  · refine h.2.2 (i, x_rv ad v) ?_
    unfold x_ent at hi
    by_cases hlt : i < As.length
    · rw [List.getElem?_append_left (by rw [List.length_map]; exact hlt), List.getElem?_map] at hi
      cases ha : As[i]? with
      | none => rw [ha] at hi; cases hi
      | some w =>
        rw [ha] at hi
        cases hi
        have := x_args_one (As.map (x_rv ad)) 0 hc i (x_rv ad v) (by rw [List.getElem?_map, ha]; rfl)
        rwa [Nat.zero_add] at this
    · rw [List.getElem?_append_right (by rw [List.length_map]; omega)] at hi
      have := List.eq_of_mem_replicate (List.mem_of_getElem? hi)
      cases this
