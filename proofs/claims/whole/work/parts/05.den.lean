/-! what an instruction does, as a value; the machine's answers do not depend on the number of steps allowed; their limit; unrolling -/
section
variable {α β : Type} (g : α → β) (sh : xH) (z : α) (go : Nat → xS → List Value → xM → α) (rt : Int32 → α) (cl : Nat → Nat → List Value → List Value → Bool → α) (pc : Nat) (ls : xS) (st : List Value) (M : xM)
theorem x_nat_cond (b : Bool) (x y : α) : g (cond b x y) = cond b (g x) (g y) := by cases b <;> rfl
theorem x_nat_ldi (i n : Nat) : g (x_ldi z go pc ls st M i n) = x_ldi (g z) (fun a b c d => g (go a b c d)) pc ls st M i n := by unfold x_ldi; split <;> rfl
theorem x_nat_ldl (i n : Nat) : g (x_ldl z go pc ls st M i n) = x_ldl (g z) (fun a b c d => g (go a b c d)) pc ls st M i n := by unfold x_ldl; split <;> rfl
theorem x_nat_lda (i n : Nat) : g (x_lda z go pc ls st M i n) = x_lda (g z) (fun a b c d => g (go a b c d)) pc ls st M i n := by unfold x_lda; split <;> rfl
theorem x_nat_sti (i n : Nat) : g (x_sti z go pc ls st M i n) = x_sti (g z) (fun a b c d => g (go a b c d)) pc ls st M i n := by unfold x_sti; split <;> first | rfl | exact x_nat_cond g _ _ _
theorem x_nat_stl (i n : Nat) : g (x_stl z go pc ls st M i n) = x_stl (g z) (fun a b c d => g (go a b c d)) pc ls st M i n := by unfold x_stl; split <;> first | rfl | exact x_nat_cond g _ _ _
theorem x_nat_sta (i n : Nat) : g (x_sta z go pc ls st M i n) = x_sta (g z) (fun a b c d => g (go a b c d)) pc ls st M i n := by unfold x_sta; split <;> first | rfl | exact x_nat_cond g _ _ _
theorem x_nat_bi (f : Int32 → Int32 → Int32) : g (x_bi z go pc ls st M f) = x_bi (g z) (fun a b c d => g (go a b c d)) pc ls st M f := by unfold x_bi; split <;> rfl
theorem x_nat_bl (f : Int64 → Int64 → Int64) : g (x_bl z go pc ls st M f) = x_bl (g z) (fun a b c d => g (go a b c d)) pc ls st M f := by unfold x_bl; split <;> rfl
theorem x_nat_br (c : ClassFile.Cond) (x y : Int32) (t : Nat) (r : List Value) : g (x_br go pc ls M c x y t r) = x_br (fun a b c d => g (go a b c d)) pc ls M c x y t r := by
  unfold x_br; cases c <;> dsimp only <;> split <;> rfl
theorem x_nat_tsw (x : Int32) (d : Nat) (r : List Value) : ∀ (ts : List Nat) (k : Nat), g (x_tsw go ls M x d r k ts) = x_tsw (fun a b c d => g (go a b c d)) ls M x d r k ts
  | [], _ => rfl
  | t :: ts, k => by
    unfold x_tsw
    split
    · rfl
    · exact x_nat_tsw x d r ts (k + 1)
theorem x_nat_lsw (x : Int32) (d : Nat) (r : List Value) : ∀ (ts : List Nat), g (x_lsw go ls M x d r ts) = x_lsw (fun a b c d => g (go a b c d)) ls M x d r ts
  | [] => rfl
  | [_] => rfl
  | k :: t :: ts => by
    unfold x_lsw
    split
    · rfl
    · exact x_nat_lsw x d r ts
theorem x_nat_get (ci k : Nat) : g (x_get sh z go pc ls st M ci k) = x_get sh (g z) (fun a b c d => g (go a b c d)) pc ls st M ci k := by
  unfold x_get
  split
  · split
    · rw [x_nat_cond g]
      congr 1
      split <;> rfl
    · rfl
  · rfl
theorem x_nat_put (ci k : Nat) : g (x_put sh z go pc ls st M ci k) = x_put sh (g z) (fun a b c d => g (go a b c d)) pc ls st M ci k := by
  unfold x_put
  split
  · split
    · rw [x_nat_cond g]
      congr 1
      split <;> rfl
    · rfl
  · rfl
theorem x_nat_ite (c : Prop) [d : Decidable c] (x y : α) : g (if c then x else y) = if c then g x else g y := by split <;> rfl
theorem x_nat_ald (w : Nat) : g (x_ald sh z go pc ls st M w) = x_ald sh (g z) (fun a b c d => g (go a b c d)) pc ls st M w := by
  unfold x_ald
  split
  · split
    · rw [x_nat_cond g, x_nat_cond g, x_nat_ite g, x_nat_ite g]
    · rfl
  · rfl
theorem x_nat_ast (w : Nat) (f : Int32 → Int32) : g (x_ast sh z go pc ls st M w f) = x_ast sh (g z) (fun a b c d => g (go a b c d)) pc ls st M w f := by
  unfold x_ast
  split
  · split
    · rw [x_nat_cond g, x_nat_ite g]
    · rfl
  · rfl
theorem x_nat_aal : g (x_aal sh z go pc ls st M) = x_aal sh (g z) (fun a b c d => g (go a b c d)) pc ls st M := by
  unfold x_aal
  split
  · split
    · rw [x_nat_cond g, x_nat_ite g]
      congr 2
      split <;> rfl
    · rfl
  · rfl
theorem x_nat_aln : g (x_aln sh z go pc ls st M) = x_aln sh (g z) (fun a b c d => g (go a b c d)) pc ls st M := by
  unfold x_aln
  split
  · split
    · rw [x_nat_cond g, x_nat_cond g]
    · rfl
  · rfl
theorem x_nat_cpy : g (x_cpy sh z go pc ls st M) = x_cpy sh (g z) (fun a b c d => g (go a b c d)) pc ls st M := by
  unfold x_cpy
  split
  · split
    · rw [x_nat_cond g, x_nat_ite g]
    · rfl
  · rfl
theorem x_nat_mm (w : Nat) : g (x_mm z go pc ls st M w) = x_mm (g z) (fun a b c d => g (go a b c d)) pc ls st M w := by unfold x_mm; split <;> first | rfl | exact x_nat_cond g _ _ _
theorem x_nat_cav (cm np v ci ml : Nat) : g (x_cav sh z cl st cm np v ci ml) = x_cav sh (g z) (fun a b c d e => g (cl a b c d e)) st cm np v ci ml := by
  unfold x_cav
  split
  · split
    · rw [x_nat_cond g]
    · rfl
  · rfl
theorem x_nat_cas (cm np v ml : Nat) : g (x_cas z cl st cm np v ml) = x_cas (g z) (fun a b c d e => g (cl a b c d e)) st cm np v ml := by
  unfold x_cas
  split
  · rw [x_nat_cond g]
  · rfl
set_option maxHeartbeats 4000000 in
theorem x_nat (i : xI) : g (x_K sh z go rt cl pc ls st M i) = x_K sh (g z) (fun a b c d => g (go a b c d)) (fun r => g (rt r)) (fun a b c d e => g (cl a b c d e)) pc ls st M i := by
  obtain ⟨i, aux⟩ := i
  cases i <;> first
    | rfl
    | exact x_nat_ldi g z go pc ls st M _ _
    | exact x_nat_ldl g z go pc ls st M _ _
    | exact x_nat_lda g z go pc ls st M _ _
    | exact x_nat_sti g z go pc ls st M _ _
    | exact x_nat_stl g z go pc ls st M _ _
    | exact x_nat_sta g z go pc ls st M _ _
    | exact x_nat_bi g z go pc ls st M _
    | exact x_nat_bl g z go pc ls st M _
    | exact x_nat_ald g sh z go pc ls st M _
    | exact x_nat_ast g sh z go pc ls st M _ _
    | exact x_nat_aal g sh z go pc ls st M
    | exact x_nat_aln g sh z go pc ls st M
    | (unfold x_K; dsimp only; (repeat' split) <;> first | rfl | exact x_nat_cond g _ _ _ | exact x_nat_br g go pc ls M _ _ _ _ _ | exact x_nat_tsw g go ls M _ _ _ _ _ | exact x_nat_lsw g go ls M _ _ _ _ | exact x_nat_get g sh z go pc ls st M _ _ | exact x_nat_put g sh z go pc ls st M _ _ | exact x_nat_cpy g sh z go pc ls st M | exact x_nat_mm g z go pc ls st M _ | exact x_nat_cav g sh z cl st _ _ _ _ _ | exact x_nat_cas g z cl st _ _ _ _ | (simp_all; done))
end
abbrev xO : Type := (Nat × xS × List Value × xM) ⊕ (Int32 ⊕ (Nat × Nat × List Value × List Value × Bool))
noncomputable def x_st (sh : xH) (pc : Nat) (ls : xS) (st : List Value) (M : xM) (i : xI) : Option xO := x_K sh none (fun a b c d => some (.inl (a, b, c, d))) (fun r => some (.inr (.inl r))) (fun cm ml As r v => some (.inr (.inr (cm, ml, As, r, v)))) pc ls st M i
def x_ap (f g : xF) (mi pc : Nat) (ls : xS) (M : xM) : Option xO → xR
  | none => none
  | some (.inl (a, b, c, d)) => g mi a b c d
  | some (.inr (.inl r)) => some (r, M)
  | some (.inr (.inr (cm, ml, As, r, v))) => (f cm 0 (x_ent ml As) [] M).bind (fun q => g mi (pc + 3) ls (cond v r (.int q.1 :: r)) q.2)
theorem x_B_ap (sh : xH) (co : Nat → Option xI) (f g : xF) (mi pc : Nat) (ls : xS) (st : List Value) (M : xM) : x_B sh co f g mi pc ls st M = match co pc with
  | none => none
  | some i => x_ap f g mi pc ls M (x_st sh pc ls st M i) := by
  unfold x_B x_st
  cases co pc with
  | none => rfl
  | some i => exact (x_nat (x_ap f g mi pc ls M) sh none (fun a b c d => some (Sum.inl (a, b, c, d))) (fun r => some (Sum.inr (Sum.inl r))) (fun cm ml As r v => some (Sum.inr (Sum.inr (cm, ml, As, r, v)))) pc ls st M i).symm
/-- more answers -/
def x_le (f g : xF) : Prop := ∀ mi pc ls st M r, f mi pc ls st M = some r → g mi pc ls st M = some r
theorem x_ap_mono {f f' g g' : xF} (hf : x_le f f') (hg : x_le g g') {mi pc : Nat} {ls : xS} {M : xM} {o : Option xO} {r : Int32 × xM} (h : x_ap f g mi pc ls M o = some r) : x_ap f' g' mi pc ls M o = some r := by
  rcases o with _ | ⟨⟨a, b, c, d⟩ | v | ⟨cm, ml, As, rr, v⟩⟩
  · cases h
  · exact hg _ _ _ _ _ _ h
  · exact h
  · have h : (f cm 0 (x_ent ml As) [] M).bind (fun q => g mi (pc + 3) ls (cond v rr (.int q.1 :: rr)) q.2) = some r := h
    show (f' cm 0 (x_ent ml As) [] M).bind (fun q => g' mi (pc + 3) ls (cond v rr (.int q.1 :: rr)) q.2) = some r
    obtain ⟨q, h1, h2⟩ := Option.bind_eq_some_iff.mp h
    exact Option.bind_eq_some_iff.mpr ⟨q, hf _ _ _ _ _ _ h1, hg _ _ _ _ _ _ h2⟩
theorem x_B_mono {sh : xH} {f f' g g' : xF} (hf : x_le f f') (hg : x_le g g') {co : Nat → Option xI} {mi pc : Nat} {ls : xS} {st : List Value} {M : xM} {r : Int32 × xM} (h : x_B sh co f g mi pc ls st M = some r) : x_B sh co f' g' mi pc ls st M = some r := by
  rw [x_B_ap] at h ⊢
  cases hc : co pc with
  | none => rw [hc] at h; cases h
  | some i => rw [hc] at h; exact x_ap_mono hf hg h
theorem x_ev_step (sh : xH) : ∀ n, x_le (x_ev sh n) (x_ev sh (n + 1))
  | 0 => fun _ _ _ _ _ _ h => by cases h
  | n + 1 => fun _ _ _ _ _ _ h => by
    rw [x_ev_s] at h ⊢
    exact x_B_mono (x_ev_step sh n) (x_ev_step sh n) h
theorem x_ev_le (sh : xH) {n m : Nat} (h : n ≤ m) : x_le (x_ev sh n) (x_ev sh m) := by
  induction h with
  | refl => exact fun _ _ _ _ _ _ h => h
  | step _ ih => exact fun _ _ _ _ _ _ h => x_ev_step sh _ _ _ _ _ _ _ (ih _ _ _ _ _ _ h)
/-- the limit -/
noncomputable def x_den (sh : xH) : xF := fun mi pc ls st M => Classical.epsilon fun o : xR => (∃ n r, o = some r ∧ x_ev sh n mi pc ls st M = some r) ∨ (o = none ∧ ∀ n, x_ev sh n mi pc ls st M = none)
theorem x_den_or (sh : xH) (mi pc : Nat) (ls : xS) (st : List Value) (M : xM) : (∃ n r, x_den sh mi pc ls st M = some r ∧ x_ev sh n mi pc ls st M = some r) ∨ (x_den sh mi pc ls st M = none ∧ ∀ n, x_ev sh n mi pc ls st M = none) := by
  have key : ∃ o : xR, (∃ n r, o = some r ∧ x_ev sh n mi pc ls st M = some r) ∨ (o = none ∧ ∀ n, x_ev sh n mi pc ls st M = none) := by
    by_cases h : ∃ n r, x_ev sh n mi pc ls st M = some r
    · obtain ⟨n, r, h⟩ := h
      exact ⟨some r, Or.inl ⟨n, r, rfl, h⟩⟩
    · refine ⟨none, Or.inr ⟨rfl, fun n => ?_⟩⟩
      cases hx : x_ev sh n mi pc ls st M with
      | none => rfl
      | some r => exact absurd ⟨n, r, hx⟩ h
  exact Classical.epsilon_spec key
theorem x_den_iff {sh : xH} {mi pc : Nat} {ls : xS} {st : List Value} {M : xM} {r : Int32 × xM} : x_den sh mi pc ls st M = some r ↔ ∃ n, x_ev sh n mi pc ls st M = some r := by
  constructor
  · intro h
    rcases x_den_or sh mi pc ls st M with ⟨n, r', h1, h2⟩ | ⟨h1, -⟩
    · rw [h] at h1
      cases h1
      exact ⟨n, h2⟩
    · rw [h] at h1
      cases h1
  · rintro ⟨n, h⟩
    rcases x_den_or sh mi pc ls st M with ⟨m, r', h1, h2⟩ | ⟨-, h2⟩
    · have a := x_ev_le sh (Nat.le_max_left n m) _ _ _ _ _ _ h
      have b := x_ev_le sh (Nat.le_max_right n m) _ _ _ _ _ _ h2
      rw [a] at b
      cases b
      exact h1
    · rw [h2 n] at h
      cases h
theorem x_le_den (sh : xH) (n : Nat) : x_le (x_ev sh n) (x_den sh) := fun _ _ _ _ _ _ h => x_den_iff.mpr ⟨n, h⟩
theorem x_fix_iff {sh : xH} {mi pc : Nat} {ls : xS} {st : List Value} {M : xM} {r : Int32 × xM} : x_B sh (x_co mi) (x_den sh) (x_den sh) mi pc ls st M = some r ↔ ∃ n, x_ev sh n mi pc ls st M = some r := by
  constructor
  · intro h
    rw [x_B_ap] at h
    have key : ∀ o, x_ap (x_den sh) (x_den sh) mi pc ls M o = some r → ∃ n, x_ap (x_ev sh n) (x_ev sh n) mi pc ls M o = some r := by
      intro o h
      rcases o with _ | ⟨⟨a, b, c, d⟩ | v | ⟨cm, ml, As, rr, v⟩⟩
      · cases h
      · exact x_den_iff.mp h
      · exact ⟨0, h⟩
      · obtain ⟨q, h1, h2⟩ := Option.bind_eq_some_iff.mp (show (x_den sh cm 0 (x_ent ml As) [] M).bind (fun q => x_den sh mi (pc + 3) ls (cond v rr (.int q.1 :: rr)) q.2) = some r from h)
        obtain ⟨n, h1⟩ := x_den_iff.mp h1
        obtain ⟨m, h2⟩ := x_den_iff.mp h2
        refine ⟨max n m, ?_⟩
        show (x_ev sh (max n m) cm 0 (x_ent ml As) [] M).bind (fun q => x_ev sh (max n m) mi (pc + 3) ls (cond v rr (.int q.1 :: rr)) q.2) = some r
        exact Option.bind_eq_some_iff.mpr ⟨q, x_ev_le sh (Nat.le_max_left n m) _ _ _ _ _ _ h1, x_ev_le sh (Nat.le_max_right n m) _ _ _ _ _ _ h2⟩
    cases hc : x_co mi pc with
    | none => rw [hc] at h; cases h
    | some i =>
      rw [hc] at h
      obtain ⟨n, hn⟩ := key _ h
      refine ⟨n + 1, ?_⟩
      rw [x_ev_s, x_B_ap, hc]
      exact hn
  · rintro ⟨n, h⟩
    cases n with
    | zero => cases h
    | succ n =>
      rw [x_ev_s] at h
      exact x_B_mono (x_le_den sh n) (x_le_den sh n) h
theorem x_opt_ext {α : Type} {a b : Option α} (h : ∀ r, a = some r ↔ b = some r) : a = b := by
  cases a with
  | none =>
    cases b with
    | none => rfl
    | some y => exact absurd ((h y).mpr rfl) (fun q => by cases q)
  | some x => exact ((h x).mp rfl).symm
theorem x_den_eq (sh : xH) (mi pc : Nat) (ls : xS) (st : List Value) (M : xM) : x_den sh mi pc ls st M = x_B sh (x_co mi) (x_den sh) (x_den sh) mi pc ls st M := x_opt_ext fun _ => x_den_iff.trans x_fix_iff.symm
/-- unrolled: k steps, or to one of the stops -/
noncomputable def x_U (sh : xH) (co : Nat → Option xI) (f : xF) (stops : List Nat) (k : Nat) : xF := Nat.rec f (fun _ g => fun mi pc ls st M => cond (stops.any (fun q => Nat.beq q pc)) (f mi pc ls st M) (x_B sh co f g mi pc ls st M)) k
theorem x_U_eq (sh : xH) (mi : Nat) (co : Nat → Option xI) (hco : x_co mi = co) (stops : List Nat) : ∀ (k pc : Nat) (ls : xS) (st : List Value) (M : xM), x_U sh co (x_den sh) stops k mi pc ls st M = x_den sh mi pc ls st M
  | 0, _, _, _, _ => rfl
  | k + 1, pc, ls, st, M => by
    show cond (stops.any (fun q => Nat.beq q pc)) (x_den sh mi pc ls st M) (x_B sh co (x_den sh) (x_U sh co (x_den sh) stops k) mi pc ls st M) = _
    cases stops.any (fun q => Nat.beq q pc) with
    | true => rfl
    | false =>
      show x_B sh co (x_den sh) (x_U sh co (x_den sh) stops k) mi pc ls st M = _
      rw [x_den_eq, hco]
      have e : ∀ o, x_ap (x_den sh) (x_U sh co (x_den sh) stops k) mi pc ls M o = x_ap (x_den sh) (x_den sh) mi pc ls M o := by
        intro o
        rcases o with _ | ⟨⟨a, b, c, d⟩ | v | ⟨cm, ml, As, rr, v⟩⟩
        · rfl
        · exact x_U_eq sh mi co hco stops k a b c d
        · rfl
        · show (x_den sh cm 0 (x_ent ml As) [] M).bind _ = (x_den sh cm 0 (x_ent ml As) [] M).bind _
          congr 1
          funext q
          exact x_U_eq sh mi co hco stops k _ _ _ _
      rw [x_B_ap, x_B_ap]
      cases co pc with
      | none => rfl
      | some i => exact e _
/-- the first step in any case, then k steps or to a stop -/
theorem x_unr (sh : xH) (mi : Nat) (co : Nat → Option xI) (hco : x_co mi = co) (stops : List Nat) (k pc : Nat) (ls : xS) (st : List Value) (M : xM) : x_den sh mi pc ls st M = x_B sh co (x_den sh) (x_U sh co (x_den sh) stops k) mi pc ls st M := by
  have h := (x_U_eq sh mi co hco [] (k + 1) pc ls st M)
  rw [x_den_eq, hco]
  have e : x_U sh co (x_den sh) stops k mi = x_den sh mi := by
    funext pc ls st M
    exact x_U_eq sh mi co hco stops k pc ls st M
  rw [x_B_ap, x_B_ap]
  cases co pc with
  | none => rfl
  | some i =>
    show x_ap _ _ _ _ _ _ _ = x_ap _ _ _ _ _ _ _
    rcases x_st sh pc ls st M i with _ | ⟨⟨a, b, c, d⟩ | v | ⟨cm, ml, As, rr, v⟩⟩
    · rfl
    · show x_den sh mi a b c d = x_U sh co (x_den sh) stops k mi a b c d
      rw [e]
    · rfl
    · show (x_den sh cm 0 (x_ent ml As) [] M).bind (fun q => x_den sh mi (pc + 3) ls (cond v rr (.int q.1 :: rr)) q.2) = (x_den sh cm 0 (x_ent ml As) [] M).bind (fun q => x_U sh co (x_den sh) stops k mi (pc + 3) ls (cond v rr (.int q.1 :: rr)) q.2)
      rw [e]
