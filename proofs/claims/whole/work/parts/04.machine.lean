/-! THE PURE MACHINE: the locals by place, the stack, the memory as one function (cell, place ↦ int); the shape of the cells is fixed -/
abbrev xS : Type := List (Option Value)
abbrev xM : Type := Nat → Nat → Int32
/-- a cell's shape: an object (its class's number; its fields: a reference's cell, or any int where the memory has it), or an array (0 int, 1 char, 2 references, 3 the script; its length; its references) -/
abbrev xQ : Type := (Nat × List Value) ⊕ (Nat × Nat × List Value)
abbrev xH : Type := Nat → xQ
def x_set (M : xM) (a : Nat) (f : Nat → Int32) : xM := fun q => if q = a then f else M q
def x_up (M : xM) (a k : Nat) (v : Int32) : xM := x_set M a (upd (M a) k v)
def x_kil : Option Value → Option Value
  | some v => cond (Nat.beq v.category 2) none (some v)
  | none => none
def x_st1 : xS → Nat → Value → xS
  | [], _, _ => []
  | _ :: r, 0, v => some v :: r
  | a :: r, 1, v => x_kil a :: x_st1 r 0 v
  | a :: r, n + 2, v => a :: x_st1 r (n + 1) v
def x_st2 : xS → Nat → Value → xS
  | [], _, _ => []
  | _ :: r, 0, v => some v :: (match r with
    | [] => []
    | _ :: t => none :: t)
  | a :: r, 1, v => x_kil a :: x_st2 r 0 v
  | a :: r, n + 2, v => a :: x_st2 r (n + 1) v
theorem x_lc_ex (x y : Int64) : ∃ v : Int32, v = lg_cmp x y := ⟨_, rfl⟩
/-- lcmp, not to be unfolded -/
noncomputable def x_lc (x y : Int64) : Int32 := Classical.choose (x_lc_ex x y)
theorem x_lc_eq (x y : Int64) : x_lc x y = lg_cmp x y := Classical.choose_spec (x_lc_ex x y)
def x_is1 : Value → Bool
  | .int _ => true
  | .ref _ => true
  | _ => false
def x_pop : Nat → List Value → List Value → Option (List Value × List Value)
  | 0, st, acc => some (acc, st)
  | n + 1, st, acc => match st with
    | v :: r => x_pop n r (v :: acc)
    | [] => none
def x_ent (ml : Nat) (As : List Value) : xS := As.map some ++ List.replicate (ml - As.length) none
def x_roomy (As r : List Value) : Bool := As.all x_is1 && Nat.ble (r.map fun v => v.category).sum 8
section
variable {α : Type} (sh : xH) (z : α) (go : Nat → xS → List Value → xM → α) (rt : Int32 → α) (cl : Nat → Nat → List Value → List Value → Bool → α) (pc : Nat) (ls : xS) (st : List Value) (M : xM)
def x_ldi (i n : Nat) : α := match ls[i]? with
  | some (some (.int x)) => go (pc + n) ls (.int x :: st) M
  | _ => z
def x_ldl (i n : Nat) : α := match ls[i]? with
  | some (some (.long x)) => go (pc + n) ls (.long x :: st) M
  | _ => z
def x_lda (i n : Nat) : α := match ls[i]? with
  | some (some (.ref x)) => go (pc + n) ls (.ref x :: st) M
  | _ => z
def x_sti (i n : Nat) : α := match st with
  | .int x :: r => cond (Nat.blt i ls.length) (go (pc + n) (x_st1 ls i (.int x)) r M) z
  | _ => z
def x_stl (i n : Nat) : α := match st with
  | .long x :: r => cond (Nat.blt (i + 1) ls.length) (go (pc + n) (x_st2 ls i (.long x)) r M) z
  | _ => z
def x_sta (i n : Nat) : α := match st with
  | .ref x :: r => cond (Nat.blt i ls.length) (go (pc + n) (x_st1 ls i (.ref x)) r M) z
  | _ => z
def x_bi (f : Int32 → Int32 → Int32) : α := match st with
  | .int y :: .int x :: r => go (pc + 1) ls (.int (f x y) :: r) M
  | _ => z
def x_bl (f : Int64 → Int64 → Int64) : α := match st with
  | .long y :: .long x :: r => go (pc + 1) ls (.long (f x y) :: r) M
  | _ => z
def x_br (c : ClassFile.Cond) (x y : Int32) (t : Nat) (r : List Value) : α := match c with
  | .eq => if x = y then go t ls r M else go (pc + 3) ls r M
  | .ne => if x = y then go (pc + 3) ls r M else go t ls r M
  | .lt => if x < y then go t ls r M else go (pc + 3) ls r M
  | .ge => if y ≤ x then go t ls r M else go (pc + 3) ls r M
  | .gt => if y < x then go t ls r M else go (pc + 3) ls r M
  | .le => if x ≤ y then go t ls r M else go (pc + 3) ls r M
/-- a switch on 0, 1, .. -/
def x_tsw (x : Int32) (d : Nat) (r : List Value) : Nat → List Nat → α
  | _, [] => go d ls r M
  | k, t :: ts => if x = Int32.ofNat k then go t ls r M else x_tsw x d r (k + 1) ts
/-- a switch on listed numbers -/
def x_lsw (x : Int32) (d : Nat) (r : List Value) : List Nat → α
  | k :: t :: ts => if x = Int32.ofNat k then go t ls r M else x_lsw x d r ts
  | _ => go d ls r M
def x_get (ci k : Nat) : α := match st with
  | .ref a :: r => match sh a with
    | .inl (c, fs) => cond (Nat.beq c ci) (match fs[k]? with
      | some (.ref t) => go (pc + 3) ls (.ref t :: r) M
      | some (.int _) => go (pc + 3) ls (.int (M a k) :: r) M
      | _ => z) z
    | .inr _ => z
  | _ => z
def x_put (ci k : Nat) : α := match st with
  | .int x :: .ref a :: r => match sh a with
    | .inl (c, fs) => cond (Nat.beq c ci) (match fs[k]? with
      | some (.int _) => go (pc + 3) ls r (x_up M a k x)
      | _ => z) z
    | .inr _ => z
  | _ => z
def x_ald (w : Nat) : α := match st with
  | .int i :: .ref a :: r => match sh a with
    | .inr (ty, n, _) => cond (Nat.beq ty w) (if i < 0 ∨ n ≤ i.toNatClampNeg then z else go (pc + 1) ls (.int (M a i.toNatClampNeg) :: r) M) (cond (Nat.beq ty 3 && Nat.beq w 0) (if i < 0 ∨ (M 98 0).toNatClampNeg ≤ i.toNatClampNeg then z else go (pc + 1) ls (.int (M a i.toNatClampNeg) :: r) M) z)
    | .inl _ => z
  | _ => z
def x_ast (w : Nat) (f : Int32 → Int32) : α := match st with
  | .int x :: .int i :: .ref a :: r => match sh a with
    | .inr (ty, n, _) => cond (Nat.beq ty w) (if i < 0 ∨ n ≤ i.toNatClampNeg then z else go (pc + 1) ls r (x_up M a i.toNatClampNeg (f x))) z
    | .inl _ => z
  | _ => z
def x_aal : α := match st with
  | .int i :: .ref a :: r => match sh a with
    | .inr (ty, n, rs) => cond (Nat.beq ty 2) (if i < 0 ∨ n ≤ i.toNatClampNeg then z else match rs[i.toNatClampNeg]? with
      | some (.ref t) => go (pc + 1) ls (.ref t :: r) M
      | _ => z) z
    | .inl _ => z
  | _ => z
def x_aln : α := match st with
  | .ref a :: r => match sh a with
    | .inr (ty, n, _) => cond (Nat.blt ty 3) (go (pc + 1) ls (.int (Int32.ofNat n) :: r) M) (cond (Nat.beq ty 3) (go (pc + 1) ls (.int (M 98 0) :: r) M) z)
    | .inl _ => z
  | _ => z
def x_cpy : α := match st with
  | .int n :: .int dp :: .ref d :: .int sp :: .ref a :: r => match sh a, sh d with
    | .inr (t0, n0, _), .inr (t1, n1, _) => cond (Nat.beq t0 0 && Nat.beq t1 0 && Nat.ble (r.map fun v => v.category).sum 8) (if sp < 0 ∨ dp < 0 ∨ n < 0 ∨ n0 < sp.toNatClampNeg + n.toNatClampNeg ∨ n1 < dp.toNatClampNeg + n.toNatClampNeg then z else go (pc + 3) ls r (x_set M d (va_cpy (M a) (M d) sp.toNatClampNeg dp.toNatClampNeg n.toNatClampNeg))) z
    | _, _ => z
  | _ => z
def x_max (x y : Int32) : Int32 := if x < y then y else x
def x_min (x y : Int32) : Int32 := if y < x then y else x
def x_mm (w : Nat) : α := match st with
  | .int y :: .int x :: r => cond (Nat.ble (r.map fun v => v.category).sum 8) (go (pc + 3) ls (.int (cond (Nat.beq w 0) (x_max x y) (x_min x y)) :: r) M) z
  | _ => z
def x_cav (cm np v ci ml : Nat) : α := match x_pop np st [] with
  | some (As, .ref a :: r) => match sh a with
    | .inl (c, _) => cond (Nat.beq c ci && x_roomy As r) (cl cm ml (.ref a :: As) r (Nat.beq v 1)) z
    | .inr _ => z
  | _ => z
def x_cas (cm np v ml : Nat) : α := match x_pop np st [] with
  | some (As, r) => cond (x_roomy As r) (cl cm ml As r (Nat.beq v 1)) z
  | none => z
/-- one instruction, by what comes next: nothing (z), another place (go), an answer (rt), a call (cl) -/
noncomputable def x_K (i : xI) : α := match i.1 with
  | .iconst n => go (pc + 1) ls (.int (Int32.ofInt n) :: st) M
  | .bipush n => go (pc + 2) ls (.int (Int8.ofInt n).toInt32 :: st) M
  | .sipush n => go (pc + 3) ls (.int (Int16.ofInt n).toInt32 :: st) M
  | .lconst n => go (pc + 1) ls (.long (Int64.ofNat n.val) :: st) M
  | .ldc _ => match i.2 with
    | v :: _ => go (pc + 2) ls (.int (Int32.ofNat v) :: st) M
    | [] => z
  | .ldc_w _ => match i.2 with
    | v :: _ => go (pc + 3) ls (.int (Int32.ofNat v) :: st) M
    | [] => z
  | .ldc2_w _ => match i.2 with
    | v :: _ => go (pc + 3) ls (.long (Int64.ofNat v) :: st) M
    | [] => z
  | .iload k => x_ldi z go pc ls st M k 2
  | .iload_n k => x_ldi z go pc ls st M k.val 1
  | .lload k => x_ldl z go pc ls st M k 2
  | .lload_n k => x_ldl z go pc ls st M k.val 1
  | .aload k => x_lda z go pc ls st M k 2
  | .aload_n k => x_lda z go pc ls st M k.val 1
  | .istore k => x_sti z go pc ls st M k 2
  | .istore_n k => x_sti z go pc ls st M k.val 1
  | .lstore k => x_stl z go pc ls st M k 2
  | .lstore_n k => x_stl z go pc ls st M k.val 1
  | .astore k => x_sta z go pc ls st M k 2
  | .astore_n k => x_sta z go pc ls st M k.val 1
  | .iinc k n => match ls[k]? with
    | some (some (.int x)) => go (pc + 3) (x_st1 ls k (.int (x + Int32.ofInt n))) st M
    | _ => z
  | .iadd => x_bi z go pc ls st M (fun x y => x + y)
  | .isub => x_bi z go pc ls st M (fun x y => x - y)
  | .imul => x_bi z go pc ls st M (fun x y => x * y)
  | .idiv => match st with
    | .int y :: .int x :: r => if y = 0 then z else go (pc + 1) ls (.int (x / y) :: r) M
    | _ => z
  | .irem => match st with
    | .int y :: .int x :: r => if y = 0 then z else go (pc + 1) ls (.int (x - x / y * y) :: r) M
    | _ => z
  | .iand => x_bi z go pc ls st M (fun x y => x &&& y)
  | .ior => x_bi z go pc ls st M (fun x y => x ||| y)
  | .ixor => x_bi z go pc ls st M (fun x y => x ^^^ y)
  | .ishl => x_bi z go pc ls st M (fun x y => x <<< (y &&& 31))
  | .ishr => x_bi z go pc ls st M (fun x y => x >>> (y &&& 31))
  | .iushr => x_bi z go pc ls st M (fun x y => (x.toUInt32 >>> (y.toUInt32 &&& Int32.toUInt32 31)).toInt32)
  | .ladd => x_bl z go pc ls st M (fun x y => x + y)
  | .lsub => x_bl z go pc ls st M (fun x y => x - y)
  | .lmul => x_bl z go pc ls st M (fun x y => x * y)
  | .lrem => match st with
    | .long y :: .long x :: r => if y = 0 then z else go (pc + 1) ls (.long (x - x / y * y) :: r) M
    | _ => z
  | .lcmp => match st with
    | .long y :: .long x :: r => go (pc + 1) ls (.int (x_lc x y) :: r) M
    | _ => z
  | .i2l => match st with
    | .int x :: r => go (pc + 1) ls (.long x.toInt64 :: r) M
    | _ => z
  | .l2i => match st with
    | .long x :: r => go (pc + 1) ls (.int x.toInt32 :: r) M
    | _ => z
  | .i2c => match st with
    | .int x :: r => go (pc + 1) ls (.int (x.toUInt32 % 65536).toInt32 :: r) M
    | _ => z
  | .pop => match st with
    | v :: r => cond (x_is1 v) (go (pc + 1) ls r M) z
    | _ => z
  | .dup => match st with
    | v :: r => cond (x_is1 v) (go (pc + 1) ls (v :: v :: r) M) z
    | _ => z
  | .dup2 => match st with
    | v :: w :: r => cond (x_is1 v && x_is1 w) (go (pc + 1) ls (v :: w :: v :: w :: r) M) z
    | _ => z
  | .goto _ => match i.2 with
    | t :: _ => go t ls st M
    | [] => z
  | .if_icmp c _ => match i.2 with
    | t :: _ => match st with
      | .int y :: .int x :: r => x_br go pc ls M c x y t r
      | _ => z
    | [] => z
  | .ifCond c _ => match i.2 with
    | t :: _ => match st with
      | .int x :: r => x_br go pc ls M c x 0 t r
      | _ => z
    | [] => z
  | .tableswitch _ _ _ _ => match i.2 with
    | d :: ts => match st with
      | .int x :: r => x_tsw go ls M x d r 0 ts
      | _ => z
    | [] => z
  | .lookupswitch _ _ => match i.2 with
    | d :: ts => match st with
      | .int x :: r => x_lsw go ls M x d r ts
      | _ => z
    | [] => z
  | .getfield _ => match i.2 with
    | ci :: k :: _ => x_get sh z go pc ls st M ci k
    | _ => z
  | .putfield _ => match i.2 with
    | ci :: k :: _ => x_put sh z go pc ls st M ci k
    | _ => z
  | .iaload => x_ald sh z go pc ls st M 0
  | .caload => x_ald sh z go pc ls st M 1
  | .aaload => x_aal sh z go pc ls st M
  | .iastore => x_ast sh z go pc ls st M 0 (fun x => x)
  | .castore => x_ast sh z go pc ls st M 1 (fun x => vp_nar .char x)
  | .arraylength => x_aln sh z go pc ls st M
  | .invokevirtual _ => match i.2 with
    | cm :: np :: v :: ci :: ml :: _ => x_cav sh z cl st cm np v ci ml
    | _ => z
  | .invokestatic _ => match i.2 with
    | [_] => x_cpy sh z go pc ls st M
    | [w, _] => x_mm z go pc ls st M w
    | cm :: np :: v :: _ :: ml :: _ => x_cas z cl st cm np v ml
    | _ => z
  | .ireturn => match st with
    | [.int v] => match i.2 with
      | 0 :: _ => rt v
      | _ => if v = 0 ∨ v = 1 then rt v else z
    | _ => z
  | .return_ => match st with
    | [] => rt 0
    | _ => z
  | _ => z
end
abbrev xR : Type := Option (Int32 × xM)
abbrev xF : Type := Nat → Nat → xS → List Value → xM → xR
/-- a step at place pc of a method with the code co: calls by f, what comes behind by g -/
noncomputable def x_B (sh : xH) (co : Nat → Option xI) (f g : xF) (mi pc : Nat) (ls : xS) (st : List Value) (M : xM) : xR := match co pc with
  | none => none
  | some i => x_K sh none (fun pc' ls' st' M' => g mi pc' ls' st' M') (fun r => some (r, M)) (fun cm ml As r v => (f cm 0 (x_ent ml As) [] M).bind (fun q => g mi (pc + 3) ls (cond v r (.int q.1 :: r)) q.2)) pc ls st M i
def x_co (mi pc : Nat) : Option xI := match x_cs[mi]? with
  | some c => c pc
  | none => none
noncomputable def x_ev (sh : xH) (n : Nat) : xF := Nat.rec (fun _ _ _ _ _ => none) (fun _ f => fun mi => x_B sh (x_co mi) f f mi) n
theorem x_ev_0 (sh : xH) (mi pc : Nat) (ls : xS) (st : List Value) (M : xM) : x_ev sh 0 mi pc ls st M = none := rfl
theorem x_ev_s (sh : xH) (n mi pc : Nat) (ls : xS) (st : List Value) (M : xM) : x_ev sh (n + 1) mi pc ls st M = x_B sh (x_co mi) (x_ev sh n) (x_ev sh n) mi pc ls st M := rfl
