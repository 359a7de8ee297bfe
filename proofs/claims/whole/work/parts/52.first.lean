/-! the first paper: what the class's own reader makes of it -/
def z_by : List Nat := [119, 51, 44, 49, 44, 52, 59, 119, 50, 44, 53, 44, 53, 59, 119, 52, 44, 50, 44, 55, 59, 119, 49, 44, 48, 44, 51, 59, 119, 53, 44, 54, 44, 49, 59, 114, 48, 44, 54, 59, 114, 49, 44, 57, 59, 114, 50, 44, 52, 59, 114, 51, 44, 56, 59, 114, 49, 44, 50, 59, 110, 48, 49, 59, 110, 50, 52, 59, 110, 49, 51, 48, 59, 110, 51, 59]
def x_shC (a : Nat) : xQ := cond (Nat.blt a 40) (x_sh a) (.inr (9, 0, []))
/-- the class's cells, the text filled -/
def z_M1 : xM := fun a k => cond (Nat.beq a 2) (nI (z_by.getD k 0)) (cond (Nat.beq a 1 && Nat.beq k 1) (nI 76) (cond (Nat.beq a 17 && Nat.beq k 0) (nI 8) (cond (Nat.beq a 19 && Nat.beq k 0) (nI 2) (nI 0))))
def z_ok1 (r : Int32 × xM) : Bool := decide (r.2 3 6 = nI 5)
theorem z_try : (match x_ev x_shC 400 2 0 [some (.ref 1), some (.ref 3), none, none, none] [] z_M1 with
  | some r => z_ok1 r
  | none => false) = true := by decide +kernel
