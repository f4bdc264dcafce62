/-! THE START: what the two constructors leave -/
def h00 : Hp := ([], fun _ _ => 0, fun _ _ => 0, fun _ _ => none)
def f_start (n : Nat) : Option Hp :=
  (nwO 7 h00).bind fun x0 => (f_X7_init n x0.1 x0.2).bind fun x4 => (nwO 8 x4).bind fun x8 => f_X8_init n x8.1 x8.2
def chk (h : Hp) : Bool := decide (h.1 = SH) && RT.all (fun x => decide (h.2.2.2 x.1 x.2.1 = some x.2.2)) && decide (h.2.2.2 0 2 = some 2) && decide (h.2.2.2 0 3 = some 15) && decide (h.2.2.2 28 2 = some 15) && decide (h.2.2.2 41 2 = some 2) && (List.range 60).all (fun q => (List.range 7).all fun j => decide (h.2.1 q j = 0 ∨ h.2.1 q j = 1) || decide ¬ ((q = 32 ∨ q = 36 ∨ q = 52 ∨ q = 56) ∧ (j = 4 ∨ j = 6) ∨ (6 ≤ q ∧ q ≤ 14 ∨ 19 ≤ q ∧ q ≤ 27) ∧ j = 2 ∨ q = 41 ∧ j = 4))
theorem start_ok : (f_start 1000).map chk = some true := by decide +kernel
theorem start_ok2 : (f_start (2 ^ 40)).map chk = some true := by decide +kernel
