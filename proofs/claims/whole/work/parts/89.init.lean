/-! the constructors -/
/-- the memory at the law's start -/
def zM0 (L : Nat) (xs : Nat → Int32) : zM := (0, 0, (fun i j => if i = 1000 then zEag j else if i = 1001 then zRis j else if i = 1002 then xs j else 0), (fun i _ => if i = 1002 then L else 0))
def zIn (M : zM) : Option zM := (mk M 8 13).bind fun M1 => (f_X8_init 1 M1).bind fun M3 => (mk M3 9 58).bind fun M5 => f_X9_init 144 M5
theorem zIn_t : ((zIn (zM0 5 (fun _ => 0))).map fun M => (M.1, M.2.1, mR M 1 0, mR M 144 57)) = some (178, 4062, 2, 178) := by decide +kernel
