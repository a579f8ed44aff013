/-! THE LAW: its code, row by row -/
def rw_Law720 : List (Nat × Instr × Nat) := [(1164, .ireturn, 1)]
theorem ro_Law720 : rw_Law720.all (fun r => decide (decode code r.1 = .ok r.2)) = true := by decide +kernel
theorem d_Law_1164 : decode code 1164 = .ok (.ireturn, 1) := am_row (r := (1164, .ireturn, 1)) ro_Law720 0 rfl
