def at_new (ci : Nat) : ax_M := match mx_nth mx_DF ci with
  | some fs => ax_ma (0, ax_te 8) (.inl (ci, ax_emb fs))
  | none => (0, ax_te 8)
def at_run (k : Nat) (as : List ax_V) (M : ax_M) : Bool := match ax_call mx_SAx (1300, 0, 6) [] 7 5000 30 k as M [] with
  | some [o] => Nat.blt 0 o.2.1.1
  | _ => false
set_option maxRecDepth 100000 in
theorem at_3 : at_run 118 [.inl (.ref 0)] (at_new 11) = true := by decide +kernel
