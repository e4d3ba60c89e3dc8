/-! THE SMALL MACHINE: its instructions -/
def mx_push (v : Value) (n : Nat) (c : mx_C) : Option mx_C := some (c.1 + n, c.2.1, v :: c.2.2.1, c.2.2.2)
def mx_ldi (a n : Nat) (c : mx_C) : Option mx_C := match mx_lk a c.2.1 with
  | some (.int x) => some (c.1 + n, c.2.1, .int x :: c.2.2.1, c.2.2.2)
  | _ => none
def mx_ldl (a n : Nat) (c : mx_C) : Option mx_C := match mx_lk a c.2.1 with
  | some (.long x) => some (c.1 + n, c.2.1, .long x :: c.2.2.1, c.2.2.2)
  | _ => none
def mx_lda (a n : Nat) (c : mx_C) : Option mx_C := match mx_lk a c.2.1 with
  | some (.ref x) => some (c.1 + n, c.2.1, .ref x :: c.2.2.1, c.2.2.2)
  | _ => none
def mx_sti (a n : Nat) (c : mx_C) : Option mx_C := match c.2.2.1 with
  | .int x :: st => some (c.1 + n, mx_sto a (.int x) c.2.1, st, c.2.2.2)
  | _ => none
def mx_stl (a n : Nat) (c : mx_C) : Option mx_C := match c.2.2.1 with
  | .long x :: st => some (c.1 + n, mx_sto2 a (.long x) c.2.1, st, c.2.2.2)
  | _ => none
def mx_sta (a n : Nat) (c : mx_C) : Option mx_C := match c.2.2.1 with
  | .ref x :: st => some (c.1 + n, mx_sto a (.ref x) c.2.1, st, c.2.2.2)
  | _ => none
def mx_inc (a d : Nat) (c : mx_C) : Option mx_C := match mx_lk a c.2.1 with
  | some (.int x) => some (c.1 + 3, mx_sto a (.int (x + Int32.ofNat d)) c.2.1, c.2.2.1, c.2.2.2)
  | _ => none
def mx_ii (f : Int32 → Int32 → Option Value) (c : mx_C) : Option mx_C := match c.2.2.1 with
  | .int y :: .int x :: st => (match f x y with
    | some v => some (c.1 + 1, c.2.1, v :: st, c.2.2.2)
    | none => none)
  | _ => none
def mx_ll (f : Int64 → Int64 → Option Value) (c : mx_C) : Option mx_C := match c.2.2.1 with
  | .long y :: .long x :: st => (match f x y with
    | some v => some (c.1 + 1, c.2.1, v :: st, c.2.2.2)
    | none => none)
  | _ => none
def mx_li (f : Int64 → Int32 → Value) (c : mx_C) : Option mx_C := match c.2.2.1 with
  | .int y :: .long x :: st => some (c.1 + 1, c.2.1, f x y :: st, c.2.2.2)
  | _ => none
def mx_i1 (f : Int32 → Value) (c : mx_C) : Option mx_C := match c.2.2.1 with
  | .int x :: st => some (c.1 + 1, c.2.1, f x :: st, c.2.2.2)
  | _ => none
def mx_l1 (f : Int64 → Value) (c : mx_C) : Option mx_C := match c.2.2.1 with
  | .long x :: st => some (c.1 + 1, c.2.1, f x :: st, c.2.2.2)
  | _ => none
def mx_is2 : Value → Bool
  | .long _ => true
  | .double _ => true
  | _ => false
theorem mx_is2_cat {v : Value} (h : mx_is2 v = false) : v.category = 1 := by cases v <;> first | rfl | cases h
def mx_dup (c : mx_C) : Option mx_C := match c.2.2.1 with
  | v :: st => bif mx_is2 v then none else some (c.1 + 1, c.2.1, v :: v :: st, c.2.2.2)
  | _ => none
def mx_pop (c : mx_C) : Option mx_C := match c.2.2.1 with
  | v :: st => bif mx_is2 v then none else some (c.1 + 1, c.2.1, st, c.2.2.2)
  | _ => none
def mx_dup2 (c : mx_C) : Option mx_C := match c.2.2.1 with
  | v :: w :: st => bif mx_is2 v || mx_is2 w then none else some (c.1 + 1, c.2.1, v :: w :: v :: w :: st, c.2.2.2)
  | _ => none
def mx_if (p : Int32 → Bool) (t : Nat) (c : mx_C) : Option mx_C := match c.2.2.1 with
  | .int x :: st => some (bif p x then t else c.1 + 3, c.2.1, st, c.2.2.2)
  | _ => none
def mx_if2 (p : Int32 → Int32 → Bool) (t : Nat) (c : mx_C) : Option mx_C := match c.2.2.1 with
  | .int y :: .int x :: st => some (bif p x y then t else c.1 + 3, c.2.1, st, c.2.2.2)
  | _ => none
/-- a table switch's target -/
def mx_tsw (d : Nat) (lo : Int) (ts : List Nat) (x : Int) : Nat := match x - lo with
  | .ofNat k => (match mx_nth ts k with
    | some t => t
    | none => d)
  | .negSucc _ => d
/-- a lookup switch's target: keys and targets -/
def mx_lsw (d : Nat) (x : Int32) : List Nat → Nat
  | k :: t :: r => bif x == Int32.ofNat k then t else mx_lsw d x r
  | _ => d
def mx_sw (f : Int32 → Nat) (c : mx_C) : Option mx_C := match c.2.2.1 with
  | .int x :: st => some (f x, c.2.1, st, c.2.2.2)
  | _ => none
def mx_get (ci k : Nat) (c : mx_C) : Option mx_C := match c.2.2.1 with
  | .ref q :: st => (match mx_nth c.2.2.2 q with
    | some (.inl (cj, fs)) => bif Nat.beq cj ci then (match mx_nth fs k with
      | some v => some (c.1 + 3, c.2.1, v :: st, c.2.2.2)
      | none => none) else none
    | _ => none)
  | _ => none
/-- the fields of a string: its bytes, its coder -/
def mx_gstr (k N : Nat) (c : mx_C) : Option mx_C := match c.2.2.1 with
  | .ref q :: st => bif Nat.ble 1100 q && Nat.blt q (1100 + N) then some (c.1 + 3, c.2.1, (bif Nat.beq k 0 then .ref (q + 100) else .int 0) :: st, c.2.2.2) else none
  | _ => none
def mx_put (ci k : Nat) (c : mx_C) : Option mx_C := match c.2.2.1 with
  | .int v :: .ref q :: st => (match mx_nth c.2.2.2 q with
    | some (.inl (cj, fs)) => bif Nat.beq cj ci && Nat.blt k fs.length then some (c.1 + 3, c.2.1, st, c.2.2.2.set q (.inl (cj, fs.set k (.int v)))) else none
    | _ => none)
  | _ => none
def mx_putF (ci k : Nat) (c : mx_C) : Option mx_C := match c.2.2.1 with
  | .ref v :: .ref q :: st => (match mx_nth c.2.2.2 q with
    | some (.inl (cj, fs)) => bif Nat.beq cj ci && Nat.blt k fs.length then some (c.1 + 3, c.2.1, st, c.2.2.2.set q (.inl (cj, fs.set k (.ref v)))) else none
    | _ => none)
  | _ => none
/-- contents of an array's kind -/
def mx_kd (t : Nat) (x : vp_A) : Bool := match x.2 with
  | .inl _ => Nat.blt t 3
  | .inr (.inl _) => Nat.beq t 3
  | _ => false
/-- an array that can be read -/
def mx_ar (SA : mx_S) (M : mx_M) (q : Nat) : Option (Nat × vp_A) := bif Nat.ble 1000 q then SA (q - 1000) else match mx_nth M q with
  | some (.inr (t, x)) => bif mx_kd t x then some (t, x) else none
  | _ => none
def mx_alen (SA : mx_S) (c : mx_C) : Option mx_C := match c.2.2.1 with
  | .ref q :: st => (match mx_ar SA c.2.2.2 q with
    | some (_, x) => some (c.1 + 1, c.2.1, .int (Int32.ofNat x.1) :: st, c.2.2.2)
    | _ => none)
  | _ => none
def mx_inb (i : Int32) (n : Nat) : Bool := match i.toInt with
  | .ofNat k => Nat.blt k n
  | .negSucc _ => false
def mx_ald (SA : mx_S) (t : Nat) (c : mx_C) : Option mx_C := match c.2.2.1 with
  | .int i :: .ref q :: st => (match mx_ar SA c.2.2.2 q with
    | some (u, x) => bif Nat.beq u t && mx_inb i x.1 then some (c.1 + 1, c.2.1, mx_con x i.toNatClampNeg :: st, c.2.2.2) else none
    | _ => none)
  | _ => none
/-- what an array of ints, bytes, booleans holds of a number -/
def mx_nar (t : Nat) (v : Int32) : Int32 := match t with
  | 0 => v
  | 1 => vp_nar .byte v
  | _ => vp_nar .boolean v
def mx_ast (t : Nat) (c : mx_C) : Option mx_C := match c.2.2.1 with
  | .int v :: .int i :: .ref q :: st => (match mx_nth c.2.2.2 q with
    | some (.inr (u, n, .inl f)) => bif Nat.beq u t && mx_inb i n then some (c.1 + 1, c.2.1, st, c.2.2.2.set q (.inr (u, n, .inl (upd f i.toNatClampNeg (mx_nar t v))))) else none
    | _ => none)
  | _ => none
def mx_last (c : mx_C) : Option mx_C := match c.2.2.1 with
  | .long v :: .int i :: .ref q :: st => (match mx_nth c.2.2.2 q with
    | some (.inr (u, n, .inr (.inl f))) => bif Nat.beq u 3 && mx_inb i n then some (c.1 + 1, c.2.1, st, c.2.2.2.set q (.inr (u, n, .inr (.inl (vp_updL f i.toNatClampNeg v))))) else none
    | _ => none)
  | _ => none
def mx_new (ci : Nat) (fs : List Value) (c : mx_C) : Option mx_C := bif Nat.blt c.2.2.2.length 999 then some (c.1 + 3, c.2.1, .ref c.2.2.2.length :: c.2.2.1, c.2.2.2 ++ [.inl (ci, fs)]) else none
/-- a new array's cells -/
def mx_zero (t n : Nat) : vp_A := match t with
  | 3 => (n, .inr (.inl (fun _ => 0)))
  | _ => (n, .inl (fun _ => 0))
def mx_newa (t : Nat) (c : mx_C) : Option mx_C := match c.2.2.1 with
  | .int n :: st => bif mx_inb n 2000 && Nat.blt c.2.2.2.length 999 then some (c.1 + 2, c.2.1, .ref c.2.2.2.length :: st, c.2.2.2 ++ [.inr (t, mx_zero t n.toNatClampNeg)]) else none
  | _ => none
def mx_cat : List Value → Nat
  | [] => 0
  | v :: l => (bif mx_is2 v then 2 else 1) + mx_cat l
def mx_obj (c : mx_C) : Option mx_C := match c.2.2.1 with
  | .ref _ :: st => bif Nat.ble (mx_cat st) 8 then some (c.1 + 3, c.2.1, st, c.2.2.2) else none
  | _ => none
/-- an array of ints -/
def mx_ia (M : mx_M) (q : Nat) : Option (Nat × (Nat → Int32)) := match mx_nth M q with
  | some (.inr (t, n, .inl f)) => bif Nat.beq t 0 then some (n, f) else none
  | _ => none
def mx_copy (c : mx_C) : Option mx_C := match c.2.2.1 with
  | .int n :: .int dp :: .ref q1 :: .int sp :: .ref q0 :: st => (match mx_ia c.2.2.2 q0 with
    | some f => (match mx_ia c.2.2.2 q1 with
      | some g => bif mx_inb sp 2000 && (mx_inb dp 2000 && (mx_inb n 2000 && (Nat.ble (sp.toNatClampNeg + n.toNatClampNeg) f.1 && (Nat.ble (dp.toNatClampNeg + n.toNatClampNeg) g.1 && Nat.ble (mx_cat st) 8)))) then some (c.1 + 3, c.2.1, st, c.2.2.2.set q1 (.inr (0, g.1, .inl (va_cpy f.2 g.2 sp.toNatClampNeg dp.toNatClampNeg n.toNatClampNeg)))) else none
      | none => none)
    | none => none)
  | _ => none
def mx_mm (f : Int32 → Int32 → Int32) (c : mx_C) : Option mx_C := match c.2.2.1 with
  | .int y :: .int x :: st => bif Nat.ble (mx_cat st) 8 then some (c.1 + 3, c.2.1, .int (f x y) :: st, c.2.2.2) else none
  | _ => none
def mx_div (x y : Int32) : Option Value := if y = 0 then none else some (.int (x / y))
def mx_rem (x y : Int32) : Option Value := if y = 0 then none else some (.int (x - x / y * y))
def mx_ldiv (x y : Int64) : Option Value := if y = 0 then none else some (.long (x / y))
def mx_pop2 (c : mx_C) : Option mx_C := match c.2.2.1 with
  | v :: st => bif mx_is2 v then some (c.1 + 1, c.2.1, st, c.2.2.2) else none
  | _ => none
/-- one instruction that is no call and no end -/
def mx_op (SA : mx_S) (SF : List mx_F) (DF : List (List Value)) (N : Nat) (i : mx_I) (c : mx_C) : Option mx_C := match i.1 with
  | 0 => mx_push (.int (Int32.ofNat i.2.1)) i.2.2.1 c
  | 1 => mx_push (.long (Int64.ofNat i.2.1)) i.2.2.1 c
  | 2 => mx_ldi i.2.1 i.2.2.1 c
  | 3 => mx_ldl i.2.1 i.2.2.1 c
  | 4 => mx_lda i.2.1 i.2.2.1 c
  | 5 => mx_sti i.2.1 i.2.2.1 c
  | 6 => mx_stl i.2.1 i.2.2.1 c
  | 7 => mx_sta i.2.1 i.2.2.1 c
  | 8 => mx_inc i.2.1 i.2.2.1 c
  | 9 => mx_ii (fun x y => some (.int (x + y))) c
  | 10 => mx_ii (fun x y => some (.int (x - y))) c
  | 11 => mx_ii (fun x y => some (.int (x * y))) c
  | 12 => mx_ii (fun x y => some (.int (x &&& y))) c
  | 13 => mx_ii (fun x y => some (.int (x ||| y))) c
  | 14 => mx_ii mx_div c
  | 15 => mx_ii mx_rem c
  | 16 => mx_i1 (fun x => .int (-x)) c
  | 17 => mx_ii (fun x y => some (.int (x <<< (y &&& 31)))) c
  | 18 => mx_ii (fun x y => some (.int (x >>> (y &&& 31)))) c
  | 19 => mx_ll (fun x y => some (.long (x + y))) c
  | 20 => mx_ll (fun x y => some (.long (x - y))) c
  | 21 => mx_ll (fun x y => some (.long (x * y))) c
  | 22 => mx_ll mx_ldiv c
  | 23 => mx_ll (fun x y => some (.long (x &&& y))) c
  | 24 => mx_ll (fun x y => some (.long (x ||| y))) c
  | 25 => mx_li (fun x y => .long (x <<< (y.toInt64 &&& 63))) c
  | 26 => mx_li (fun x y => .long (x >>> (y.toInt64 &&& 63))) c
  | 27 => mx_ll (fun x y => some (.int (lg_cmp x y))) c
  | 28 => mx_i1 (fun x => .long x.toInt64) c
  | 29 => mx_l1 (fun x => .int x.toInt32) c
  | 30 => mx_i1 (fun x => .int x.toInt8.toInt32) c
  | 31 => mx_i1 (fun x => .int x.toInt16.toInt32) c
  | 32 => mx_i1 (fun x => .int (x.toUInt32 % 65536).toInt32) c
  | 33 => mx_dup c
  | 34 => mx_pop c
  | 35 => mx_dup2 c
  | 36 => mx_if (fun x => decide (x = 0)) i.2.1 c
  | 37 => mx_if (fun x => !decide (x = 0)) i.2.1 c
  | 38 => mx_if (fun x => decide (x < 0)) i.2.1 c
  | 39 => mx_if (fun x => decide (0 ≤ x)) i.2.1 c
  | 40 => mx_if (fun x => decide (0 < x)) i.2.1 c
  | 41 => mx_if (fun x => decide (x ≤ 0)) i.2.1 c
  | 42 => mx_if2 (fun x y => decide (x = y)) i.2.1 c
  | 43 => mx_if2 (fun x y => !decide (x = y)) i.2.1 c
  | 44 => mx_if2 (fun x y => decide (x < y)) i.2.1 c
  | 45 => mx_if2 (fun x y => decide (y ≤ x)) i.2.1 c
  | 46 => mx_if2 (fun x y => decide (y < x)) i.2.1 c
  | 47 => mx_if2 (fun x y => decide (x ≤ y)) i.2.1 c
  | 48 => some (i.2.1, c.2.1, c.2.2.1, c.2.2.2)
  | 49 => mx_sw (fun x => mx_tsw i.2.1 (Int32.ofNat i.2.2.1).toInt i.2.2.2 x.toInt) c
  | 50 => mx_sw (fun x => mx_lsw i.2.1 x i.2.2.2) c
  | 51 => mx_get i.2.1 i.2.2.1 c
  | 52 => mx_gstr i.2.1 N c
  | 53 => mx_put i.2.1 i.2.2.1 c
  | 54 => mx_putF i.2.1 i.2.2.1 c
  | 55 => (match mx_nth SF i.2.1 with
    | some q => mx_push q.2.2.2 3 c
    | none => none)
  | 56 => bif Nat.blt i.2.1 N then mx_push (.ref (1100 + i.2.1)) 2 c else none
  | 57 => mx_alen SA c
  | 58 => mx_ald SA i.2.1 c
  | 59 => mx_ast i.2.1 c
  | 60 => mx_last c
  | 61 => (match mx_nth DF i.2.1 with
    | some fs => mx_new i.2.1 fs c
    | none => none)
  | 62 => mx_newa i.2.1 c
  | 63 => mx_obj c
  | 64 => mx_copy c
  | 65 => mx_mm (fun x y => if x < y then y else x) c
  | 66 => mx_mm (fun x y => if y < x then y else x) c
  | 67 => mx_pop2 c
  | _ => none
