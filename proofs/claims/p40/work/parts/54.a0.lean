/-! A RUN WITH UNKNOWN NUMBERS: a value is a known one, or (number s of the unknown ones) + k, or any int (true), any long (false) -/
abbrev ax_V : Type := Value ⊕ ((Nat × Int) ⊕ Bool)
abbrev ax_E : Type := (Nat × List ax_V) ⊕ ((Nat × vp_A) ⊕ (Nat × Nat))
/-- the memory: how many cells, and a tree of them -/
def ax_Tr : Nat → Type
  | 0 => Option ax_E
  | n + 1 => ax_Tr n × ax_Tr n
def ax_te : (n : Nat) → ax_Tr n
  | 0 => (none : Option ax_E)
  | n + 1 => (ax_te n, ax_te n)
def ax_tg : (n : Nat) → ax_Tr n → Nat → Option ax_E
  | 0, t, _ => t
  | n + 1, t, q => bif Nat.beq (q % 2) 0 then ax_tg n t.1 (q / 2) else ax_tg n t.2 (q / 2)
def ax_ts : (n : Nat) → ax_Tr n → Nat → ax_E → ax_Tr n
  | 0, _, _, e => some e
  | n + 1, t, q, e => bif Nat.beq (q % 2) 0 then (ax_ts n t.1 (q / 2) e, t.2) else (t.1, ax_ts n t.2 (q / 2) e)
abbrev ax_M : Type := Nat × ax_Tr 8
def ax_mg (M : ax_M) (q : Nat) : Option ax_E := bif Nat.blt q M.1 then ax_tg 8 M.2 q else none
def ax_ms (M : ax_M) (q : Nat) (e : ax_E) : ax_M := (M.1, ax_ts 8 M.2 q e)
def ax_ma (M : ax_M) (e : ax_E) : ax_M := (M.1 + 1, ax_ts 8 M.2 M.1 e)
abbrev ax_L : Type := List (Nat × ax_V)
/-- between what bounds each unknown number is -/
abbrev ax_B : Type := List (Int × Int)
abbrev ax_C : Type := Nat × ax_L × List ax_V × ax_M × ax_B
abbrev ax_O : Type := Option ax_V × ax_M × ax_B
def ax_any : ax_V := .inr (.inr true)
def ax_anyL : ax_V := .inr (.inr false)
def ax_int (x : Int32) : ax_V := .inl (.int x)
def ax_lk (i : Nat) : ax_L → Option ax_V
  | [] => none
  | (j, v) :: l => bif Nat.beq j i then some v else ax_lk i l
/-- a value of two words -/
def ax_is2 : ax_V → Bool
  | .inl v => mx_is2 v
  | .inr (.inl _) => false
  | .inr (.inr b) => !b
def ax_sto (i : Nat) (v : ax_V) (lv : ax_L) : ax_L := (i, v) :: lv.filter (fun q => !(Nat.beq q.1 i) && !(Nat.beq (q.1 + 1) i && ax_is2 q.2))
def ax_sto2 (i : Nat) (v : ax_V) (lv : ax_L) : ax_L := (i, v) :: lv.filter (fun q => !(Nat.beq q.1 i) && (!(Nat.beq q.1 (i + 1)) && !(Nat.beq (q.1 + 1) i && ax_is2 q.2)))
/-- a number whose bounds are one is known -/
def ax_nrm (B : ax_B) (v : ax_V) : ax_V := match v with
  | .inr (.inl (s, k)) => (match mx_nth B s with
    | some (lo, hi) => bif lo == hi then .inl (.int (Int32.ofInt (lo + k))) else v
    | none => v)
  | v => v
/-- kinds: 0 an int, 1 a long, 2 a reference, 3 something else -/
def ax_kind : ax_V → Nat
  | .inl (.int _) => 0
  | .inl (.long _) => 1
  | .inl (.ref _) => 2
  | .inl _ => 3
  | .inr (.inl _) => 0
  | .inr (.inr true) => 0
  | .inr (.inr false) => 1
/-- numbers made of unknown ones, by what they are made of: (operation, number, constant) -/
abbrev ax_T : Type := List (Nat × Nat × Int32)
def ax_der (o s : Nat) (y : Int32) : ax_T → Nat → Option Nat
  | [], _ => none
  | (p, t, z) :: r, k => bif Nat.beq p o && (Nat.beq t s && z == y) then some k else ax_der o s y r (k + 1)
/-- a sum with a constant that stays within 32 bits -/
def ax_off (B : ax_B) (s : Nat) (k d : Int) : ax_V := match mx_nth B s with
  | some (lo, hi) => bif decide (-2147483648 ≤ lo + k + d) && decide (hi + k + d ≤ 2147483647) then .inr (.inl (s, k + d)) else ax_any
  | none => ax_any
/-! two ints: what an operation makes of them -/
def ax_drv (DT : ax_T) (n0 o s : Nat) (k : Int) (b : Int32) : ax_V := match ax_der o s b DT n0 with
  | some t => bif k == 0 then .inr (.inl (t, 0)) else ax_any
  | none => ax_any
def ax_iiC (DT : ax_T) (n0 : Nat) (B : ax_B) (o s : Nat) (k : Int) (b : Int32) : Option ax_V := bif Nat.beq o 9 then some (ax_off B s k b.toInt) else bif Nat.beq o 10 then some (ax_off B s k (-b.toInt)) else bif Nat.beq o 14 || Nat.beq o 15 then (bif b == 0 then none else some (ax_drv DT n0 o s k b)) else bif Nat.beq o 12 then some (ax_drv DT n0 o s k b) else some ax_any
def ax_iiD (B : ax_B) (o s : Nat) (k : Int) (a : Int32) : Option ax_V := bif Nat.beq o 9 then some (ax_off B s k a.toInt) else bif Nat.beq o 14 || Nat.beq o 15 then none else some ax_any
/-- it may be 0 -/
def ax_zer (y : ax_V) : Bool := match y with
  | .inl (.int b) => b == 0
  | _ => true
def ax_ii (DT : ax_T) (n0 : Nat) (B : ax_B) (o : Nat) (x y : ax_V) : Option ax_V := match x, y with
  | .inr (.inl p), .inl (.int b) => ax_iiC DT n0 B o p.1 p.2 b
  | .inl (.int a), .inr (.inl p) => ax_iiD B o p.1 p.2 a
  | x, y => bif (Nat.beq (ax_kind x) 0 && Nat.beq (ax_kind y) 0) && !((Nat.beq o 14 || Nat.beq o 15) && ax_zer y) then some ax_any else none
/-- the operands of an operation on known values -/
def ax_top (n : Nat) (st : List ax_V) : Option (List Value × List ax_V) := match n, st with
  | 0, st => some ([], st)
  | n + 1, .inl v :: st => (match ax_top n st with
    | some (l, r) => some (v :: l, r)
    | none => none)
  | _, _ => none
def ax_emb (l : List Value) : List ax_V := l.map .inl
/-- how many operands an operation on the stack alone takes -/
def ax_ar (o : Nat) : Nat := bif Nat.ble o 15 then 2 else bif Nat.beq o 16 then 1 else bif Nat.ble o 27 then 2 else bif Nat.ble o 34 then 1 else bif Nat.beq o 35 then 2 else bif Nat.ble o 41 then 1 else bif Nat.ble o 47 then 2 else 1
/-- compares a number that is between two bounds with a constant: the bounds where 'less' holds, and where not -/
def ax_upd (B : ax_B) (s : Nat) (p : Int × Int) : ax_B := B.set s p
/-- a comparison x ? c of the number s + k: bounds where it holds, bounds where it doesn't (0 eq, 1 ne, 2 lt, 3 ge, 4 gt, 5 le) -/
def ax_cmp (o : Nat) (lo hi c : Int) : Option (Int × Int) × Option (Int × Int) :=
  let ok : Int × Int → Option (Int × Int) := fun p => bif decide (p.1 ≤ p.2) then some p else none
  let lt : Option (Int × Int) × Option (Int × Int) := (ok (lo, min hi (c - 1)), ok (max lo c, hi))
  let le : Option (Int × Int) × Option (Int × Int) := (ok (lo, min hi c), ok (max lo (c + 1), hi))
  let eq : Option (Int × Int) × Option (Int × Int) := (ok (max lo c, min hi c), bif lo == c then ok (lo + 1, hi) else bif hi == c then ok (lo, hi - 1) else some (lo, hi))
  match o with
  | 0 => eq
  | 1 => (eq.2, eq.1)
  | 2 => lt
  | 3 => (lt.2, lt.1)
  | 4 => (le.2, le.1)
  | _ => le
def ax_two {α : Type} (a b : Option α) : List α := match a, b with
  | some a, some b => [a, b]
  | some a, none => [a]
  | none, some b => [b]
  | none, none => []
/-- a branch on number s + k against a constant -/
def ax_br (o : Nat) (s : Nat) (k : Int) (c : Int) (t f : Nat) (lv : ax_L) (st : List ax_V) (M : ax_M) (B : ax_B) : Option (List ax_C) := match mx_nth B s with
  | some (lo, hi) => (match ax_cmp o lo hi (c - k) with
    | (a, b) => some (ax_two (a.map fun p => (t, lv, st, M, ax_upd B s p)) (b.map fun p => (f, lv, st, M, ax_upd B s p))))
  | none => none
/-- the comparison with its sides changed -/
def ax_flip (o : Nat) : Nat := match o with
  | 2 => 4
  | 3 => 5
  | 4 => 2
  | 5 => 3
  | o => o
def ax_both (t f : Nat) (lv : ax_L) (st : List ax_V) (M : ax_M) (B : ax_B) : List ax_C := [(t, lv, st, M, B), (f, lv, st, M, B)]
def ax_dec (o : Nat) (x y : Int) : Bool := match o with
  | 0 => x == y
  | 1 => !(x == y)
  | 2 => decide (x < y)
  | 3 => decide (y ≤ x)
  | 4 => decide (y < x)
  | _ => decide (x ≤ y)
/-- x ? y -/
def ax_if (o : Nat) (x y : ax_V) (t f : Nat) (lv : ax_L) (st : List ax_V) (M : ax_M) (B : ax_B) : Option (List ax_C) := match x, y with
  | .inl (.int a), .inl (.int b) => some [(bif ax_dec o a.toInt b.toInt then t else f, lv, st, M, B)]
  | .inr (.inl (s, k)), .inl (.int b) => ax_br o s k b.toInt t f lv st M B
  | .inl (.int a), .inr (.inl (s, k)) => ax_br (ax_flip o) s k a.toInt t f lv st M B
  | .inr (.inl (s, k)), .inr (.inl (u, l)) => bif Nat.beq s u then some [(bif ax_dec o k l then t else f, lv, st, M, B)] else some (ax_both t f lv st M B)
  | .inr (.inr true), .inl (.int _) => some (ax_both t f lv st M B)
  | .inl (.int _), .inr (.inr true) => some (ax_both t f lv st M B)
  | .inr (.inr true), .inr (.inl _) => some (ax_both t f lv st M B)
  | .inr (.inl _), .inr (.inr true) => some (ax_both t f lv st M B)
  | .inr (.inr true), .inr (.inr true) => some (ax_both t f lv st M B)
  | _, _ => none
/-- the targets of a table switch on an unknown number -/
def ax_sw (s : Nat) (k lo : Int) (lv : ax_L) (st : List ax_V) (M : ax_M) (B : ax_B) (a b : Int) : List Nat → Nat → List ax_C
  | [], _ => []
  | t :: ts, n => (bif decide (a ≤ lo + n - k) && decide (lo + n - k ≤ b) then [(t, lv, st, M, ax_upd B s (lo + n - k, lo + n - k))] else []) ++ ax_sw s k lo lv st M B a b ts (n + 1)
/-- an array that can be read: known contents, or how many of which kind; a script's elements are the unknown numbers, its length is one, too -/
def ax_arr (SA : mx_S) (M : ax_M) (q : Nat) : Option ((Nat × vp_A) ⊕ (Nat × Nat)) := bif Nat.ble 1000 q then (match SA (q - 1000) with
  | some x => some (.inl x)
  | none => none) else match ax_mg M q with
  | some (.inr x) => some x
  | _ => none
/-- what the script is: its number, where its elements' numbers begin, its length's number -/
abbrev ax_P : Type := Nat × Nat × Nat
def ax_con (x : vp_A) (i : Int32) : Option ax_V := bif mx_inb i x.1 then some (.inl (mx_con x i.toNatClampNeg)) else none
def ax_ald (SA : mx_S) (P : ax_P) (t : Nat) (M : ax_M) (B : ax_B) (q : Nat) (i : Int32) : Option ax_V :=
  bif Nat.beq q P.1 then (match i.toInt with
    | .ofNat j => (match mx_nth B P.2.2 with
      | some (lo, _) => bif decide ((j : Int) < lo) && Nat.beq t 0 then some (.inr (.inl (P.2.1 + j, 0))) else none
      | none => none)
    | .negSucc _ => none)
  else match ax_arr SA M q with
  | some (.inl (u, x)) => bif Nat.beq u t && (Nat.ble 1000 q || mx_kd u x) then ax_con x i else none
  | some (.inr (u, n)) => bif Nat.beq u t && mx_inb i n then some (bif Nat.beq t 3 then ax_anyL else ax_any) else none
  | none => none
def ax_ast (t : Nat) (M : ax_M) (q : Nat) (i : Int32) (v : ax_V) : Option ax_M := match ax_mg M q with
  | some (.inr (.inl (u, n, .inl f))) => bif Nat.beq u t && (Nat.blt u 3 && mx_inb i n) then (match v with
    | .inl (.int x) => some (ax_ms M q (.inr (.inl (u, n, .inl (upd f i.toNatClampNeg (mx_nar t x))))))
    | .inr (.inl _) => some (ax_ms M q (.inr (.inr (u, n))))
    | .inr (.inr true) => some (ax_ms M q (.inr (.inr (u, n))))
    | _ => none) else none
  | some (.inr (.inr (u, n))) => bif Nat.beq u t && (Nat.blt u 3 && (mx_inb i n && Nat.beq (ax_kind v) 0)) then some M else none
  | _ => none
def ax_last (M : ax_M) (q : Nat) (i : Int32) (v : ax_V) : Option ax_M := match ax_mg M q with
  | some (.inr (.inl (u, n, .inr (.inl f)))) => bif Nat.beq u 3 && mx_inb i n then (match v with
    | .inl (.long x) => some (ax_ms M q (.inr (.inl (u, n, .inr (.inl (vp_updL f i.toNatClampNeg x))))))
    | .inr (.inr false) => some (ax_ms M q (.inr (.inr (u, n))))
    | _ => none) else none
  | some (.inr (.inr (u, n))) => bif Nat.beq u 3 && (mx_inb i n && Nat.beq (ax_kind v) 1) then some M else none
  | _ => none
def ax_cat : List ax_V → Nat
  | [] => 0
  | v :: l => (bif ax_is2 v then 2 else 1) + ax_cat l
/-- operations on the stack alone, on values not all known -/
def ax_un (DT : ax_T) (n0 : Nat) (o : Nat) (pc : Nat) (lv : ax_L) (st : List ax_V) (M : ax_M) (B : ax_B) : Option (List ax_C) :=
  bif Nat.ble 9 o && Nat.ble o 18 then (bif Nat.beq o 16 then (match st with
      | x :: st => bif Nat.beq (ax_kind x) 0 then some [(pc + 1, lv, ax_any :: st, M, B)] else none
      | _ => none) else (match st with
      | y :: x :: st => (match ax_ii DT n0 B o x y with
        | some v => some [(pc + 1, lv, v :: st, M, B)]
        | none => none)
      | _ => none))
  else bif Nat.ble o 27 then (match st with
    | y :: x :: st => bif Nat.beq (ax_kind x) 1 && (Nat.beq (ax_kind y) (bif Nat.beq o 25 || Nat.beq o 26 then 0 else 1) && !(Nat.beq o 22)) then some [(pc + 1, lv, (bif Nat.beq o 27 then ax_any else ax_anyL) :: st, M, B)] else none
    | _ => none)
  else bif Nat.ble o 32 then (match st with
    | x :: st => bif Nat.beq (ax_kind x) (bif Nat.beq o 29 then 1 else 0) then some [(pc + 1, lv, (bif Nat.beq o 28 then ax_anyL else ax_any) :: st, M, B)] else none
    | _ => none)
  else bif Nat.beq o 33 then (match st with
    | x :: st => bif ax_is2 x then none else some [(pc + 1, lv, x :: x :: st, M, B)]
    | _ => none)
  else bif Nat.beq o 34 then (match st with
    | x :: st => bif ax_is2 x then none else some [(pc + 1, lv, st, M, B)]
    | _ => none)
  else bif Nat.beq o 35 then (match st with
    | x :: y :: st => bif ax_is2 x || ax_is2 y then none else some [(pc + 1, lv, x :: y :: x :: y :: st, M, B)]
    | _ => none)
  else none
/-! one instruction that is no call and no end: what may come -/
def ao_push (v : Value) (n : Nat) (c : ax_C) : Option (List ax_C) := some [(c.1 + n, c.2.1, .inl v :: c.2.2.1, c.2.2.2.1, c.2.2.2.2)]
def ao_load (kd a n : Nat) (c : ax_C) : Option (List ax_C) := match ax_lk a c.2.1 with
  | some v => bif Nat.beq (ax_kind v) kd then some [(c.1 + n, c.2.1, ax_nrm c.2.2.2.2 v :: c.2.2.1, c.2.2.2.1, c.2.2.2.2)] else none
  | none => none
def ao_store (kd a n : Nat) (c : ax_C) : Option (List ax_C) := match c.2.2.1 with
  | v :: st => bif Nat.beq (ax_kind v) kd then some [(c.1 + n, (bif Nat.beq kd 1 then ax_sto2 a v c.2.1 else ax_sto a v c.2.1), st, c.2.2.2.1, c.2.2.2.2)] else none
  | _ => none
def ao_incv (B : ax_B) (d : Nat) (v : ax_V) : Option ax_V := match v with
  | .inl (.int x) => some (.inl (.int (x + Int32.ofNat d)))
  | .inr (.inl (s, k)) => some (ax_off B s k (Int32.ofNat d).toInt)
  | .inr (.inr true) => some ax_any
  | _ => none
def ao_inc (a d : Nat) (c : ax_C) : Option (List ax_C) := match ax_lk a c.2.1 with
  | some v => (match ao_incv c.2.2.2.2 d (ax_nrm c.2.2.2.2 v) with
    | some w => some [(c.1 + 3, ax_sto a w c.2.1, c.2.2.1, c.2.2.2.1, c.2.2.2.2)]
    | none => none)
  | none => none
/-- the operations on the stack alone, by twos and fours -/
def ao_p1 (o : Nat) (c : mx_C) : Option mx_C := bif Nat.beq o 9 then mx_ii (fun x y => some (.int (x + y))) c else bif Nat.beq o 10 then mx_ii (fun x y => some (.int (x - y))) c else bif Nat.beq o 11 then mx_ii (fun x y => some (.int (x * y))) c else bif Nat.beq o 12 then mx_ii (fun x y => some (.int (x &&& y))) c else bif Nat.beq o 13 then mx_ii (fun x y => some (.int (x ||| y))) c else bif Nat.beq o 14 then mx_ii mx_div c else mx_ii mx_rem c
def ao_p2 (o : Nat) (c : mx_C) : Option mx_C := bif Nat.beq o 16 then mx_i1 (fun x => .int (-x)) c else bif Nat.beq o 17 then mx_ii (fun x y => some (.int (x <<< (y &&& 31)))) c else bif Nat.beq o 18 then mx_ii (fun x y => some (.int (x >>> (y &&& 31)))) c else bif Nat.beq o 19 then mx_ll (fun x y => some (.long (x + y))) c else bif Nat.beq o 20 then mx_ll (fun x y => some (.long (x - y))) c else bif Nat.beq o 21 then mx_ll (fun x y => some (.long (x * y))) c else mx_ll mx_ldiv c
def ao_p3 (o : Nat) (c : mx_C) : Option mx_C := bif Nat.beq o 23 then mx_ll (fun x y => some (.long (x &&& y))) c else bif Nat.beq o 24 then mx_ll (fun x y => some (.long (x ||| y))) c else bif Nat.beq o 25 then mx_li (fun x y => .long (x <<< (y.toInt64 &&& 63))) c else bif Nat.beq o 26 then mx_li (fun x y => .long (x >>> (y.toInt64 &&& 63))) c else bif Nat.beq o 27 then mx_ll (fun x y => some (.int (lg_cmp x y))) c else bif Nat.beq o 28 then mx_i1 (fun x => .long x.toInt64) c else mx_l1 (fun x => .int x.toInt32) c
def ao_p4 (o : Nat) (c : mx_C) : Option mx_C := bif Nat.beq o 30 then mx_i1 (fun x => .int x.toInt8.toInt32) c else bif Nat.beq o 31 then mx_i1 (fun x => .int x.toInt16.toInt32) c else bif Nat.beq o 32 then mx_i1 (fun x => .int (x.toUInt32 % 65536).toInt32) c else bif Nat.beq o 33 then mx_dup c else bif Nat.beq o 34 then mx_pop c else mx_dup2 c
def ao_pp (o : Nat) (c : mx_C) : Option mx_C := bif Nat.ble o 15 then ao_p1 o c else bif Nat.ble o 22 then ao_p2 o c else bif Nat.ble o 29 then ao_p3 o c else ao_p4 o c
def ao_pure (DT : ax_T) (n0 : Nat) (o : Nat) (c : ax_C) : Option (List ax_C) := match ax_top (ax_ar o) c.2.2.1 with
  | some lr => (match ao_pp o (c.1, [], lr.1, []) with
    | some d => some [(d.1, c.2.1, ax_emb d.2.2.1 ++ lr.2, c.2.2.2.1, c.2.2.2.2)]
    | none => none)
  | none => ax_un DT n0 o c.1 c.2.1 c.2.2.1 c.2.2.2.1 c.2.2.2.2
def ao_if1 (o t : Nat) (c : ax_C) : Option (List ax_C) := match c.2.2.1 with
  | x :: st => ax_if o (ax_nrm c.2.2.2.2 x) (.inl (.int 0)) t (c.1 + 3) c.2.1 st c.2.2.2.1 c.2.2.2.2
  | _ => none
def ao_if2 (o t : Nat) (c : ax_C) : Option (List ax_C) := match c.2.2.1 with
  | y :: x :: st => ax_if o (ax_nrm c.2.2.2.2 x) (ax_nrm c.2.2.2.2 y) t (c.1 + 3) c.2.1 st c.2.2.2.1 c.2.2.2.2
  | _ => none
def ao_tswv (a b : Nat) (L : List Nat) (c : ax_C) (st : List ax_V) (v : ax_V) : Option (List ax_C) := match v with
  | .inl (.int x) => some [(mx_tsw a (Int32.ofNat b).toInt L x.toInt, c.2.1, st, c.2.2.2.1, c.2.2.2.2)]
  | .inr (.inl (s, k)) => (match mx_nth c.2.2.2.2 s with
    | some p => some (ax_sw s k (Int32.ofNat b).toInt c.2.1 st c.2.2.2.1 c.2.2.2.2 p.1 p.2 L 0 ++ [(a, c.2.1, st, c.2.2.2.1, c.2.2.2.2)])
    | none => none)
  | _ => none
def ao_tsw (a b : Nat) (L : List Nat) (c : ax_C) : Option (List ax_C) := match c.2.2.1 with
  | x :: st => ao_tswv a b L c st (ax_nrm c.2.2.2.2 x)
  | _ => none
def ao_lsw (a : Nat) (L : List Nat) (c : ax_C) : Option (List ax_C) := match c.2.2.1 with
  | .inl (.int x) :: st => some [(mx_lsw a x L, c.2.1, st, c.2.2.2.1, c.2.2.2.2)]
  | _ => none
def ao_get (a b : Nat) (c : ax_C) : Option (List ax_C) := match c.2.2.1 with
  | .inl (.ref q) :: st => (match ax_mg c.2.2.2.1 q with
    | some (.inl p) => bif Nat.beq p.1 a then (match mx_nth p.2 b with
      | some v => some [(c.1 + 3, c.2.1, ax_nrm c.2.2.2.2 v :: st, c.2.2.2.1, c.2.2.2.2)]
      | none => none) else none
    | _ => none)
  | _ => none
def ao_gstr (a : Nat) (c : ax_C) : Option (List ax_C) := match c.2.2.1 with
  | .inl (.ref q) :: st => bif Nat.ble 1100 q && Nat.blt q 1114 then some [(c.1 + 3, c.2.1, .inl (bif Nat.beq a 0 then .ref (q + 100) else .int 0) :: st, c.2.2.2.1, c.2.2.2.2)] else none
  | _ => none
def ao_put (kd a b : Nat) (c : ax_C) : Option (List ax_C) := match c.2.2.1 with
  | v :: .inl (.ref q) :: st => (match ax_mg c.2.2.2.1 q with
    | some (.inl p) => bif Nat.beq p.1 a && (Nat.blt b p.2.length && Nat.beq (ax_kind v) kd) then some [(c.1 + 3, c.2.1, st, ax_ms c.2.2.2.1 q (.inl (p.1, p.2.set b v)), c.2.2.2.2)] else none
    | _ => none)
  | _ => none
def ao_gets (a : Nat) (c : ax_C) : Option (List ax_C) := match mx_nth mx_SF a with
  | some q => ao_push q.2.2.2 3 c
  | none => none
def ao_ldcS (a : Nat) (c : ax_C) : Option (List ax_C) := bif Nat.blt a 14 then ao_push (.ref (1100 + a)) 2 c else none
def ax_lenv (SA : mx_S) (P : ax_P) (M : ax_M) (q : Nat) : Option ax_V := bif Nat.beq q P.1 then some (.inr (.inl (P.2.2, 0))) else (match ax_arr SA M q with
  | some (.inl p) => bif Nat.ble 1000 q || mx_kd p.1 p.2 then some (.inl (.int (Int32.ofNat p.2.1))) else none
  | some (.inr p) => some (.inl (.int (Int32.ofNat p.2)))
  | none => none)
def ao_alen (SA : mx_S) (P : ax_P) (c : ax_C) : Option (List ax_C) := match c.2.2.1 with
  | .inl (.ref q) :: st => (match ax_lenv SA P c.2.2.2.1 q with
    | some v => some [(c.1 + 1, c.2.1, v :: st, c.2.2.2.1, c.2.2.2.2)]
    | none => none)
  | _ => none
def ao_ald (SA : mx_S) (P : ax_P) (t : Nat) (c : ax_C) : Option (List ax_C) := match c.2.2.1 with
  | x :: .inl (.ref q) :: st => (match ax_nrm c.2.2.2.2 x with
    | .inl (.int j) => (match ax_ald SA P t c.2.2.2.1 c.2.2.2.2 q j with
      | some v => some [(c.1 + 1, c.2.1, v :: st, c.2.2.2.1, c.2.2.2.2)]
      | none => none)
    | _ => none)
  | _ => none
def ao_ast (t : Nat) (c : ax_C) : Option (List ax_C) := match c.2.2.1 with
  | v :: x :: .inl (.ref q) :: st => (match ax_nrm c.2.2.2.2 x with
    | .inl (.int j) => (match ax_ast t c.2.2.2.1 q j (ax_nrm c.2.2.2.2 v) with
      | some M => some [(c.1 + 1, c.2.1, st, M, c.2.2.2.2)]
      | none => none)
    | _ => none)
  | _ => none
def ao_last (c : ax_C) : Option (List ax_C) := match c.2.2.1 with
  | v :: .inl (.int j) :: .inl (.ref q) :: st => (match ax_last c.2.2.2.1 q j v with
    | some M => some [(c.1 + 1, c.2.1, st, M, c.2.2.2.2)]
    | none => none)
  | _ => none
def ao_new (a : Nat) (c : ax_C) : Option (List ax_C) := match mx_nth mx_DF a with
  | some fs => bif Nat.blt c.2.2.2.1.1 250 then some [(c.1 + 3, c.2.1, .inl (.ref c.2.2.2.1.1) :: c.2.2.1, ax_ma c.2.2.2.1 (.inl (a, ax_emb fs)), c.2.2.2.2)] else none
  | none => none
def ao_newa (t : Nat) (c : ax_C) : Option (List ax_C) := match c.2.2.1 with
  | x :: st => (match ax_nrm c.2.2.2.2 x with
    | .inl (.int n) => bif mx_inb n 2000 && (Nat.blt c.2.2.2.1.1 250 && Nat.blt t 4) then some [(c.1 + 2, c.2.1, .inl (.ref c.2.2.2.1.1) :: st, ax_ma c.2.2.2.1 (.inr (.inl (t, mx_zero t n.toNatClampNeg))), c.2.2.2.2)] else none
    | _ => none)
  | _ => none
def ao_obj (c : ax_C) : Option (List ax_C) := match c.2.2.1 with
  | .inl (.ref _) :: st => bif Nat.ble (ax_cat st) 8 then some [(c.1 + 3, c.2.1, st, c.2.2.2.1, c.2.2.2.2)] else none
  | _ => none
def ao_mm (f : Int32 → Int32 → Int32) (c : ax_C) : Option (List ax_C) := match c.2.2.1 with
  | .inl (.int y) :: .inl (.int x) :: st => bif Nat.ble (ax_cat st) 8 then some [(c.1 + 3, c.2.1, .inl (.int (f x y)) :: st, c.2.2.2.1, c.2.2.2.2)] else none
  | _ => none
def ao_goto (t : Nat) (c : ax_C) : Option (List ax_C) := some [(t, c.2.1, c.2.2.1, c.2.2.2.1, c.2.2.2.2)]
def ax_opA (i : mx_I) (c : ax_C) : Option (List ax_C) := bif Nat.beq i.1 4 then ao_load 2 i.2.1 i.2.2.1 c else bif Nat.beq i.1 2 then ao_load 0 i.2.1 i.2.2.1 c else bif Nat.beq i.1 0 then ao_push (.int (Int32.ofNat i.2.1)) i.2.2.1 c else bif Nat.beq i.1 3 then ao_load 1 i.2.1 i.2.2.1 c else bif Nat.beq i.1 1 then ao_push (.long (Int64.ofNat i.2.1)) i.2.2.1 c
  else bif Nat.beq i.1 5 then ao_store 0 i.2.1 i.2.2.1 c else bif Nat.beq i.1 8 then ao_inc i.2.1 i.2.2.1 c else bif Nat.beq i.1 6 then ao_store 1 i.2.1 i.2.2.1 c else ao_store 2 i.2.1 i.2.2.1 c
def ax_opB (i : mx_I) (c : ax_C) : Option (List ax_C) := bif Nat.beq i.1 48 then ao_goto i.2.1 c else bif Nat.ble i.1 41 then ao_if1 (i.1 - 36) i.2.1 c else bif Nat.ble i.1 47 then ao_if2 (i.1 - 42) i.2.1 c else bif Nat.beq i.1 49 then ao_tsw i.2.1 i.2.2.1 i.2.2.2 c else ao_lsw i.2.1 i.2.2.2 c
def ax_opC (SA : mx_S) (P : ax_P) (i : mx_I) (c : ax_C) : Option (List ax_C) := bif Nat.beq i.1 52 then ao_gstr i.2.1 c else bif Nat.beq i.1 53 then ao_put 0 i.2.1 i.2.2.1 c else bif Nat.beq i.1 54 then ao_put 2 i.2.1 i.2.2.1 c else bif Nat.beq i.1 55 then ao_gets i.2.1 c else bif Nat.beq i.1 56 then ao_ldcS i.2.1 c else bif Nat.beq i.1 57 then ao_alen SA P c else bif Nat.beq i.1 58 then ao_ald SA P i.2.1 c else bif Nat.beq i.1 59 then ao_ast i.2.1 c else ao_last c
def ax_opD (i : mx_I) (c : ax_C) : Option (List ax_C) := bif Nat.beq i.1 61 then ao_new i.2.1 c else bif Nat.beq i.1 62 then ao_newa i.2.1 c else bif Nat.beq i.1 63 then ao_obj c else bif Nat.beq i.1 65 then ao_mm (fun x y => if x < y then y else x) c else bif Nat.beq i.1 66 then ao_mm (fun x y => if y < x then y else x) c else none
def ax_op (SA : mx_S) (P : ax_P) (DT : ax_T) (n0 : Nat) (i : mx_I) (c : ax_C) : Option (List ax_C) :=
  bif Nat.ble i.1 8 then ax_opA i c else bif Nat.ble i.1 35 then ao_pure DT n0 i.1 c else bif Nat.beq i.1 51 then ao_get i.2.1 i.2.2.1 c else bif Nat.ble i.1 50 then ax_opB i c else bif Nat.ble i.1 60 then ax_opC SA P i c else ax_opD i c
/-- all values of a number, one by one -/
def ax_spl (B : ax_B) (s : Nat) (lo : Int) : Nat → List ax_B
  | 0 => [ax_upd B s (lo, lo)]
  | n + 1 => ax_upd B s (lo + (n + 1 : Nat), lo + (n + 1 : Nat)) :: ax_spl B s lo n
/-- the bounds of a number, cut by an interval: below it, behind it, each value in it -/
def ax_cut (B : ax_B) (s : Nat) (a b : Int) : Option (List ax_B) := match mx_nth B s with
  | some (l, h) => bif decide (l < h) && (decide (max l a ≤ min h b) && decide (min h b - max l a ≤ 64)) then some ((bif decide (l ≤ a - 1) then [ax_upd B s (l, a - 1)] else []) ++ ((bif decide (b + 1 ≤ h) then [ax_upd B s (b + 1, h)] else []) ++ ax_spl B s (max l a) (min h b - max l a).toNat)) else none
  | none => none
def ax_wv (B : ax_B) (v : ax_V) (a b : Int) : Option (List ax_B) := match v with
  | .inr (.inl (s, k)) => ax_cut B s (a - k) (b - k)
  | _ => none
def ax_wf (B : ax_B) (v : ax_V) : Option (List ax_B) := match v with
  | .inr (.inl (s, _)) => (match mx_nth B s with
    | some (l, h) => ax_cut B s l h
    | none => none)
  | _ => none
def ax_w2 (B : ax_B) (x y : ax_V) : Option (List ax_B) := match y with
  | .inl (.int c) => ax_wv B x c.toInt c.toInt
  | _ => (match x with
    | .inl (.int c) => ax_wv B y c.toInt c.toInt
    | _ => none)
/-- what an instruction must know of an unknown number -/
def ax_want (i : mx_I) (c : ax_C) : Option (List ax_B) :=
  bif Nat.beq i.1 58 || Nat.beq i.1 62 then (match c.2.2.1 with
    | x :: _ => ax_wf c.2.2.2.2 x
    | _ => none)
  else bif Nat.beq i.1 59 then (match c.2.2.1 with
    | _ :: x :: _ => ax_wf c.2.2.2.2 x
    | _ => none)
  else bif Nat.beq i.1 11 then (match c.2.2.1 with
    | y :: x :: _ => (match ax_wf c.2.2.2.2 x with
      | some s => some s
      | none => ax_wf c.2.2.2.2 y)
    | _ => none)
  else bif Nat.beq i.1 36 || Nat.beq i.1 37 then (match c.2.2.1 with
    | x :: _ => ax_wv c.2.2.2.2 x 0 0
    | _ => none)
  else bif Nat.beq i.1 42 || Nat.beq i.1 43 then (match c.2.2.1 with
    | y :: x :: _ => ax_w2 c.2.2.2.2 (ax_nrm c.2.2.2.2 x) (ax_nrm c.2.2.2.2 y)
    | _ => none)
  else bif Nat.beq i.1 49 then (match c.2.2.1 with
    | x :: _ => ax_wv c.2.2.2.2 x (Int32.ofNat i.2.2.1).toInt ((Int32.ofNat i.2.2.1).toInt + i.2.2.2.length - 1)
    | _ => none)
  else none
def ac_fn (o : Nat) (a y : Int32) : Int32 := match o with
  | 14 => a / y
  | 15 => a - a / y * y
  | _ => a &&& y
/-- numbers that are made of a known one are known -/
def ax_fix1 (DT : ax_T) (n0 : Nat) (e : Nat × Nat × Int32) (B : ax_B) : Option ax_B := match mx_nth B e.2.1 with
  | some (l, h) => bif l == h && (Int32.ofInt l).toInt == l then (match ax_der e.1 e.2.1 e.2.2 DT n0 with
    | some t => (match mx_nth B t with
      | some (a, b) => bif decide (a ≤ (ac_fn e.1 (Int32.ofInt l) e.2.2).toInt) && decide ((ac_fn e.1 (Int32.ofInt l) e.2.2).toInt ≤ b) then some (ax_upd B t ((ac_fn e.1 (Int32.ofInt l) e.2.2).toInt, (ac_fn e.1 (Int32.ofInt l) e.2.2).toInt)) else none
      | none => some B)
    | none => some B) else some B
  | none => some B
def ax_fix (DT : ax_T) (n0 : Nat) : ax_T → ax_B → Option ax_B
  | [], B => some B
  | e :: r, B => match ax_fix1 DT n0 e B with
    | some B' => ax_fix DT n0 r B'
    | none => none
def ax_all {α : Type} (f : α → Option (List ax_O)) : List α → Option (List ax_O)
  | [] => some []
  | c :: cs => (match f c with
    | some l => (match ax_all f cs with
      | some r => some (l ++ r)
      | none => none)
    | none => none)
def ax_fit (a : Nat) (v : ax_V) : Bool := match v with
  | .inl (.int x) => mx_fit a x
  | .inr (.inl _) => Nat.beq a 0
  | .inr (.inr true) => Nat.beq a 0
  | _ => false
def ax_ret (i : mx_I) (B : ax_B) (st : List ax_V) : Option (Option ax_V) := bif Nat.beq i.1 80 then (match st with
    | [v] => bif ax_fit i.2.1 (ax_nrm B v) then some (some (ax_nrm B v)) else none
    | _ => none)
  else bif Nat.beq i.1 81 then (match st with
    | [v] => bif Nat.beq (ax_kind v) 1 then some (some v) else none
    | _ => none)
  else bif Nat.beq i.1 82 then (match st with
    | [v] => bif Nat.beq (ax_kind v) 2 then some (some v) else none
    | _ => none)
  else bif Nat.beq i.1 83 then (match st with
    | [] => some none
    | _ => none)
  else none
/-- the arguments of a call: the n topmost, the last one first -/
def ax_args : Nat → List ax_V → List ax_V → Option (List ax_V × List ax_V)
  | 0, st, as => some (as, st)
  | n + 1, v :: st, as => ax_args n st (v :: as)
  | _ + 1, [], _ => none
def ax_rcv (L : List Nat) (as : List ax_V) (M : ax_M) : Bool := match L with
  | [] => true
  | ci :: _ => (match as with
    | .inl (.ref b) :: _ => bif Nat.beq ci 98 then true else bif Nat.beq ci 99 then Nat.ble 1100 b && Nat.blt b 1114 else (match ax_mg M b with
      | some (.inl (cj, _)) => Nat.beq cj ci
      | _ => false)
    | _ => false)
def ax_opt (r : Option ax_V) (st : List ax_V) : List ax_V := match r with
  | some v => v :: st
  | none => st
def ax_lva : Nat → List ax_V → ax_L
  | _, [] => []
  | k, v :: as => (k, v) :: ax_lva (bif ax_is2 v then k + 2 else k + 1) as
def ar_fix (DT : ax_T) (n0 : Nat) (rec : ax_C → Option (List ax_O)) (c : ax_C) (B : ax_B) : Option (List ax_O) := match ax_fix DT n0 DT B with
  | some B' => rec (c.1, c.2.1, c.2.2.1, c.2.2.2.1, B')
  | none => some []
/-- all values of a number that an instruction must know -/
def ar_split (DT : ax_T) (n0 : Nat) (rec : ax_C → Option (List ax_O)) (Bs : List ax_B) (c : ax_C) : Option (List ax_O) := ax_all (ar_fix DT n0 rec c) Bs
def ar_next (DT : ax_T) (n0 : Nat) (rec : ax_C → Option (List ax_O)) (r : Option (List ax_C)) : Option (List ax_O) := match r with
  | some [d] => rec d
  | some ds => ax_all (fun d => ar_fix DT n0 rec d d.2.2.2.2) ds
  | none => none
def ar_plain (rec : ax_C → Option (List ax_O)) (SA : mx_S) (P : ax_P) (DT : ax_T) (n0 : Nat) (i : mx_I) (c : ax_C) : Option (List ax_O) := match ax_want i c with
  | some Bs => ar_split DT n0 rec Bs c
  | none => ar_next DT n0 rec (ax_op SA P DT n0 i c)
def ar_back (rec : ax_C → Option (List ax_O)) (pc : Nat) (lv : ax_L) (st : List ax_V) (r : Option (List ax_O)) : Option (List ax_O) := match r with
  | some [o] => rec (pc + 3, lv, ax_opt o.1 st, o.2.1, o.2.2)
  | some os => ax_all (fun o => rec (pc + 3, lv, ax_opt o.1 st, o.2.1, o.2.2)) os
  | none => none
def ar_call (rec : ax_C → Option (List ax_O)) (call : Nat → List ax_V → ax_M → ax_B → Option (List ax_O)) (i : mx_I) (c : ax_C) : Option (List ax_O) := match ax_args i.2.2.1 c.2.2.1 [] with
  | some p => bif Nat.ble (ax_cat p.2) 8 && ax_rcv i.2.2.2 p.1 c.2.2.2.1 then ar_back rec c.1 c.2.1 p.2 (call i.2.1 p.1 c.2.2.2.1 c.2.2.2.2) else none
  | none => none
def ar_end (i : mx_I) (c : ax_C) : Option (List ax_O) := match ax_ret i c.2.2.2.2 c.2.2.1 with
  | some r => some [(r, c.2.2.2.1, c.2.2.2.2)]
  | none => none
def ar_one (rec : ax_C → Option (List ax_O)) (SA : mx_S) (P : ax_P) (DT : ax_T) (n0 : Nat) (call : Nat → List ax_V → ax_M → ax_B → Option (List ax_O)) (c : ax_C) (f : Option mx_I) : Option (List ax_O) := match f with
  | none => none
  | some i => bif Nat.blt i.1 70 then ar_plain rec SA P DT n0 i c else bif Nat.beq i.1 70 then ar_call rec call i c else ar_end i c
def ax_run (SA : mx_S) (P : ax_P) (DT : ax_T) (n0 : Nat) (call : Nat → List ax_V → ax_M → ax_B → Option (List ax_O)) (t : List (List (Nat × mx_I))) : Nat → ax_C → Option (List ax_O)
  | 0, _ => none
  | n + 1, c => ar_one (ax_run SA P DT n0 call t n) SA P DT n0 call c (mx_fetch t c.1)
def ax_call (SA : mx_S) (P : ax_P) (DT : ax_T) (n0 : Nat) (n : Nat) : Nat → Nat → List ax_V → ax_M → ax_B → Option (List ax_O)
  | 0, _, _, _, _ => none
  | d + 1, k, as, M, B => bif Nat.ble (ax_cat as) (mx_code k).1 && Nat.ble M.1 250 then ax_run SA P DT n0 (ax_call SA P DT n0 n d) (mx_code k).2 n (0, ax_lva 0 as, [], M, B) else none
