/-! WHAT AN INSTRUCTION MAKES OF SUCH A STATE -/
def sx_wB (D : sx_D) (B : sx_B) : sx_D := (D.1, D.2.1, B, D.2.2.2)
def sx_wL (D : sx_D) (L : List sx_E) : sx_D := (D.1, D.2.1, D.2.2.1, L, D.2.2.2.2)
def sx_wF (D : sx_D) (F : List sx_F) : sx_D := (D.1, D.2.1, D.2.2.1, D.2.2.2.1, F, D.2.2.2.2.2)
/-- a new number between two bounds -/
def sx_newv (D : sx_D) (lo hi : Int) : sx_D := (D.1, D.2.1, (D.2.2.2.2.2.1, lo, hi) :: D.2.2.1, D.2.2.2.1, D.2.2.2.2.1, D.2.2.2.2.2.1 + 1, D.2.2.2.2.2.2)
/-- a new row -/
def sx_newn (D : sx_D) : sx_D := (D.1, D.2.1, D.2.2.1, D.2.2.2.1, D.2.2.2.2.1, D.2.2.2.2.2.1, D.2.2.2.2.2.2 + 1)
def sx_ge (P : sx_P) (D : sx_D) (e : sx_E) : Bool := sx_pv P.1 D.2.2.1 D.2.2.2.1 2 e
def sx_mx (a b : Int) : Int := bif sx_le a b then b else a
def sx_mn (a b : Int) : Int := bif sx_le a b then a else b
def sx_addB (P : sx_P) (e : sx_E) (D : sx_D) (x : Nat) (c : Int) : sx_D := match sx_bd P.1 D.2.2.1 x with
  | some p => bif c == 1 then sx_wB D ((x, sx_mx p.1 (-e.1), p.2) :: D.2.2.1) else bif c == -1 then sx_wB D ((x, p.1, sx_mn p.2 e.1) :: D.2.2.1) else sx_wL D (e :: D.2.2.2.1)
  | none => sx_wL D (e :: D.2.2.2.1)
/-- what a known sum says of one number in it -/
def sx_prp1 (P : sx_P) (e : sx_E) (p : Nat × Int) (D : sx_D) : sx_D := match sx_bd P.1 D.2.2.1 p.1 with
  | some b => (match sx_ub P.1 D.2.2.1 (sx_ad e (0, [(p.1, -p.2)])) with
    | some r => bif sx_le 1 p.2 then (bif sx_le (-(r / p.2)) b.1 then D else sx_wB D ((p.1, -(r / p.2), b.2) :: D.2.2.1)) else bif sx_le p.2 (-1) then (bif sx_le b.2 (r / (-p.2)) then D else sx_wB D ((p.1, b.1, r / (-p.2)) :: D.2.2.1)) else D
    | none => D)
  | none => D
def sx_prp (P : sx_P) (e : sx_E) : sx_T → sx_D → sx_D
  | [], D => D
  | p :: l, D => sx_prp P e l (sx_prp1 P e p D)
/-- 0 or more: known from here on -/
def sx_add (P : sx_P) (e : sx_E) (D : sx_D) : sx_D := match e.2 with
  | [p] => sx_addB P e D p.1 p.2
  | _ => sx_prp P e e.2 (sx_wL D (e :: D.2.2.2.1))
def sx_ne1 (d : sx_E) (f : sx_F) : Bool := match f with
  | (1, [], [e]) => sx_eq e d || sx_eq e (sx_ng d)
  | _ => false
def sx_ne (F : List sx_F) (d : sx_E) : Bool := sx_any (sx_ne1 d) F
/-- d compared with 0 (0 eq, 1 ne, 2 lt, 3 ge, 4 gt, 5 le): what is known if it holds; none: it can't -/
def sx_asm (P : sx_P) (o : Nat) (d : sx_E) (D : sx_D) : Option sx_D := match o with
  | 0 => bif sx_ge P D (sx_pk d (-1)) || (sx_ge P D (sx_pk (sx_ng d) (-1)) || sx_ne D.2.2.2.2.1 d) then none else some (sx_add P (sx_ng d) (sx_add P d D))
  | 1 => bif sx_ge P D d then (bif sx_ge P D (sx_ng d) then none else some (sx_add P (sx_pk d (-1)) D)) else bif sx_ge P D (sx_ng d) then some (sx_add P (sx_pk (sx_ng d) (-1)) D) else some (sx_wF D ((1, [], [d]) :: D.2.2.2.2.1))
  | 2 => bif sx_ge P D d then none else some (sx_add P (sx_pk (sx_ng d) (-1)) D)
  | 3 => bif sx_ge P D (sx_pk (sx_ng d) (-1)) then none else some (sx_add P d D)
  | 4 => bif sx_ge P D (sx_ng d) then none else some (sx_add P (sx_pk d (-1)) D)
  | _ => bif sx_ge P D (sx_pk d (-1)) then none else some (sx_add P (sx_ng d) D)
/-- what the comparison is not -/
def sx_opp (o : Nat) : Nat := match o with
  | 0 => 1
  | 1 => 0
  | 2 => 3
  | 3 => 2
  | 4 => 5
  | _ => 4
def sx_memo1 (o : Nat) (e1 e2 : sx_E) (f : sx_F) : Option sx_E := match f with
  | (k, [], [a, b, r]) => bif Nat.beq k (100 + o) && (sx_eq a e1 && sx_eq b e2) then some r else none
  | _ => none
def sx_first {α β : Type} (f : α → Option β) : List α → Option β
  | [] => none
  | a :: l => match f a with
    | some b => some b
    | none => sx_first f l
/-- an answer that is no sum: as it is known, else a new number -/
def sx_res (o : Nat) (e1 e2 : sx_E) (lo hi : Int) (D : sx_D) : sx_E × sx_D := match sx_first (sx_memo1 o e1 e2) D.2.2.2.2.1 with
  | some r => (r, D)
  | none => (sx_v D.2.2.2.2.2.1, sx_wF (sx_newv D lo hi) ((100 + o, [], [e1, e2, sx_v D.2.2.2.2.2.1]) :: D.2.2.2.2.1))
def sx_lo (w : Bool) : Int := bif w then -2147483648 else -9223372036854775808
def sx_hi (w : Bool) : Int := bif w then 2147483647 else 9223372036854775807
def sx_full (w : Bool) (o : Nat) (e1 e2 : sx_E) (D : sx_D) : sx_E × sx_D := sx_res o e1 e2 (sx_lo w) (sx_hi w) D
/-- a sum that is the answer, if it stays within the bits -/
def sx_wrap (P : sx_P) (w : Bool) (o : Nat) (e e1 e2 : sx_E) (D : sx_D) : sx_E × sx_D :=
  bif sx_nn P.1 D.2.2.1 (sx_pk e (-(sx_lo w))) && sx_nn P.1 D.2.2.1 (sx_pk (sx_ng e) (sx_hi w)) then (e, D) else sx_full w o e1 e2 D
def sx_isk (e : sx_E) : Bool := match e.2 with
  | [] => true
  | _ => false
/-- both bounds, if it is 0 or more -/
def sx_rng (P : sx_P) (D : sx_D) (e : sx_E) : Option (Int × Int) := match sx_lb P.1 D.2.2.1 e with
  | some l => (match sx_ub P.1 D.2.2.1 e with
    | some u => bif sx_le 0 l then some (l, u) else none
    | none => none)
  | none => none
def sx_mul (P : sx_P) (w : Bool) (o : Nat) (e1 e2 : sx_E) (D : sx_D) : sx_E × sx_D :=
  bif sx_isk e1 then sx_wrap P w o (sx_sc e1.1 e2) e1 e2 D else bif sx_isk e2 then sx_wrap P w o (sx_sc e2.1 e1) e1 e2 D else
  match sx_rng P D e1, sx_rng P D e2 with
  | some a, some b => bif sx_le (a.2 * b.2) (sx_hi w) then sx_res o e1 e2 (a.1 * b.1) (a.2 * b.2) D else sx_full w o e1 e2 D
  | _, _ => sx_full w o e1 e2 D
def sx_div (P : sx_P) (w : Bool) (o : Nat) (e1 e2 : sx_E) (D : sx_D) : Option (sx_E × sx_D) :=
  bif sx_isk e2 && sx_le 1 e2.1 then (match sx_rng P D e1 with
    | some a => some (sx_res o e1 e2 (a.1 / e2.1) (a.2 / e2.1) D)
    | none => some (sx_full w o e1 e2 D))
  else bif sx_ge P D (sx_pk e2 (-1)) || (sx_ge P D (sx_pk (sx_ng e2) (-1)) || sx_ne D.2.2.2.2.1 e2) then some (sx_full w o e1 e2 D) else none
def sx_rem (P : sx_P) (o : Nat) (e1 e2 : sx_E) (D : sx_D) : Option (sx_E × sx_D) :=
  bif sx_isk e2 && sx_le 1 e2.1 then (match sx_rng P D e1 with
    | some _ => some (sx_res o e1 e2 0 (e2.1 - 1) D)
    | none => some (sx_full true o e1 e2 D))
  else bif sx_ge P D (sx_pk e2 (-1)) || (sx_ge P D (sx_pk (sx_ng e2) (-1)) || sx_ne D.2.2.2.2.1 e2) then some (sx_full true o e1 e2 D) else none
def sx_and (P : sx_P) (o : Nat) (e1 e2 : sx_E) (D : sx_D) : sx_E × sx_D := bif sx_eq e2 (sx_k 255) && (sx_nn P.1 D.2.2.1 e1 && sx_nn P.1 D.2.2.1 (sx_pk (sx_ng e1) 255)) then (e1, D) else bif sx_isk e2 && (sx_le 0 e2.1 && sx_le e2.1 2147483647) then sx_res o e1 e2 0 e2.1 D else sx_full true o e1 e2 D
/-- an operation of two ints -/
def sx_bi (P : sx_P) (o : Nat) (x y : sx_E) (D : sx_D) : Option (sx_E × sx_D) :=
  bif Nat.beq o 9 then some (sx_wrap P true 9 (sx_ad x y) x y D) else bif Nat.beq o 10 then some (sx_wrap P true 10 (sx_sb x y) x y D) else bif Nat.beq o 11 then some (sx_mul P true 11 x y D)
  else bif Nat.beq o 12 then some (sx_and P 12 x y D) else bif Nat.beq o 14 then sx_div P true 14 x y D else bif Nat.beq o 15 then sx_rem P 15 x y D else bif Nat.beq o 13 || (Nat.beq o 17 || Nat.beq o 18) then (bif Nat.beq o 18 && (sx_isk y && y.1 == 0) then some (x, D) else some (sx_full true o x y D)) else none
/-- of two longs -/
def sx_bl (P : sx_P) (o : Nat) (x y : sx_E) (D : sx_D) : Option (sx_E × sx_D) :=
  bif Nat.beq o 19 then some (sx_wrap P false 19 (sx_ad x y) x y D) else bif Nat.beq o 20 then some (sx_wrap P false 20 (sx_sb x y) x y D) else bif Nat.beq o 21 then some (sx_mul P false 21 x y D)
  else bif Nat.beq o 22 then sx_div P false 22 x y D else bif Nat.beq o 23 || Nat.beq o 24 then some (sx_full false o x y D) else none
/-- of one: 16 minus, 29 to 32 -/
def sx_un (P : sx_P) (o : Nat) (e : sx_E) (D : sx_D) : Option (sx_E × sx_D) :=
  bif Nat.beq o 16 then some (sx_wrap P true 16 (sx_ng e) e (sx_k 0) D) else bif Nat.beq o 29 then some (sx_wrap P true 29 e e (sx_k 0) D)
  else bif Nat.beq o 30 then some (bif sx_nn P.1 D.2.2.1 (sx_pk e 128) && sx_nn P.1 D.2.2.1 (sx_pk (sx_ng e) 127) then (e, D) else sx_res 30 e (sx_k 0) (-128) 127 D)
  else bif Nat.beq o 31 then some (bif sx_nn P.1 D.2.2.1 (sx_pk e 32768) && sx_nn P.1 D.2.2.1 (sx_pk (sx_ng e) 32767) then (e, D) else sx_res 31 e (sx_k 0) (-32768) 32767 D)
  else bif Nat.beq o 32 then some (bif sx_nn P.1 D.2.2.1 e && sx_nn P.1 D.2.2.1 (sx_pk (sx_ng e) 65535) then (e, D) else sx_res 32 e (sx_k 0) 0 65535 D) else none
/-! rows -/
def sx_sel1 (a : Nat) (e : sx_E) (f : sx_F) : Option sx_E := match f with
  | (2, [b], [i, r]) => bif Nat.beq b a && sx_eq i e then some r else none
  | _ => none
def sx_nb1 (k a : Nat) (f : sx_F) : Option Int := match f with
  | (k', [b], [u]) => bif Nat.beq k' k && (Nat.beq b a && sx_isk u) then some u.1 else none
  | _ => none
/-- the least, the most that a row's elements can be -/
def sx_nlo (P : sx_P) (D : sx_D) (a : Nat) : Option Int := match sx_first (sx_nb1 4 a) D.2.2.2.2.1 with
  | some u => some u
  | none => (match P.2.1 a with
    | some p => some p.1
    | none => none)
def sx_nhi (P : sx_P) (D : sx_D) (a : Nat) : Option Int := match sx_first (sx_nb1 3 a) D.2.2.2.2.1 with
  | some u => some u
  | none => (match P.2.1 a with
    | some p => some p.2
    | none => none)
def sx_or (a : Option Int) (b : Int) : Int := match a with
  | some a => a
  | none => b
/-- bounds of a row's elements that are sums: of an element too -/
def sx_rd1 (P : sx_P) (a : Nat) (e x : sx_E) (f : sx_F) (D : sx_D) : sx_D := match f with
  | (6, [b], [i, l, h]) => bif Nat.beq b a && sx_eq i e then sx_add P (sx_sb h x) (sx_add P (sx_sb x l) D) else D
  | (3, [b], [u]) => bif Nat.beq b a && !(sx_isk u) then sx_add P (sx_sb u x) D else D
  | (4, [b], [u]) => bif Nat.beq b a && !(sx_isk u) then sx_add P (sx_sb x u) D else D
  | _ => D
def sx_rdU (P : sx_P) (a : Nat) (e x : sx_E) : List sx_F → sx_D → sx_D
  | [], D => D
  | f :: F, D => sx_rdU P a e x F (sx_rd1 P a e x f D)
def sx_eqp (P : sx_P) (D : sx_D) (a b : sx_E) : Bool := sx_eq a b || (sx_ge P D (sx_sb a b) && sx_ge P D (sx_sb b a))
def sx_sel2 (P : sx_P) (D : sx_D) (a : Nat) (e : sx_E) (f : sx_F) : Option sx_E := match f with
  | (2, [b], [i, r]) => bif Nat.beq b a && sx_eqp P D i e then some r else none
  | _ => none
def sx_sel (P : sx_P) (D : sx_D) (a : Nat) (e : sx_E) : Option sx_E := match sx_first (sx_sel1 a e) D.2.2.2.2.1 with
  | some r => some r
  | none => sx_first (sx_sel2 P D a e) D.2.2.2.2.1
def sx_rd (P : sx_P) (w : Bool) (a : Nat) (e : sx_E) (D : sx_D) : sx_E × sx_D := match sx_sel P D a e with
  | some r => (r, D)
  | none => (sx_v D.2.2.2.2.2.1, sx_rdU P a e (sx_v D.2.2.2.2.2.1) D.2.2.2.2.1 (sx_wF (sx_newv D (sx_or (sx_nlo P D a) (sx_lo w)) (sx_or (sx_nhi P D a) (sx_hi w))) ((2, [a], [e, sx_v D.2.2.2.2.2.1]) :: D.2.2.2.2.1)))
/-- what stays known of a row's elements when one is put -/
def sx_inh1 (P : sx_P) (D : sx_D) (a g : Nat) (e v : sx_E) (f : sx_F) : Option sx_F := match f with
  | (3, [b], [u]) => bif Nat.beq b a && (!(sx_isk u) && sx_ge P D (sx_sb u v)) then some (3, [g], [u]) else none
  | (4, [b], [u]) => bif Nat.beq b a && (!(sx_isk u) && sx_ge P D (sx_sb v u)) then some (4, [g], [u]) else none
  | (2, [b], [i, r]) => bif Nat.beq b a && (sx_nn P.1 D.2.2.1 i && (sx_nn P.1 D.2.2.1 (sx_pk (sx_sb i e) (-1)) || sx_nn P.1 D.2.2.1 (sx_pk (sx_sb e i) (-1)))) then some (2, [g], [i, r]) else none
  | _ => none
def sx_inh (P : sx_P) (D : sx_D) (a g : Nat) (e v : sx_E) : List sx_F → List sx_F
  | [] => []
  | f :: F => match sx_inh1 P D a g e v f with
    | some f' => f' :: sx_inh P D a g e v F
    | none => sx_inh P D a g e v F
def sx_bnF (k g : Nat) (u : Option Int) (F : List sx_F) : List sx_F := match u with
  | some u => (k, [g], [sx_k u]) :: F
  | none => F
def sx_opt2 (f : Int → Int → Int) (a b : Option Int) : Option Int := match a, b with
  | some a, some b => some (f a b)
  | _, _ => none
/-- bounds of the elements of a row, where one more may stand -/
def sx_hull (P : sx_P) (D : sx_D) (a g : Nat) (v : sx_E) (F : List sx_F) : List sx_F := sx_bnF 4 g (sx_opt2 sx_mn (sx_nlo P D a) (sx_lb P.1 D.2.2.1 v)) (sx_bnF 3 g (sx_opt2 sx_mx (sx_nhi P D a) (sx_ub P.1 D.2.2.1 v)) F)
def sx_upd1 (m a : Nat) (e v : sx_E) (f : sx_F) : Option Nat := match f with
  | (5, [b, g], [i, r]) => bif Nat.beq b a && (sx_eq i e && (sx_eq r v && Nat.blt g m)) then some g else none
  | _ => none
/-- element e of the row in place j becomes v -/
def sx_wr (P : sx_P) (j : Nat) (e v : sx_E) (D : sx_D) : sx_D := match sx_first (sx_upd1 D.2.2.2.2.2.2 (sx_ag D j) e v) D.2.2.2.2.1 with
  | some g => sx_putN D j g
  | none => sx_putN (sx_newn (sx_wF D ((2, [D.2.2.2.2.2.2], [e, v]) :: (5, [sx_ag D j, D.2.2.2.2.2.2], [e, v]) :: sx_hull P D (sx_ag D j) D.2.2.2.2.2.2 v (sx_inh P D (sx_ag D j) D.2.2.2.2.2.2 e v D.2.2.2.2.1 ++ D.2.2.2.2.1)))) j D.2.2.2.2.2.2
/-- some element may become v -/
def sx_hv (P : sx_P) (j : Nat) (v : sx_E) (D : sx_D) : sx_D := sx_putN (sx_newn (sx_wF D (sx_hull P D (sx_ag D j) D.2.2.2.2.2.2 v D.2.2.2.2.1))) j D.2.2.2.2.2.2
/-- some elements become others: nothing is known -/
def sx_hvA (j : Nat) (D : sx_D) : sx_D := sx_putN (sx_newn D) j D.2.2.2.2.2.2
/-- all elements become v -/
def sx_flA (j : Nat) (v : sx_E) (D : sx_D) : sx_D := sx_putN (sx_newn (sx_wF D ((3, [D.2.2.2.2.2.2], [v]) :: (4, [D.2.2.2.2.2.2], [v]) :: D.2.2.2.2.1))) j D.2.2.2.2.2.2
/-- elements of a row come into another one -/
def sx_cpA (P : sx_P) (i j : Nat) (D : sx_D) : sx_D := sx_putN (sx_newn (sx_wF D (sx_bnF 4 D.2.2.2.2.2.2 (sx_opt2 sx_mn (sx_nlo P D (sx_ag D i)) (sx_nlo P D (sx_ag D j))) (sx_bnF 3 D.2.2.2.2.2.2 (sx_opt2 sx_mx (sx_nhi P D (sx_ag D i)) (sx_nhi P D (sx_ag D j))) D.2.2.2.2.1)))) j D.2.2.2.2.2.2
/-- .. and which ones -/
def sx_cpF (P : sx_P) (i j : Nat) (n dp sp : sx_E) (D : sx_D) : sx_D := sx_wF (sx_cpA P i j D) ((7, [sx_ag D i, sx_ag D j, D.2.2.2.2.2.2], [sp, dp, n]) :: (sx_cpA P i j D).2.2.2.2.1)
/-! instructions: what may come -/
def so_v (v : Value) : sx_V := match v with
  | .int x => .inr (true, sx_k x.toInt)
  | .long x => .inr (false, sx_k x.toInt)
  | v => .inl v
def so_push (v : sx_V) (n : Nat) (c : sx_C) : Option (List sx_C) := some [(c.1 + n, c.2.1, v :: c.2.2.1, c.2.2.2)]
def so_load (P : sx_P) (kd a n : Nat) (c : sx_C) : Option (List sx_C) := match sx_lkV a c.2.1 with
  | some (.inr (b, e)) => bif (bif b then Nat.beq kd 0 else Nat.beq kd 1) then so_push (.inr (b, sx_nr P.1 c.2.2.2.2.2.1 e)) n c else none
  | some (.inl (.ref q)) => bif Nat.beq kd 2 then so_push (.inl (.ref q)) n c else none
  | _ => none
def sx_is2 (v : sx_V) : Bool := match v with
  | .inl v => mx_is2 v
  | .inr (b, _) => !b
def sx_i2o (a : Option sx_V) : Bool := match a with
  | some v => sx_is2 v
  | none => false
/-- the locals by their places alone -/
def sx_drop (f : Nat → Bool) (lv : sx_L) : sx_L := lv.filter (fun q => f q.1)
def sx_sto (i : Nat) (v : sx_V) (lv : sx_L) : sx_L := (i, v) :: (bif sx_i2o (sx_lkV (i - 1) lv) then sx_drop (fun j => !(Nat.beq j i) && !(Nat.beq (j + 1) i)) lv else sx_drop (fun j => !(Nat.beq j i)) lv)
def sx_sto2 (i : Nat) (v : sx_V) (lv : sx_L) : sx_L := (i, v) :: (bif sx_i2o (sx_lkV (i - 1) lv) then sx_drop (fun j => !(Nat.beq j i) && (!(Nat.beq j (i + 1)) && !(Nat.beq (j + 1) i))) lv else sx_drop (fun j => !(Nat.beq j i) && !(Nat.beq j (i + 1))) lv)
def so_store (kd a n : Nat) (c : sx_C) : Option (List sx_C) := match c.2.2.1 with
  | .inr (true, e) :: st => bif Nat.beq kd 0 then some [(c.1 + n, sx_sto a (.inr (true, e)) c.2.1, st, c.2.2.2)] else none
  | .inr (false, e) :: st => bif Nat.beq kd 1 then some [(c.1 + n, sx_sto2 a (.inr (false, e)) c.2.1, st, c.2.2.2)] else none
  | .inl (.ref q) :: st => bif Nat.beq kd 2 then some [(c.1 + n, sx_sto a (.inl (.ref q)) c.2.1, st, c.2.2.2)] else none
  | _ => none
/-- a number of 32, 64 bits as it is written in a table -/
def sx_c32 (a : Nat) : Int := bif Nat.blt a 2147483648 then a else (a : Int) - 4294967296
def sx_c64 (a : Nat) : Int := bif Nat.blt a 9223372036854775808 then a else (a : Int) - 18446744073709551616
def so_inc (P : sx_P) (a d : Nat) (c : sx_C) : Option (List sx_C) := match sx_lkV a c.2.1 with
  | some (.inr (true, e)) => bif Nat.blt d 4294967296 then (match sx_wrap P true 9 (sx_pk (sx_nr P.1 c.2.2.2.2.2.1 e) (sx_c32 d)) (sx_nr P.1 c.2.2.2.2.2.1 e) (sx_k (sx_c32 d)) c.2.2.2 with
    | (r, D) => some [(c.1 + 3, sx_sto a (.inr (true, r)) c.2.1, c.2.2.1, D)]) else none
  | _ => none
def so_out (b : Bool) (c : sx_C) (st : List sx_V) (r : Option (sx_E × sx_D)) : Option (List sx_C) := match r with
  | some p => some [(c.1 + 1, c.2.1, .inr (b, p.1) :: st, p.2)]
  | none => none
/-- operations on numbers -/
def so_ar (P : sx_P) (o : Nat) (c : sx_C) : Option (List sx_C) := match c.2.2.1 with
  | .inr (true, y) :: .inr (true, x) :: st => bif Nat.beq o 16 || Nat.blt 18 o then (bif Nat.beq o 28 then some [(c.1 + 1, c.2.1, .inr (false, y) :: .inr (true, x) :: st, c.2.2.2)] else bif Nat.beq o 29 then none else so_out true c (.inr (true, x) :: st) (sx_un P o y c.2.2.2)) else so_out true c st (sx_bi P o x y c.2.2.2)
  | .inr (false, y) :: .inr (false, x) :: st => bif Nat.beq o 29 then so_out true c (.inr (false, x) :: st) (sx_un P o y c.2.2.2) else so_out false c st (sx_bl P o x y c.2.2.2)
  | .inr (true, y) :: .inr (false, x) :: st => bif Nat.beq o 25 || Nat.beq o 26 then so_out false c st (some (sx_full false o x y c.2.2.2)) else bif Nat.beq o 28 then some [(c.1 + 1, c.2.1, .inr (false, y) :: .inr (false, x) :: st, c.2.2.2)] else bif Nat.beq o 29 then none else so_out true c (.inr (false, x) :: st) (sx_un P o y c.2.2.2)
  | .inr (true, y) :: st => bif Nat.beq o 28 then some [(c.1 + 1, c.2.1, .inr (false, y) :: st, c.2.2.2)] else bif Nat.beq o 29 then none else so_out true c st (sx_un P o y c.2.2.2)
  | .inr (false, y) :: st => bif Nat.beq o 29 then so_out true c st (sx_un P o y c.2.2.2) else none
  | _ => none
def so_one (o : Option sx_D) (f : sx_D → sx_C) : List sx_C := match o with
  | some D => [f D]
  | none => []
/-- three ways: less, like, more -/
def so_cmp (P : sx_P) (c : sx_C) : Option (List sx_C) := match c.2.2.1 with
  | .inr (false, y) :: .inr (false, x) :: st => some (so_one (sx_asm P 2 (sx_sb x y) c.2.2.2) (fun D => (c.1 + 1, c.2.1, .inr (true, sx_k (-1)) :: st, D)) ++ (so_one (sx_asm P 0 (sx_sb x y) c.2.2.2) (fun D => (c.1 + 1, c.2.1, .inr (true, sx_k 0) :: st, D)) ++ so_one (sx_asm P 4 (sx_sb x y) c.2.2.2) (fun D => (c.1 + 1, c.2.1, .inr (true, sx_k 1) :: st, D))))
  | _ => none
def so_dup (c : sx_C) : Option (List sx_C) := match c.2.2.1 with
  | x :: st => bif sx_is2 x then none else some [(c.1 + 1, c.2.1, x :: x :: st, c.2.2.2)]
  | _ => none
def so_pop (c : sx_C) : Option (List sx_C) := match c.2.2.1 with
  | x :: st => bif sx_is2 x then none else some [(c.1 + 1, c.2.1, st, c.2.2.2)]
  | _ => none
def so_pop2 (c : sx_C) : Option (List sx_C) := match c.2.2.1 with
  | x :: st => bif sx_is2 x then some [(c.1 + 1, c.2.1, st, c.2.2.2)] else none
  | _ => none
def so_dup2 (c : sx_C) : Option (List sx_C) := match c.2.2.1 with
  | x :: y :: st => bif sx_is2 x || sx_is2 y then none else some [(c.1 + 1, c.2.1, x :: y :: x :: y :: st, c.2.2.2)]
  | _ => none
def so_br (P : sx_P) (o t : Nat) (d : sx_E) (st : List sx_V) (c : sx_C) : List sx_C := so_one (sx_asm P o d c.2.2.2) (fun D => (t, c.2.1, st, D)) ++ so_one (sx_asm P (sx_opp o) d c.2.2.2) (fun D => (c.1 + 3, c.2.1, st, D))
def so_if1 (P : sx_P) (o t : Nat) (c : sx_C) : Option (List sx_C) := match c.2.2.1 with
  | .inr (true, x) :: st => some (so_br P o t x st c)
  | _ => none
def so_if2 (P : sx_P) (o t : Nat) (c : sx_C) : Option (List sx_C) := match c.2.2.1 with
  | .inr (true, y) :: .inr (true, x) :: st => some (so_br P o t (sx_sb x y) st c)
  | _ => none
def so_goto (t : Nat) (c : sx_C) : Option (List sx_C) := some [(t, c.2.1, c.2.2.1, c.2.2.2)]
def so_cases (P : sx_P) (e : sx_E) (lo : Int) (st : List sx_V) (c : sx_C) : List Nat → Nat → List sx_C
  | [], _ => []
  | t :: ts, n => so_one (sx_asm P 0 (sx_pk e (-(lo + n))) c.2.2.2) (fun D => (t, c.2.1, st, D)) ++ so_cases P e lo st c ts (n + 1)
def so_tsw (P : sx_P) (a b : Nat) (L : List Nat) (c : sx_C) : Option (List sx_C) := match c.2.2.1 with
  | .inr (true, e) :: st => bif Nat.blt b 4294967296 then some (so_cases P e (sx_c32 b) st c L 0 ++ (bif sx_ge P c.2.2.2 (sx_pk e (-(sx_c32 b))) && sx_ge P c.2.2.2 (sx_pk (sx_ng e) (sx_c32 b + L.length - 1)) then [] else [(a, c.2.1, st, c.2.2.2)])) else none
  | _ => none
def so_keys (P : sx_P) (e : sx_E) (st : List sx_V) (c : sx_C) : List Nat → Option (List sx_C)
  | k :: t :: r => bif Nat.blt k 4294967296 then (match so_keys P e st c r with
    | some l => some (so_one (sx_asm P 0 (sx_pk e (-(sx_c32 k))) c.2.2.2) (fun D => (t, c.2.1, st, D)) ++ l)
    | none => none) else none
  | _ => some []
def so_lsw (P : sx_P) (a : Nat) (L : List Nat) (c : sx_C) : Option (List sx_C) := match c.2.2.1 with
  | .inr (true, e) :: st => (match so_keys P e st c L with
    | some l => some (l ++ [(a, c.2.1, st, c.2.2.2)])
    | none => none)
  | _ => none
def so_get (P : sx_P) (a b : Nat) (c : sx_C) : Option (List sx_C) := match c.2.2.1 with
  | .inl (.ref q) :: st => (match P.2.2.1 q with
    | some (.inl p) => bif Nat.beq p.1 a then (match mx_nth p.2 b with
      | some (.inl w) => some [(c.1 + 3, c.2.1, so_v w :: st, c.2.2.2)]
      | some (.inr j) => some [(c.1 + 3, c.2.1, .inr (true, sx_nr P.1 c.2.2.2.2.2.1 (sx_sg c.2.2.2 j)) :: st, c.2.2.2)]
      | none => none) else none
    | _ => none)
  | _ => none
def so_gstr (a : Nat) (c : sx_C) : Option (List sx_C) := match c.2.2.1 with
  | .inl (.ref q) :: st => bif Nat.ble 1100 q && Nat.blt q 1114 then some [(c.1 + 3, c.2.1, (bif Nat.beq a 0 then .inl (.ref (q + 100)) else .inr (true, sx_k 0)) :: st, c.2.2.2)] else none
  | _ => none
def so_put (P : sx_P) (a b : Nat) (c : sx_C) : Option (List sx_C) := match c.2.2.1 with
  | .inr (true, e) :: .inl (.ref q) :: st => (match P.2.2.1 q with
    | some (.inl p) => bif Nat.beq p.1 a then (match mx_nth p.2 b with
      | some (.inr j) => some [(c.1 + 3, c.2.1, st, sx_putE c.2.2.2 j e)]
      | _ => none) else none
    | _ => none)
  | _ => none
def so_gets (a : Nat) (c : sx_C) : Option (List sx_C) := match mx_nth mx_SF a with
  | some q => so_push (so_v q.2.2.2) 3 c
  | none => none
def so_ldcS (a : Nat) (c : sx_C) : Option (List sx_C) := bif Nat.blt a 14 then so_push (.inl (.ref (1100 + a))) 2 c else none
def so_alen (P : sx_P) (c : sx_C) : Option (List sx_C) := match c.2.2.1 with
  | .inl (.ref q) :: st => bif Nat.ble 1000 q then (bif Nat.beq q 1300 then some [(c.1 + 1, c.2.1, .inr (true, sx_v 255) :: st, c.2.2.2)] else match mx_SAx (q - 1000) with
    | some x => bif Nat.blt x.2.1 2147483648 then some [(c.1 + 1, c.2.1, .inr (true, sx_k x.2.1) :: st, c.2.2.2)] else none
    | none => none) else (match P.2.2.1 q with
    | some (.inr p) => some [(c.1 + 1, c.2.1, .inr (true, sx_k p.2.1) :: st, c.2.2.2)]
    | _ => none)
  | _ => none
/-- a place that is in a row of n -/
def sx_inr (P : sx_P) (D : sx_D) (e n : sx_E) : Bool := sx_ge P D e && sx_ge P D (sx_pk (sx_sb n e) (-1))
def so_aldv (P : sx_P) (t : Nat) (c : sx_C) (e : sx_E) (q : Nat) (st : List sx_V) : Option (List sx_C) := bif Nat.ble 1000 q then (bif Nat.beq q 1300 then (bif Nat.beq t 0 && sx_inr P c.2.2.2 e (sx_v 255) then so_out true c st (some (sx_rd P true 255 e c.2.2.2)) else none) else match mx_SAx (q - 1000) with
    | some x => bif Nat.beq x.1 t && sx_inr P c.2.2.2 e (sx_k x.2.1) then (bif sx_isk e then some [(c.1 + 1, c.2.1, .inr (!(Nat.beq t 3), sx_k (sx_iv (mx_con x.2 e.1.toNat))) :: st, c.2.2.2)] else some [(c.1 + 1, c.2.1, .inr (!(Nat.beq t 3), sx_v c.2.2.2.2.2.2.2.2.1) :: st, sx_newv c.2.2.2 (sx_lo (!(Nat.beq t 3))) (sx_hi (!(Nat.beq t 3))))]) else none
    | none => none) else (match P.2.2.1 q with
    | some (.inr p) => bif Nat.beq p.1 t && sx_inr P c.2.2.2 e (sx_k p.2.1) then so_out (!(Nat.beq t 3)) c st (some (sx_rd P (!(Nat.beq t 3)) (sx_ag c.2.2.2 p.2.2) e c.2.2.2)) else none
    | _ => none)
def so_ald (P : sx_P) (t : Nat) (c : sx_C) : Option (List sx_C) := match c.2.2.1 with
  | .inr (true, e) :: .inl (.ref q) :: st => so_aldv P t c e q st
  | _ => none
/-- what a row of ints, bytes, booleans holds of a number -/
def sx_nar (P : sx_P) (t : Nat) (v : sx_E) (D : sx_D) : sx_E × sx_D := bif Nat.beq t 0 then (v, D) else bif Nat.beq t 1 then (bif sx_nn P.1 D.2.2.1 (sx_pk v 128) && sx_nn P.1 D.2.2.1 (sx_pk (sx_ng v) 127) then (v, D) else sx_res 30 v (sx_k 0) (-128) 127 D) else bif sx_nn P.1 D.2.2.1 v && sx_nn P.1 D.2.2.1 (sx_pk (sx_ng v) 1) then (v, D) else sx_res 12 v (sx_k 1) 0 1 D
def so_astv (P : sx_P) (t : Nat) (c : sx_C) (v e : sx_E) (q : Nat) (st : List sx_V) : Option (List sx_C) := match P.2.2.1 q with
    | some (.inr p) => bif Nat.beq p.1 t && (Nat.blt t 3 && sx_inr P c.2.2.2 e (sx_k p.2.1)) then some [(c.1 + 1, c.2.1, st, sx_wr P p.2.2 e (sx_nar P t v c.2.2.2).1 (sx_nar P t v c.2.2.2).2)] else none
    | _ => none
def so_ast (P : sx_P) (t : Nat) (c : sx_C) : Option (List sx_C) := match c.2.2.1 with
  | .inr (true, v) :: .inr (true, e) :: .inl (.ref q) :: st => so_astv P t c v e q st
  | _ => none
def so_lastv (P : sx_P) (c : sx_C) (v e : sx_E) (q : Nat) (st : List sx_V) : Option (List sx_C) := match P.2.2.1 q with
    | some (.inr p) => bif Nat.beq p.1 3 && sx_inr P c.2.2.2 e (sx_k p.2.1) then some [(c.1 + 1, c.2.1, st, sx_wr P p.2.2 e v c.2.2.2)] else none
    | _ => none
def so_last (P : sx_P) (c : sx_C) : Option (List sx_C) := match c.2.2.1 with
  | .inr (false, v) :: .inr (true, e) :: .inl (.ref q) :: st => so_lastv P c v e q st
  | _ => none
def sx_cat : List sx_V → Nat
  | [] => 0
  | v :: l => (bif sx_is2 v then 2 else 1) + sx_cat l
def so_copyv (P : sx_P) (c : sx_C) (n dp sp : sx_E) (q1 q0 : Nat) (st : List sx_V) : Option (List sx_C) := match P.2.2.1 q0, P.2.2.1 q1 with
    | some (.inr p0), some (.inr p1) => bif Nat.beq p0.1 0 && (Nat.beq p1.1 0 && (sx_ge P c.2.2.2 n && (sx_ge P c.2.2.2 sp && (sx_ge P c.2.2.2 dp && (sx_ge P c.2.2.2 (sx_sb (sx_k p0.2.1) (sx_ad sp n)) && (sx_ge P c.2.2.2 (sx_sb (sx_k p1.2.1) (sx_ad dp n)) && Nat.ble (sx_cat st) 8)))))) then some [(c.1 + 3, c.2.1, st, sx_cpF P p0.2.2 p1.2.2 n dp sp c.2.2.2)] else none
    | _, _ => none
def so_copy (P : sx_P) (c : sx_C) : Option (List sx_C) := match c.2.2.1 with
  | .inr (true, n) :: .inr (true, dp) :: .inl (.ref q1) :: .inr (true, sp) :: .inl (.ref q0) :: st => so_copyv P c n dp sp q1 q0 st
  | _ => none
/-- the more (true), the less of two -/
def so_mm (P : sx_P) (b : Bool) (c : sx_C) : Option (List sx_C) := match c.2.2.1 with
  | .inr (true, y) :: .inr (true, x) :: st => bif Nat.ble (sx_cat st) 8 then some (so_one (sx_asm P 2 (sx_sb x y) c.2.2.2) (fun D => (c.1 + 3, c.2.1, .inr (true, bif b then y else x) :: st, D)) ++ so_one (sx_asm P 3 (sx_sb x y) c.2.2.2) (fun D => (c.1 + 3, c.2.1, .inr (true, bif b then x else y) :: st, D))) else none
  | _ => none
def so_opA (P : sx_P) (i : mx_I) (c : sx_C) : Option (List sx_C) := bif Nat.beq i.1 4 then so_load P 2 i.2.1 i.2.2.1 c else bif Nat.beq i.1 2 then so_load P 0 i.2.1 i.2.2.1 c else bif Nat.beq i.1 0 then (bif Nat.blt i.2.1 4294967296 then so_push (.inr (true, sx_k (sx_c32 i.2.1))) i.2.2.1 c else none) else bif Nat.beq i.1 3 then so_load P 1 i.2.1 i.2.2.1 c else bif Nat.beq i.1 1 then (bif Nat.blt i.2.1 18446744073709551616 then so_push (.inr (false, sx_k (sx_c64 i.2.1))) i.2.2.1 c else none)
  else bif Nat.beq i.1 5 then so_store 0 i.2.1 i.2.2.1 c else bif Nat.beq i.1 8 then so_inc P i.2.1 i.2.2.1 c else bif Nat.beq i.1 6 then so_store 1 i.2.1 i.2.2.1 c else so_store 2 i.2.1 i.2.2.1 c
def so_opB (P : sx_P) (i : mx_I) (c : sx_C) : Option (List sx_C) := bif Nat.beq i.1 48 then so_goto i.2.1 c else bif Nat.ble i.1 41 then so_if1 P (i.1 - 36) i.2.1 c else bif Nat.ble i.1 47 then so_if2 P (i.1 - 42) i.2.1 c else bif Nat.beq i.1 49 then so_tsw P i.2.1 i.2.2.1 i.2.2.2 c else so_lsw P i.2.1 i.2.2.2 c
def so_opC (P : sx_P) (i : mx_I) (c : sx_C) : Option (List sx_C) := bif Nat.beq i.1 52 then so_gstr i.2.1 c else bif Nat.beq i.1 53 then so_put P i.2.1 i.2.2.1 c else bif Nat.beq i.1 54 then none else bif Nat.beq i.1 55 then so_gets i.2.1 c else bif Nat.beq i.1 56 then so_ldcS i.2.1 c else bif Nat.beq i.1 57 then so_alen P c else bif Nat.beq i.1 58 then so_ald P i.2.1 c else bif Nat.beq i.1 59 then so_ast P i.2.1 c else so_last P c
def so_opD (P : sx_P) (i : mx_I) (c : sx_C) : Option (List sx_C) := bif Nat.beq i.1 64 then so_copy P c else bif Nat.beq i.1 65 then so_mm P true c else bif Nat.beq i.1 66 then so_mm P false c else bif Nat.beq i.1 67 then so_pop2 c else none
def so_opE (P : sx_P) (i : mx_I) (c : sx_C) : Option (List sx_C) := bif Nat.beq i.1 27 then so_cmp P c else bif Nat.ble i.1 32 then so_ar P i.1 c else bif Nat.beq i.1 33 then so_dup c else bif Nat.beq i.1 34 then so_pop c else so_dup2 c
def so_op (P : sx_P) (i : mx_I) (c : sx_C) : Option (List sx_C) :=
  bif Nat.ble i.1 8 then so_opA P i c else bif Nat.ble i.1 35 then so_opE P i c else bif Nat.beq i.1 51 then so_get P i.2.1 i.2.2.1 c else bif Nat.ble i.1 50 then so_opB P i c else bif Nat.ble i.1 60 then so_opC P i c else so_opD P i c
