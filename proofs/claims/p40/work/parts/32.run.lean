/-! CONTRACTS, CALLS, RUNS -/
/-- an end: the answer; places; rows; where its own numbers (0: the answer, 1, j: place j) and rows (of place j) are found; what is known -/
abbrev sx_O : Type := Option sx_V × List (Nat × sx_E) × List (Nat × Nat) × (List (Nat × Nat) × List Nat) × List sx_E × List sx_F
/-- a contract: method, place in it, locals, which of them are the numbers 256 and on, what must be known, ends, depth, measure -/
abbrev sx_K : Type := Nat × Nat × sx_L × List Nat × List sx_E × List sx_F × List sx_O × sx_E × sx_E
abbrev sx_fm1 : Type := Nat × Nat × sx_L × List sx_V
abbrev sx_Q : Type := Nat × List sx_fm1 × sx_C
/-- both bounds of a number that has none -/
def sx_pair (P : sx_P) (D : sx_D) (e f : sx_E) : Option (Nat × Int × Int) := match e.2, f.2 with
  | [p], [q] => bif Nat.beq p.1 q.1 && (p.2 == 1 && (q.2 == -1 && (sx_bd P.1 D.2.2.1 p.1).isNone)) then some (p.1, -e.1, f.1) else none
  | _, _ => none
def sx_adds (P : sx_P) : List sx_E → sx_D → sx_D
  | [], D => D
  | [e], D => sx_add P e D
  | e :: f :: l, D => match sx_pair P D e f with
    | some p => sx_adds P l (sx_wB D (p :: D.2.2.1))
    | none => sx_adds P (f :: l) (sx_add P e D)
def sx_m0 (K : sx_K) : Nat := 256 + K.2.2.2.1.length
def sx_D0 (P : sx_P) (K : sx_K) : sx_D := sx_adds P K.2.2.2.2.1 ([], [], [], [], K.2.2.2.2.2.1, sx_m0 K, 256)
/-- a sum put for each number -/
def sx_su (θ : Nat → Option sx_E) : sx_T → Option sx_E
  | [] => some (0, [])
  | p :: l => match θ p.1 with
    | some e => (match sx_su θ l with
      | some r => some (sx_ad (sx_sc p.2 e) r)
      | none => none)
    | none => none
def sx_sE (θ : Nat → Option sx_E) (e : sx_E) : Option sx_E := match sx_su θ e.2 with
  | some r => some (sx_pk r e.1)
  | none => none
def sx_sEs (θ : Nat → Option sx_E) : List sx_E → Option (List sx_E)
  | [] => some []
  | e :: l => match sx_sE θ e with
    | some a => (match sx_sEs θ l with
      | some r => some (a :: r)
      | none => none)
    | none => none
def sx_sNs (ρ : Nat → Option Nat) : List Nat → Option (List Nat)
  | [] => some []
  | a :: l => match ρ a with
    | some b => (match sx_sNs ρ l with
      | some r => some (b :: r)
      | none => none)
    | none => none
def sx_sF (θ : Nat → Option sx_E) (ρ : Nat → Option Nat) (f : sx_F) : Option sx_F := match sx_sNs ρ f.2.1 with
  | some a => (match sx_sEs θ f.2.2 with
    | some e => some (f.1, a, e)
    | none => none)
  | none => none
def sx_sFs (θ : Nat → Option sx_E) (ρ : Nat → Option Nat) : List sx_F → Option (List sx_F)
  | [] => some []
  | f :: l => match sx_sF θ ρ f with
    | some a => (match sx_sFs θ ρ l with
      | some r => some (a :: r)
      | none => none)
    | none => none
def sx_sV (θ : Nat → Option sx_E) (v : sx_V) : Option sx_V := match v with
  | .inl w => some (.inl w)
  | .inr (b, e) => (match sx_sE θ e with
    | some e' => some (.inr (b, e'))
    | none => none)
/-- all its numbers are below n -/
def sx_blw (n : Nat) : sx_T → Bool
  | [] => true
  | p :: l => Nat.blt p.1 n && sx_blw n l
def sx_scp (n : Nat) (e : sx_E) : Option sx_E := bif sx_blw n e.2 then some e else none
/-- what a contract's numbers are at a place: places, arguments, new ones -/
def sx_th (D : sx_D) (as : List sx_E) (np nv : Nat) (x : Nat) : Option sx_E :=
  bif Nat.blt x 256 then sx_scp D.2.2.2.2.2.1 (sx_sg D x) else bif Nat.blt x (256 + np) then (match mx_nth as (x - 256) with
    | some e => sx_scp D.2.2.2.2.2.1 e
    | none => none) else bif Nat.blt x (256 + np + nv) then some (sx_v (D.2.2.2.2.2.1 + (x - (256 + np)))) else none
def sx_rh (D : sx_D) (nn : Nat) (a : Nat) : Option Nat := bif Nat.blt a 256 then some (sx_ag D a) else bif Nat.blt a (256 + nn) then some (D.2.2.2.2.2.2 + (a - 256)) else none
def sx_eqW (a b : Value) : Bool := match a, b with
  | .ref x, .ref y => Nat.beq x y
  | .null, .null => true
  | _, _ => false
/-- a value is as the contract wants it -/
def sx_mV (P : sx_P) (D : sx_D) (θ : Nat → Option sx_E) (p v : sx_V) : Bool := match p, v with
  | .inl w, .inl w' => sx_eqW w w'
  | .inr (b, e), .inr (b', e') => (b == b') && (match sx_sE θ e with
    | some e2 => sx_eqp P D e2 e'
    | none => false)
  | _, _ => false
def sx_eqN : List Nat → List Nat → Bool
  | [], [] => true
  | a :: l, b :: r => Nat.beq a b && sx_eqN l r
  | _, _ => false
def sx_eqL : List sx_E → List sx_E → Bool
  | [], [] => true
  | a :: l, b :: r => sx_eq a b && sx_eqL l r
  | _, _ => false
def sx_eqF (f g : sx_F) : Bool := Nat.beq f.1 g.1 && (sx_eqN f.2.1 g.2.1 && sx_eqL f.2.2 g.2.2)
/-- a fact holds -/
def sx_hF1 (P : sx_P) (D : sx_D) (f : sx_F) : Bool := match f with
  | (1, [], [e]) => sx_ge P D (sx_pk e (-1)) || (sx_ge P D (sx_pk (sx_ng e) (-1)) || sx_ne D.2.2.2.2.1 e)
  | (3, [a], [u]) => (match sx_nhi P D a with
    | some h => sx_ge P D (sx_pk u (-h))
    | none => false)
  | (4, [a], [u]) => (match sx_nlo P D a with
    | some h => sx_ge P D (sx_sb (sx_k h) u)
    | none => false)
  | _ => false
/-- a bound of a row's elements by a bound that is known -/
def sx_hU1 (P : sx_P) (D : sx_D) (f g : sx_F) : Bool := match f, g with
  | (3, [a], [u]), (3, [b], [w]) => Nat.beq a b && sx_ge P D (sx_sb u w)
  | (4, [a], [u]), (4, [b], [w]) => Nat.beq a b && sx_ge P D (sx_sb w u)
  | (2, [a], [i, v]), (2, [b], [j, w]) => Nat.beq a b && (sx_eqp P D i j && sx_eqp P D v w)
  | _, _ => false
def sx_hF (P : sx_P) (D : sx_D) (f : sx_F) : Bool := sx_any (sx_eqF f) D.2.2.2.2.1 || (sx_hF1 P D f || (bif Nat.ble 1000 f.1 then sx_hT P D f || (sx_hN P D f || sx_hR P D f) else sx_any (sx_hU1 P D f) D.2.2.2.2.1))
/-- the law is method 1000 -/
def sx_cd (k : Nat) : List (List (Nat × mx_I)) := bif Nat.beq k 1000 then mt_L else (mx_code k).2
/-- two sums of the list, or three -/
def sx_gf (P : sx_P) (D : sx_D) (e : sx_E) : Bool := sx_pv P.1 D.2.2.1 D.2.2.2.1 3 e
def sx_hL (P : sx_P) (D : sx_D) (θ : Nat → Option sx_E) (e : sx_E) : Bool := match sx_sE θ e with
  | some e' => sx_gf P D e'
  | none => false
def sx_hFs (P : sx_P) (D : sx_D) (θ : Nat → Option sx_E) (ρ : Nat → Option Nat) (f : sx_F) : Bool := match sx_sF θ ρ f with
  | some f' => sx_hF P D f'
  | none => false
def sx_alb {α : Type} (f : α → Bool) : List α → Bool
  | [] => true
  | a :: l => f a && sx_alb f l
def sx_argE (lv : sx_L) (i : Nat) : Option sx_E := match sx_lkV i lv with
  | some (.inr (_, e)) => some e
  | _ => none
/-- a number that stands in no local: found in a fact of the same sort, of the same rows (place pos of the contract's fact fi is 16 * fi + pos + 1000) -/
def sx_gh1 (θ : Nat → Option sx_E) (f : sx_F) (ns : List Nat) (pos : Nat) (g : sx_F) : Option sx_E := bif Nat.beq g.1 f.1 && sx_eqN g.2.1 ns then (match pos with
    | 0 => mx_nth g.2.2 0
    | p + 1 => (match f.2.2, g.2.2 with
      | e :: _, e' :: _ => (match sx_sE θ e with
        | some a => bif sx_eq a e' then mx_nth g.2.2 (p + 1) else none
        | none => none)
      | _, _ => none)) else none
def sx_gh (D : sx_D) (F : List sx_F) (as : List sx_E) (z : Nat) : Option sx_E := match mx_nth F (z / 16) with
  | some f => (match sx_sNs (sx_rh D 0) f.2.1 with
    | some ns => sx_first (sx_gh1 (sx_th D as as.length 0) f ns (z % 16)) D.2.2.2.2.1
    | none => none)
  | none => none
def sx_arg (D : sx_D) (F : List sx_F) (lv : sx_L) (as : List sx_E) (i : Nat) : Option sx_E := bif Nat.blt i 1000 then sx_argE lv i else sx_gh D F as (i - 1000)
def sx_args (D : sx_D) (F : List sx_F) (lv : sx_L) : List Nat → List sx_E → Option (List sx_E)
  | [], as => some as
  | i :: l, as => match sx_arg D F lv as i with
    | some e => sx_args D F lv l (as ++ [e])
    | none => none
def sx_pat (P : sx_P) (D : sx_D) (θ : Nat → Option sx_E) (lv : sx_L) (p : Nat × sx_V) : Bool := match sx_lkV p.1 lv with
  | some v => sx_mV P D θ p.2 v
  | none => false
/-- the places that were written are within their bounds -/
def sx_jE (P : sx_P) (D : sx_D) (p : Nat × sx_E) : Bool := match P.1 p.1 with
  | some b => sx_gf P D (sx_pk p.2 (-b.1)) && sx_gf P D (sx_pk (sx_ng p.2) b.2)
  | none => true
def sx_jN (P : sx_P) (D : sx_D) (p : Nat × Nat) : Bool := match P.2.1 p.1 with
  | some b => (match sx_nlo P D p.2 with
    | some l => (match sx_nhi P D p.2 with
      | some h => sx_le b.1 l && sx_le h b.2
      | none => false)
    | none => false)
  | none => true
def sx_preB (P : sx_P) (D : sx_D) (lv : sx_L) (K : sx_K) (as : List sx_E) : Bool := (sx_alb (sx_pat P D (sx_th D as K.2.2.2.1.length 0) lv) K.2.2.1 && sx_alb (sx_hL P D (sx_th D as K.2.2.2.1.length 0)) K.2.2.2.2.1) && ((sx_alb (sx_hFs P D (sx_th D as K.2.2.2.1.length 0) (sx_rh D 0)) K.2.2.2.2.2.1 && sx_alb (sx_jE P D) D.1) && (sx_alb (sx_jN P D) D.2.1 && ((sx_lkE 255 D.1).isNone && (sx_lkN 255 D.2.1).isNone)))
/-- a contract can be used: its arguments -/
def sx_pre (P : sx_P) (D : sx_D) (lv : sx_L) (K : sx_K) : Option (List sx_E) := match sx_args D K.2.2.2.2.2.1 lv K.2.2.2.1 [] with
  | some as => bif sx_preB P D lv K as then some as else none
  | none => none
def sx_insS (θ : Nat → Option sx_E) : List (Nat × sx_E) → List (Nat × sx_E) → Option (List (Nat × sx_E))
  | [], S => some S
  | p :: l, S => match sx_insS θ l S with
    | some r => (match sx_sE θ p.2 with
      | some e => some (sx_setE p.1 e r)
      | none => none)
    | none => none
def sx_insA (ρ : Nat → Option Nat) : List (Nat × Nat) → List (Nat × Nat) → Option (List (Nat × Nat))
  | [], S => some S
  | p :: l, S => match sx_insA ρ l S with
    | some r => (match ρ p.2 with
      | some e => some (sx_setN p.1 e r)
      | none => none)
    | none => none
def sx_sO (θ : Nat → Option sx_E) (v : Option sx_V) : Option (Option sx_V) := match v with
  | none => some none
  | some v => (match sx_sV θ v with
    | some w => some (some w)
    | none => none)
/-- behind an end of a contract -/
def sx_ins (P : sx_P) (D : sx_D) (as : List sx_E) (np : Nat) (O : sx_O) : Option (Option sx_V × sx_D) :=
  match sx_insS (sx_th D as np O.2.2.2.1.1.length) O.2.1 D.1, sx_insA (sx_rh D O.2.2.2.1.2.length) O.2.2.1 D.2.1, sx_sEs (sx_th D as np O.2.2.2.1.1.length) O.2.2.2.2.1, sx_sFs (sx_th D as np O.2.2.2.1.1.length) (sx_rh D O.2.2.2.1.2.length) O.2.2.2.2.2, sx_sO (sx_th D as np O.2.2.2.1.1.length) O.1 with
  | some S, some A, some L, some F, some r => some (r, sx_adds P L (S, A, D.2.2.1, D.2.2.2.1, F ++ D.2.2.2.2.1, D.2.2.2.2.2.1 + O.2.2.2.1.1.length, D.2.2.2.2.2.2 + O.2.2.2.1.2.length))
  | _, _, _, _, _ => none
/-- this end is one of the contract's -/
def sx_bdE (D : sx_D) (r : Option sx_V) (p : Nat × Nat) : Option sx_E := bif Nat.beq p.1 0 then (match r with
    | some (.inr (_, e)) => some e
    | _ => none) else some (sx_sg D p.2)
def sx_bds (D : sx_D) (r : Option sx_V) : List (Nat × Nat) → Option (List sx_E)
  | [] => some []
  | p :: l => match sx_bdE D r p with
    | some e => (match sx_bds D r l with
      | some t => some (e :: t)
      | none => none)
    | none => none
def sx_tq (m0 : Nat) (es : List sx_E) (x : Nat) : Option sx_E := bif Nat.blt x m0 then some (sx_v x) else mx_nth es (x - m0)
def sx_rq (D : sx_D) (js : List Nat) (a : Nat) : Option Nat := bif Nat.blt a 256 then some a else (match mx_nth js (a - 256) with
  | some j => some (sx_ag D j)
  | none => none)
def sx_mR (P : sx_P) (D : sx_D) (θ : Nat → Option sx_E) (p v : Option sx_V) : Bool := match p, v with
  | none, none => true
  | some p, some v => sx_mV P D θ p v
  | _, _ => false
def sx_sOk (P : sx_P) (D : sx_D) (θ : Nat → Option sx_E) (S : List (Nat × sx_E)) (p : Nat × sx_E) : Bool := match sx_sE θ (match sx_lkE p.1 S with
    | some e => e
    | none => sx_v p.1) with
  | some e => sx_eqp P D e (sx_sg D p.1)
  | none => false
def sx_sAk (D : sx_D) (ρ : Nat → Option Nat) (A : List (Nat × Nat)) (p : Nat × Nat) : Bool := match ρ (match sx_lkN p.1 A with
    | some e => e
    | none => p.1) with
  | some e => Nat.beq e (sx_ag D p.1)
  | none => false
def sx_mO1 (P : sx_P) (D : sx_D) (r : Option sx_V) (θ : Nat → Option sx_E) (ρ : Nat → Option Nat) (O : sx_O) : Bool :=
  (sx_mR P D θ O.1 r && sx_alb (sx_sOk P D θ O.2.1) (O.2.1 ++ D.1)) && ((sx_alb (sx_sAk D ρ O.2.2.1) (O.2.2.1 ++ D.2.1) && sx_alb (fun j => Nat.blt j 256) O.2.2.2.1.2) && (sx_alb (sx_hL P D θ) O.2.2.2.2.1 && sx_alb (sx_hFs P D θ ρ) O.2.2.2.2.2))
def sx_mO (P : sx_P) (m0 : Nat) (D : sx_D) (r : Option sx_V) (O : sx_O) : Bool := match sx_bds D r O.2.2.2.1.1 with
  | some es => sx_mO1 P D r (sx_tq m0 es) (sx_rq D O.2.2.2.1.2) O
  | none => false
/-! a run -/
def sx_opt (r : Option sx_V) (st : List sx_V) : List sx_V := match r with
  | some v => v :: st
  | none => st
def sx_lva : Nat → List sx_V → sx_L
  | _, [] => []
  | k, v :: as => (k, v) :: sx_lva (bif sx_is2 v then k + 2 else k + 1) as
def sx_pop : Nat → List sx_V → List sx_V → Option (List sx_V × List sx_V)
  | 0, st, as => some (as, st)
  | n + 1, v :: st, as => sx_pop n st (v :: as)
  | _ + 1, [], _ => none
def sx_rcv (P : sx_P) (L : List Nat) (as : List sx_V) : Bool := match L with
  | [] => true
  | ci :: _ => (match as with
    | .inl (.ref b) :: _ => bif Nat.beq ci 98 then true else bif Nat.beq ci 99 then Nat.ble 1100 b && Nat.blt b 1114 else (match P.2.2.1 b with
      | some (.inl (cj, _)) => Nat.beq cj ci
      | _ => false)
    | _ => false)
def sx_fit (P : sx_P) (D : sx_D) (a : Nat) (e : sx_E) : Bool := match a with
  | 0 => true
  | 1 => sx_ge P D (sx_pk e 128) && sx_ge P D (sx_pk (sx_ng e) 127)
  | 2 => sx_ge P D e && sx_ge P D (sx_pk (sx_ng e) 1)
  | _ => sx_ge P D e && sx_ge P D (sx_pk (sx_ng e) 65535)
def sx_r80 (P : sx_P) (D : sx_D) (a : Nat) (st : List sx_V) : Option (Option sx_V) := match st with
  | [.inr (true, e)] => bif sx_fit P D a e then some (some (.inr (true, e))) else none
  | _ => none
def sx_r81 (st : List sx_V) : Option (Option sx_V) := match st with
  | [.inr (false, e)] => some (some (.inr (false, e)))
  | _ => none
def sx_r82 (st : List sx_V) : Option (Option sx_V) := match st with
  | [.inl (.ref q)] => some (some (.inl (.ref q)))
  | _ => none
def sx_r83 (st : List sx_V) : Option (Option sx_V) := match st with
  | [] => some none
  | _ => none
def sx_ret (P : sx_P) (D : sx_D) (i : mx_I) (st : List sx_V) : Option (Option sx_V) := bif Nat.beq i.1 80 then sx_r80 P D i.2.1 st else bif Nat.beq i.1 81 then sx_r81 st else bif Nat.beq i.1 82 then sx_r82 st else bif Nat.beq i.1 83 then sx_r83 st else none
/-- to the caller, or the end -/
def sx_back (P : sx_P) (K : sx_K) (rec : sx_Q → Bool) (fs : List sx_fm1) (r : Option sx_V) (D : sx_D) : Bool := match fs with
  | [] => sx_any (sx_mO P (sx_m0 K) D r) K.2.2.2.2.2.2.1
  | f :: fs => rec (f.1, fs, (f.2.1 + 3, f.2.2.1, sx_opt r f.2.2.2, D))
def sx_back1 (P : sx_P) (K : sx_K) (rec : sx_Q → Bool) (fs : List sx_fm1) (p : Option (Option sx_V × sx_D)) : Bool := match p with
  | some (r, D) => sx_back P K rec fs r D
  | none => false
/-- depth enough for a contract n frames on -/
def sx_hOk (P : sx_P) (K : sx_K) (D : sx_D) (as : List sx_E) (n : Nat) (K' : sx_K) : Bool := match sx_sE (sx_th D as K'.2.2.2.1.length 0) K'.2.2.2.2.2.2.2.1 with
  | some h => sx_ge P D (sx_pk (sx_sb K.2.2.2.2.2.2.2.1 h) (-(n : Int)))
  | none => false
/-- the measure falls -/
def sx_mOk (P : sx_P) (K : sx_K) (D : sx_D) (as : List sx_E) (K' : sx_K) : Bool := match sx_sE (sx_th D as K'.2.2.2.1.length 0) K'.2.2.2.2.2.2.2.2 with
  | some m => sx_gf P D (sx_pk (sx_sb K.2.2.2.2.2.2.2.2 m) (-1)) && sx_gf P D m
  | none => false
def sx_use1 (P : sx_P) (D : sx_D) (lv : sx_L) (K' : sx_K) : Option (sx_K × List sx_E) := match sx_pre P D lv K' with
  | some as => some (K', as)
  | none => none
def sx_find (P : sx_P) (D : sx_D) (lv : sx_L) (pc : Nat) : List sx_K → Option (sx_K × List sx_E)
  | [] => none
  | K' :: l => bif Nat.beq K'.2.1 pc then (match sx_use1 P D lv K' with
    | some p => some p
    | none => sx_find P D lv pc l) else sx_find P D lv pc l
/-- contracts by methods; where two locals are compared first -/
abbrev sx_T2 : Type := (Nat → List sx_K) × (Nat → Nat → Option (Nat × Nat))
/-! the same ends, that speak of nothing of the caller's: they need no look at the places -/
def sx_nbT (n : Nat) : sx_T → Bool
  | [] => true
  | p :: l => Nat.ble n p.1 && sx_nbT n l
def sx_nbV (n : Nat) (v : Option sx_V) : Bool := match v with
  | some (.inr (_, e)) => sx_nbT n e.2
  | _ => true
def sx_nbF (n : Nat) (f : sx_F) : Bool := sx_alb (fun a => Nat.ble 256 a) f.2.1 && sx_alb (fun e : sx_E => sx_nbT n e.2) f.2.2
def sx_clo (n : Nat) (O : sx_O) : Bool := sx_nbV n O.1 && (sx_alb (fun p : Nat × sx_E => sx_nbT n p.2.2) O.2.1 && (sx_alb (fun p : Nat × Nat => Nat.ble 256 p.2) O.2.2.1 && (sx_alb (fun e : sx_E => sx_nbT n e.2) O.2.2.2.2.1 && sx_alb (sx_nbF n) O.2.2.2.2.2)))
def sx_cov (D : sx_D) (O : sx_O) : Bool := sx_alb (fun p => (sx_lkE p.1 O.2.1).isSome) D.1 && sx_alb (fun p => (sx_lkN p.1 O.2.2.1).isSome) D.2.1
def sx_eqV (a b : Option sx_V) : Bool := match a, b with
  | none, none => true
  | some (.inl w), some (.inl w') => sx_eqW w w'
  | some (.inr (b, e)), some (.inr (b', e')) => (b == b') && sx_eq e e'
  | _, _ => false
def sx_eqS : List (Nat × sx_E) → List (Nat × sx_E) → Bool
  | [], [] => true
  | p :: l, q :: r => (Nat.beq p.1 q.1 && sx_eq p.2 q.2) && sx_eqS l r
  | _, _ => false
def sx_eqA : List (Nat × Nat) → List (Nat × Nat) → Bool
  | [], [] => true
  | p :: l, q :: r => (Nat.beq p.1 q.1 && Nat.beq p.2 q.2) && sx_eqA l r
  | _, _ => false
def sx_eqFs : List sx_F → List sx_F → Bool
  | [], [] => true
  | f :: l, g :: r => sx_eqF f g && sx_eqFs l r
  | _, _ => false
def sx_eqO (a b : sx_O) : Bool := (sx_eqV a.1 b.1 && sx_eqS a.2.1 b.2.1) && (sx_eqA a.2.2.1 b.2.2.1 && (sx_eqL a.2.2.2.2.1 b.2.2.2.2.1 && sx_eqFs a.2.2.2.2.2 b.2.2.2.2.2))
def sx_fast1 (P : sx_P) (K : sx_K) (D : sx_D) (O : sx_O) : Bool := sx_any (sx_eqO O) K.2.2.2.2.2.2.1 && (sx_clo (sx_m0 K) O && sx_cov D O)
def sx_fast (P : sx_P) (K : sx_K) (D : sx_D) (fs : List sx_fm1) (K' : sx_K) : Bool := match fs with
  | [] => sx_alb (sx_fast1 P K D) K'.2.2.2.2.2.2.1
  | _ => false
/-- a loop's head: its contract goes on -/
def sx_tail (P : sx_P) (K : sx_K) (rec : sx_Q → Bool) (q : sx_Q) (p : Option (sx_K × List sx_E)) : Bool := match p with
  | none => false
  | some (K', as) => sx_hOk P K q.2.2.2.2.2 as q.2.1.length K' && ((match q.2.1 with
      | [] => sx_mOk P K q.2.2.2.2.2 as K'
      | _ => true) && (bif sx_fast P K q.2.2.2.2.2 q.2.1 K' then true else sx_alb (fun O => sx_back1 P K rec q.2.1 (sx_ins P q.2.2.2.2.2 as K'.2.2.2.1.length O)) K'.2.2.2.2.2.2.1))
/-- the methods of rows, of java.util.Arrays: what they do (two frames deep) -/
def sx_row (P : sx_P) (q : Nat) : Option (Nat × Nat × Nat) := match P.2.2.1 q with
  | some (.inl (6, [.inl (.ref a), .inr u])) => (match P.2.2.1 a with
    | some (.inr (0, n, j)) => some (n, j, u)
    | _ => none)
  | _ => none
def sx_gt (P : sx_P) (n j : Nat) (e : sx_E) (D : sx_D) : sx_E × sx_D := bif sx_inr P D e (sx_k n) then sx_rd P true (sx_ag D j) e D else bif sx_ge P D (sx_pk (sx_ng e) (-1)) || sx_ge P D (sx_pk e (-(n : Int))) then (sx_k 0, D) else (sx_v D.2.2.2.2.2.1, sx_newv D (sx_mn 0 (sx_or (sx_nlo P D (sx_ag D j)) (sx_lo true))) (sx_mx 0 (sx_or (sx_nhi P D (sx_ag D j)) (sx_hi true))))
def sx_pt (P : sx_P) (n j : Nat) (e v : sx_E) (D : sx_D) : sx_D := bif sx_inr P D e (sx_k n) then sx_wr P j e v D else bif sx_ge P D (sx_pk (sx_ng e) (-1)) || sx_ge P D (sx_pk e (-(n : Int))) then D else sx_hv P j v D
def sx_prim (P : sx_P) (k : Nat) (as : List sx_V) (D : sx_D) : Option (Option sx_V × sx_D) := match as with
  | [.inl (.ref q), .inr (true, e)] => bif Nat.beq k 68 then (match sx_row P q with
      | some (n, j, _) => some (some (.inr (true, (sx_gt P n j e D).1)), (sx_gt P n j e D).2)
      | none => none) else bif Nat.beq k 273 then (match P.2.2.1 q with
      | some (.inr (0, _, j)) => some (none, sx_flA j e D)
      | _ => none) else none
  | [.inl (.ref q), .inr (true, e), .inr (true, v)] => bif Nat.beq k 69 then (match sx_row P q with
      | some (n, j, _) => some (none, sx_pt P n j e v D)
      | none => none) else bif Nat.beq k 70 then (match sx_row P q with
      | some (_, j, _) => some (none, sx_hvA j D)
      | none => none) else none
  | [.inl (.ref q), .inr (false, e)] => bif Nat.beq k 272 then (match P.2.2.1 q with
      | some (.inr (3, _, j)) => some (none, sx_flA j e D)
      | _ => none) else none
  | _ => none
def sx_callI (P : sx_P) (K : sx_K) (rec : sx_Q → Bool) (q : sx_Q) (k : Nat) (as rest : List sx_V) : Bool :=
  sx_ge P q.2.2.2.2.2 (sx_pk K.2.2.2.2.2.2.2.1 (-((q.2.1.length : Int) + 1))) && ((Nat.ble (sx_cat as) (mx_code k).1 && !(Nat.beq k 1000)) && rec (k, (q.1, q.2.2.1, q.2.2.2.1, rest) :: q.2.1, (0, sx_lva 0 as, [], q.2.2.2.2.2)))
def sx_callK (P : sx_P) (K : sx_K) (rec : sx_Q → Bool) (q : sx_Q) (rest : List sx_V) (p : sx_K × List sx_E) (cat : Bool) : Bool :=
  (cat && sx_ge P q.2.2.2.2.2 (sx_pk K.2.2.2.2.2.2.2.1 (-((q.2.1.length : Int) + 1)))) && (sx_hOk P K q.2.2.2.2.2 p.2 (q.2.1.length + 1) p.1 && sx_alb (fun O => match sx_ins P q.2.2.2.2.2 p.2 p.1.2.2.2.1.length O with
    | some (r, D) => rec (q.1, q.2.1, (q.2.2.1 + 3, q.2.2.2.1, sx_opt r rest, D))
    | none => false) p.1.2.2.2.2.2.2.1)
def sx_callP (P : sx_P) (CT : sx_T2) (K : sx_K) (rec : sx_Q → Bool) (q : sx_Q) (k : Nat) (as rest : List sx_V) : Bool := match sx_prim P k as q.2.2.2.2.2 with
  | some (r, D) => sx_ge P q.2.2.2.2.2 (sx_pk K.2.2.2.2.2.2.2.1 (-((q.2.1.length : Int) + 2))) && rec (q.1, q.2.1, (q.2.2.1 + 3, q.2.2.2.1, sx_opt r rest, D))
  | none => (match sx_find P q.2.2.2.2.2 (sx_lva 0 as) 0 (CT.1 k) with
    | some p => sx_callK P K rec q rest p (Nat.ble (sx_cat as) (mx_code k).1 && !(Nat.beq k 1000))
    | none => sx_callI P K rec q k as rest)
def sx_call (P : sx_P) (CT : sx_T2) (K : sx_K) (rec : sx_Q → Bool) (q : sx_Q) (i : mx_I) : Bool := match sx_pop i.2.2.1 q.2.2.2.2.1 [] with
  | some (as, rest) => (Nat.ble (sx_cat rest) 8 && sx_rcv P i.2.2.2 as) && sx_callP P CT K rec q i.2.1 as rest
  | none => false
def sx_opK (rec : sx_Q → Bool) (q : sx_Q) (r : Option (List sx_C)) : Bool := match r with
  | some cs => sx_alb (fun c => rec (q.1, q.2.1, c)) cs
  | none => false
def sx_endK (P : sx_P) (K : sx_K) (rec : sx_Q → Bool) (q : sx_Q) (r : Option (Option sx_V)) : Bool := match r with
  | some r => sx_back P K rec q.2.1 r q.2.2.2.2.2
  | none => false
def sx_exec1 (P : sx_P) (CT : sx_T2) (K : sx_K) (rec : sx_Q → Bool) (q : sx_Q) : Bool := match mx_fetch (sx_cd q.1) q.2.2.1 with
  | none => false
  | some i => bif Nat.blt i.1 70 then sx_opK rec q (so_op P i q.2.2) else bif Nat.beq i.1 70 then sx_call P CT K rec q i else bif Nat.ble 80 i.1 then sx_endK P K rec q (sx_ret P q.2.2.2.2.2 i q.2.2.2.2.1) else false
/-- three ways, by two locals -/
def sx_exec3 (P : sx_P) (CT : sx_T2) (K : sx_K) (rec : sx_Q → Bool) (q : sx_Q) (d : sx_E) (o : Nat) : Bool := match sx_asm P o d q.2.2.2.2.2 with
  | some D => sx_exec1 P CT K rec (q.1, q.2.1, (q.2.2.1, q.2.2.2.1, q.2.2.2.2.1, D))
  | none => true
/-- a step of a text that is being run: five cases -/
def sx_R1 (f : sx_F) : Option (Nat × Nat × Nat × sx_E × sx_E × sx_E × sx_E) := match f with
  | (1006, [a, w, pe], [t, p, k, n]) => some (a, w, pe, t, p, k, n)
  | _ => none
def sx_cs0 (P : sx_P) (D : sx_D) (n : sx_E) : sx_D := sx_adds P [n, sx_pk (sx_ng n) 169] D
def sx_asN (P : sx_P) (what : sx_E) : List Int → sx_D → Option sx_D
  | [], D => some D
  | c :: l, D => match sx_asm P 1 (sx_pk what (-c)) D with
    | some D' => sx_asN P what l D'
    | none => none
def sx_csL (P : sx_P) (D : sx_D) (w : Nat) (k n what : sx_E) : List (Option sx_D) :=
  [sx_asm P 0 (sx_pk what (-1)) D, sx_asm P 0 (sx_pk what (-2)) (sx_wF D ((6, [w], [k, sx_k 0, sx_k 5]) :: D.2.2.2.2.1)), sx_asm P 0 (sx_pk what (-3)) (sx_add P (sx_pk n (-1)) D), sx_asm P 0 (sx_pk what (-4)) (sx_add P (sx_pk n (-1)) D), sx_asN P what [1, 2, 3, 4] (sx_add P (sx_pk n (-2)) D)]
def sx_csD (P : sx_P) (D : sx_D) (what : sx_E) : Option (List (Option sx_D)) := match sx_first sx_R1 D.2.2.2.2.1 with
  | some (a, w, pe, t, p, k, n) => (match sx_sel P D a k, sx_sel P D pe (sx_ad (sx_sc 4 t) p) with
    | some x, some h => bif sx_eqp P D x what && sx_ge P D (sx_pk (sx_sb (sx_ad (sx_sc 170 t) h) k) (-1)) then some (sx_csL P (sx_cs0 P D n) w k n what) else none
    | _, _ => none)
  | none => none
def sx_execO (P : sx_P) (CT : sx_T2) (K : sx_K) (rec : sx_Q → Bool) (q : sx_Q) (o : Option sx_D) : Bool := match o with
  | some D => sx_exec1 P CT K rec (q.1, q.2.1, (q.2.2.1, q.2.2.2.1, q.2.2.2.2.1, D))
  | none => true
def sx_execC (P : sx_P) (CT : sx_T2) (K : sx_K) (rec : sx_Q → Bool) (q : sx_Q) (i : Nat) : Bool := match sx_argE q.2.2.2.1 i with
  | some a => (match sx_csD P q.2.2.2.2.2 a with
    | some l => sx_alb (sx_execO P CT K rec q) l
    | none => false)
  | none => false
/-- no room for more: a club that is in none of the meetings leaves at most five -/
def sx_phR (P : sx_P) (D : sx_D) (a : Nat) : Bool := match sx_nlo P D a, sx_nhi P D a with
  | some l, some h => sx_le 0 l && sx_le h 11
  | _, _ => false
def sx_phD (P : sx_P) (D : sx_D) (a b : Nat) (m : sx_E) (g : sx_F) : Bool := match g with
  | (1002, [a', b'], [m']) => Nat.beq a' a && (Nat.beq b' b && sx_eqp P D m' m)
  | _ => false
def sx_ph1 (P : sx_P) (D : sx_D) (f : sx_F) : Option sx_E := match f with
  | (1003, [a, b], [m, c]) => bif (sx_any (sx_phD P D a b m) D.2.2.2.2.1 && (sx_phR P D a && sx_phR P D b)) && (sx_ge P D c && sx_ge P D (sx_pk (sx_ng c) 11)) then some m else none
  | _ => none
def sx_execP (P : sx_P) (CT : sx_T2) (K : sx_K) (rec : sx_Q → Bool) (q : sx_Q) : Bool := match sx_first (sx_ph1 P q.2.2.2.2.2) q.2.2.2.2.2.2.2.2.2.1 with
  | some m => sx_exec1 P CT K rec (q.1, q.2.1, (q.2.2.1, q.2.2.2.1, q.2.2.2.2.1, sx_add P (sx_pk (sx_ng m) 5) q.2.2.2.2.2))
  | none => false
/-- the same word asked twice -/
def sx_iw1 (f : sx_F) : Option (Nat × sx_E × sx_E × sx_E × sx_E × sx_E) := match f with
  | (1005, [a], [wd, r, t, x, u]) => some (a, wd, r, t, x, u)
  | _ => none
def sx_iw2 (P : sx_P) (D : sx_D) (y : Nat × sx_E × sx_E × sx_E × sx_E × sx_E) (f : sx_F) : Option sx_E := match f with
  | (1005, [a], [wd, r, t, x, u]) => bif (Nat.beq a y.1 && (sx_eq wd y.2.1 && !(sx_eq r y.2.2.1))) && (sx_eqp P D t y.2.2.2.1 && (sx_eqp P D x y.2.2.2.2.1 && sx_eqp P D u y.2.2.2.2.2)) then some r else none
  | _ => none
def sx_iwD (P : sx_P) (D : sx_D) : sx_D := match sx_first sx_iw1 D.2.2.2.2.1 with
  | some y => (match sx_first (sx_iw2 P D y) D.2.2.2.2.1 with
    | some r => sx_adds P [sx_sb y.2.2.1 r, sx_sb r y.2.2.1] D
    | none => D)
  | none => D
def sx_execI (P : sx_P) (CT : sx_T2) (K : sx_K) (rec : sx_Q → Bool) (q : sx_Q) : Bool := sx_exec1 P CT K rec (q.1, q.2.1, (q.2.2.1, q.2.2.2.1, q.2.2.2.2.1, sx_iwD P q.2.2.2.2.2))
def sx_exec2 (P : sx_P) (CT : sx_T2) (K : sx_K) (rec : sx_Q → Bool) (q : sx_Q) (p : Nat × Nat) : Bool := match sx_argE q.2.2.2.1 p.1 with
  | some a => (match sx_argE q.2.2.2.1 p.2 with
    | some b => sx_exec3 P CT K rec q (sx_sb a b) 2 && (sx_exec3 P CT K rec q (sx_sb a b) 0 && sx_exec3 P CT K rec q (sx_sb a b) 4)
    | none => false)
  | none => false
/-! rows, places that are alike get one name -/
def sx_jaF (P : sx_P) (b a : Nat) (D : sx_D) : sx_D := match P.2.1 b with
  | some p => sx_wF D ((4, [a], [sx_k p.1]) :: (3, [a], [sx_k p.2]) :: D.2.2.2.2.1)
  | none => D
def sx_ali1 (P : sx_P) (f : sx_F) (D : sx_D) : sx_D := match f with
  | (1007, [a, b], []) => bif Nat.blt a 256 && (Nat.blt b 255 && (sx_lkN b D.2.1).isNone) then sx_putN (sx_jaF P b a D) b a else D
  | (1008, [], [(0, [(j, 1)]), y]) => bif Nat.blt j 250 && (sx_lkE j D.1).isNone then sx_putE D j y else D
  | _ => D
def sx_ali (P : sx_P) : List sx_F → sx_D → sx_D
  | [], D => D
  | f :: l, D => sx_ali1 P f (sx_ali P l D)
/-! facts of one sort, of the same rows and numbers: the same answer -/
def sx_sfk (f : sx_F) : Option (Nat × List Nat × List sx_E × sx_E) := match f with
  | (1012, [a, b, c], [n, p, d, r]) => some (1012, [a, b, c], [n, p, d], r)
  | (1014, [a, b], [n, x, y, r]) => some (1014, [a, b], [n, x, y], r)
  | (1015, [a, b], [n, c, r]) => some (1015, [a, b], [n, c], r)
  | (1018, [a, b], [n, d, r]) => some (1018, [a, b], [n, d], r)
  | _ => none
def sx_eqpL (P : sx_P) (D : sx_D) : List sx_E → List sx_E → Bool
  | [], [] => true
  | a :: l, b :: r => sx_eqp P D a b && sx_eqpL P D l r
  | _, _ => false
def sx_sf2 (P : sx_P) (D : sx_D) (y : Nat × List Nat × List sx_E × sx_E) (f : sx_F) : Option sx_E := match sx_sfk f with
  | some z => bif (Nat.beq z.1 y.1 && sx_eqN z.2.1 y.2.1) && (!(sx_eq z.2.2.2 y.2.2.2) && sx_eqpL P D z.2.2.1 y.2.2.1) then some z.2.2.2 else none
  | none => none
def sx_sf1 (P : sx_P) (D0 : sx_D) (f : sx_F) (D : sx_D) : sx_D := match sx_sfk f with
  | some y => (match sx_first (sx_sf2 P D0 y) D0.2.2.2.2.1 with
    | some r => sx_adds P [sx_sb y.2.2.2 r, sx_sb r y.2.2.2] D
    | none => D)
  | none => D
def sx_sfA (P : sx_P) (D0 : sx_D) : List sx_F → sx_D → sx_D
  | [], D => D
  | f :: l, D => sx_sf1 P D0 f (sx_sfA P D0 l D)
/-! a number divided: quotient and rest together -/
def sx_dv2 (x c : sx_E) (f : sx_F) : Option sx_E := match f with
  | (115, [], [x', c', r]) => bif sx_eq x' x && sx_eq c' c then some r else none
  | _ => none
def sx_dv1 (P : sx_P) (D0 : sx_D) (f : sx_F) (D : sx_D) : sx_D := match f with
  | (114, [], [x, (c, []), q]) => bif (sx_le 1 c && sx_le c 2147483647) && (sx_ge P D0 (sx_pk x 2147483648) && sx_ge P D0 (sx_pk (sx_ng x) 2147483647)) then (match sx_first (sx_dv2 x (c, [])) D0.2.2.2.2.1 with
      | some r => sx_adds P [sx_sb x (sx_ad (sx_sc c q) r), sx_sb (sx_ad (sx_sc c q) r) x] D
      | none => D) else D
  | _ => D
def sx_dvA (P : sx_P) (D0 : sx_D) : List sx_F → sx_D → sx_D
  | [], D => D
  | f :: l, D => sx_dv1 P D0 f (sx_dvA P D0 l D)
/-! sheets that are alike -/
/-- a sum that is 0 -/
def sx_add0 (P : sx_P) (e : sx_E) (D : sx_D) : sx_D := bif sx_any (sx_eq e) D.2.2.2.1 then D else sx_adds P [e, sx_ng e] D
def sx_ne0 (e : sx_E) : List sx_F → List sx_F
  | [] => []
  | f :: l => (match f with
    | (1, [], [d]) => (1, [], [sx_sb d e]) :: (1, [], [sx_ad d e]) :: sx_ne0 e l
    | _ => sx_ne0 e l)
def sx_prE (P : sx_P) (e : sx_E) : List sx_E → sx_D → sx_D
  | [], D => D
  | q :: l, D => sx_add0 P (sx_sb q e) (sx_prE P e l D)
def sx_sh2 (P : sx_P) (D0 : sx_D) (S : Nat) (i y : sx_E) (A : sx_D × List sx_E) : sx_D × List sx_E := match sx_sel P D0 S i with
  | some x => (let D := sx_prE P (sx_sb x (sx_pk y 1)) A.2 (sx_add0 P (sx_sb x (sx_pk y 1)) A.1)
    (sx_wF D (sx_ne0 (sx_sb x (sx_pk y 1)) D.2.2.2.2.1 ++ D.2.2.2.2.1), sx_sb x (sx_pk y 1) :: A.2))
  | none => A
def sx_sh3 (P : sx_P) (D0 : sx_D) (Z Y : Nat) (i y : sx_E) (A : sx_D × List sx_E) : sx_D × List sx_E := bif sx_ge P D0 y then (match sx_sel P D0 Z i, sx_sel P D0 Y i with
  | some z, some u => (sx_add0 P (sx_sb z u) A.1, A.2)
  | _, _ => A) else A
def sx_sh1 (P : sx_P) (D0 : sx_D) (S Z M Y : Nat) (f : sx_F) (A : sx_D × List sx_E) : sx_D × List sx_E := match f with
  | (2, [M'], [i, y]) => bif Nat.beq M' M && (sx_ge P D0 i && sx_ge P D0 (sx_pk (sx_ng i) 3)) then sx_sh3 P D0 Z Y i y (sx_sh2 P D0 S i y A) else A
  | _ => A
def sx_shL (P : sx_P) (D0 : sx_D) (S Z M Y : Nat) : List sx_F → sx_D → sx_D × List sx_E
  | [], D => (D, [])
  | f :: l, D => sx_sh1 P D0 S Z M Y f (sx_shL P D0 S Z M Y l D)
def sx_shG (P : sx_P) (D0 : sx_D) (g : sx_F) (D : sx_D) : sx_D := match g with
  | (1020, [S, Z, M, Y], []) => (sx_shL P D0 S Z M Y D0.2.2.2.2.1 D).1
  | _ => D
def sx_shA (P : sx_P) (D0 : sx_D) : List sx_F → sx_D → sx_D
  | [], D => D
  | g :: l, D => sx_shG P D0 g (sx_shA P D0 l D)
/-! results out of two sheets that are alike -/
def sx_rz9 (Z Z' M : Nat) (g : sx_F) : Bool := match g with
  | (1020, [_, z', m, z], []) => Nat.beq m M && (Nat.beq z' Z' && Nat.beq z Z)
  | _ => false
def sx_rz8 (P : sx_P) (D0 : sx_D) (C C' Z Z' : Nat) (s : sx_E) (q : sx_F) : Bool := match q with
  | (1021, [a, b, M], []) => (Nat.beq a C' && Nat.beq b C) && (sx_any (sx_rz9 Z Z' M) D0.2.2.2.2.1 && sx_o (sx_sel P D0 M s) (sx_ge P D0))
  | _ => false
def sx_s40 (P : sx_P) (D0 : sx_D) (Z : Nat) : Bool := match sx_nhi P D0 Z with
  | some h => sx_le h 40
  | none => false
def sx_rz2 (P : sx_P) (D0 : sx_D) (C Y Z : Nat) (es : List sx_E) (s : sx_E) (g : sx_F) : Option (sx_E × sx_E) := match g with
  | (1030, [C', Y', Z'], [m', p', came', cnt', s', t', g', r', c']) => bif (Nat.beq Y' Y && sx_eqpL P D0 [m', p', came', cnt', s', t', g'] es) && (sx_any (sx_rz8 P D0 C C' Z Z' s) D0.2.2.2.2.1 && (sx_i4 P D0 s && sx_s40 P D0 Z)) then some (r', c') else none
  | _ => none
def sx_rz1 (P : sx_P) (D0 : sx_D) (f : sx_F) (D : sx_D) : sx_D := match f with
  | (1030, [C, Y, Z], [m, p, came, cnt, s, t, g, r, c]) => (match sx_first (sx_rz2 P D0 C Y Z [m, p, came, cnt, s, t, g] s) D0.2.2.2.2.1 with
    | some z => sx_adds P [sx_sb r z.1, sx_sb z.1 r, sx_sb c z.2, sx_sb z.2 c] D
    | none => D)
  | _ => D
def sx_rzA (P : sx_P) (D0 : sx_D) : List sx_F → sx_D → sx_D
  | [], D => D
  | g :: l, D => sx_rz1 P D0 g (sx_rzA P D0 l D)
/-! the faults of two tapes that are alike -/
def sx_ft2 (P : sx_P) (D0 : sx_D) (C : Nat) (n : sx_E) (g : sx_F) : Option sx_E := match g with
  | (1070, [C'], [n', x']) => bif sx_any (sx_l40 C C') D0.2.2.2.2.1 && sx_eqp P D0 n' n then some x' else none
  | _ => none
def sx_ft1 (P : sx_P) (D0 : sx_D) (f : sx_F) (D : sx_D) : sx_D := match f with
  | (1070, [C], [n, x]) => (match sx_first (sx_ft2 P D0 C n) D0.2.2.2.2.1 with
    | some y => sx_adds P [sx_sb x y, sx_sb y x] D
    | none => D)
  | _ => D
def sx_ftA (P : sx_P) (D0 : sx_D) : List sx_F → sx_D → sx_D
  | [], D => D
  | g :: l, D => sx_ft1 P D0 g (sx_ftA P D0 l D)
def sx_mrD (P : sx_P) (c : Nat) (D : sx_D) : sx_D := bif Nat.beq c 8070 then sx_ftA P D D.2.2.2.2.1 D else bif Nat.beq c 8030 then sx_rzA P D D.2.2.2.2.1 D else bif Nat.beq c 8000 then sx_shA P D D.2.2.2.2.1 D else bif Nat.beq c 4000 then sx_ali P D.2.2.2.2.1 D else bif Nat.beq c 5000 then sx_sfA P D D.2.2.2.2.1 D else bif Nat.beq c 7000 then sx_dvA P D D.2.2.2.2.1 D else D
/-- bounds that no number has -/
def sx_bad (D : sx_D) : Bool := sx_any (fun p : Nat × Int × Int => match sx_lk p.1 D.2.2.1 with
  | some b => !(sx_le b.1 b.2)
  | none => false) D.2.2.1
def sx_execN (P : sx_P) (CT : sx_T2) (K : sx_K) (rec : sx_Q → Bool) (q : sx_Q) (c : Nat) : Bool := bif sx_bad (sx_mrD P c q.2.2.2.2.2) then true else sx_exec1 P CT K rec (q.1, q.2.1, (q.2.2.1, q.2.2.2.1, q.2.2.2.2.1, sx_mrD P c q.2.2.2.2.2))
/-- three ways: a local against a place (500 on), two places (20000 on), a local against a number (400000 on) -/
def sx_dif (q : sx_Q) (p : Nat × Nat) : Option sx_E := bif Nat.ble 400000 p.2 then (match sx_argE q.2.2.2.1 p.1 with
    | some a => some (sx_pk a (400000 - (p.2 : Int)))
    | none => none) else bif Nat.ble 20000 p.2 then some (sx_pk (sx_sb (sx_sg q.2.2.2.2.2 ((p.2 - 20000) / 512)) (sx_sg q.2.2.2.2.2 ((p.2 - 20000) % 512))) (p.1 : Int)) else (match sx_argE q.2.2.2.1 p.1 with
    | some a => some (sx_sb a (sx_sg q.2.2.2.2.2 (p.2 - 500)))
    | none => none)
def sx_exec4 (P : sx_P) (CT : sx_T2) (K : sx_K) (rec : sx_Q → Bool) (q : sx_Q) (p : Nat × Nat) : Bool := match sx_dif q p with
  | some d => (match sx_scp (sx_nx q.2.2.2.2.2) d with
    | some d => sx_exec3 P CT K rec q d 2 && (sx_exec3 P CT K rec q d 0 && sx_exec3 P CT K rec q d 4)
    | none => false)
  | none => false
def sx_exec (P : sx_P) (CT : sx_T2) (K : sx_K) (rec : sx_Q → Bool) (q : sx_Q) : Bool := match CT.2 q.1 q.2.2.1 with
  | none => sx_exec1 P CT K rec q
  | some p => bif Nat.ble 20000 p.2 then sx_exec4 P CT K rec q p else bif Nat.ble 4000 p.2 then sx_execN P CT K rec q p.2 else bif Nat.ble 3000 p.2 then sx_execI P CT K rec q else bif Nat.ble 2000 p.2 then sx_execP P CT K rec q else bif Nat.ble 1000 p.2 then sx_execC P CT K rec q p.1 else bif Nat.ble 500 p.2 then sx_exec4 P CT K rec q p else sx_exec2 P CT K rec q p
def sx_lab (pc : Nat) (l : List sx_K) : Bool := sx_any (fun K => Nat.beq K.2.1 pc) l
def sx_step (P : sx_P) (CT : sx_T2) (K : sx_K) (rec : sx_Q → Bool) (q : sx_Q) : Bool := match q.2.2.2.2.1 with
  | [] => bif Nat.beq q.2.2.1 0 then sx_exec P CT K rec q else bif sx_lab q.2.2.1 (CT.1 q.1) then sx_tail P K rec q (sx_find P q.2.2.2.2.2 q.2.2.2.1 q.2.2.1 (CT.1 q.1)) else sx_exec P CT K rec q
  | _ => sx_exec P CT K rec q
def sx_run (P : sx_P) (CT : sx_T2) (K : sx_K) : Nat → sx_Q → Bool
  | 0, _ => false
  | n + 1, q => sx_step P CT K (sx_run P CT K n) q
/-- a contract holds if the others do -/
def sx_chk (P : sx_P) (CT : sx_T2) (n : Nat) (K : sx_K) : Bool := sx_exec P CT K (sx_run P CT K n) (K.1, [], (K.2.1, K.2.2.1, [], sx_D0 P K))
