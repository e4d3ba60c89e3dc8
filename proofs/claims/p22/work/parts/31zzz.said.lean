/-! WHAT TEXTS SAY: which of these facts can be said; they hold -/
def sx_oa (P : sx_P) (D : sx_D) (o : Nat) (a b x : sx_E) (f : sx_F) : Bool := match f with
  | (o', [], [a', b', x']) => Nat.beq o' o && (sx_eqp P D a' a && (sx_eqp P D b' b && sx_eqp P D x' x))
  | _ => false
def sx_of (P : sx_P) (D : sx_D) (o : Nat) (a b x : sx_E) : Bool := sx_any (sx_oa P D o a b x) D.2.2.2.2.1
/-- a sum that is an int -/
def sx_in32 (P : sx_P) (D : sx_D) (e : sx_E) : Bool := sx_ge P D (sx_pk e 2147483648) && sx_ge P D (sx_pk (sx_ng e) 2147483647)
/-- an int that is known from its bounds or from what was read -/
def sx_cmp1 (P : sx_P) (D : sx_D) (t f : Bool) (x : sx_E) : Bool := (t && sx_eqp P D x (sx_k 1)) || (f && sx_eqp P D x (sx_k 0))
def sx_ks : List Int := [43, 45, 42, 60, 61, 267, 266]
def sx_op1 (P : sx_P) (D : sx_D) (t a b x : sx_E) : Bool :=
  (sx_eqp P D t (sx_k 43) && ((sx_eqp P D x (sx_ad a b) && (sx_in32 P D (sx_ad a b) && (sx_in32 P D a && sx_in32 P D b))) || sx_of P D 109 a b x)) || ((sx_eqp P D t (sx_k 45) && ((sx_eqp P D x (sx_sb a b) && (sx_in32 P D (sx_sb a b) && (sx_in32 P D a && sx_in32 P D b))) || sx_of P D 110 a b x)) || ((sx_eqp P D t (sx_k 42) && sx_of P D 111 a b x) ||
  ((sx_eqp P D t (sx_k 60) && sx_cmp1 P D (sx_ge P D (sx_pk (sx_sb b a) (-1))) (sx_ge P D (sx_sb a b)) x) || ((sx_eqp P D t (sx_k 61) && sx_cmp1 P D (sx_eqp P D a b) (sx_nzb P D (sx_sb a b)) x) || ((sx_eqp P D t (sx_k 267) && sx_cmp1 P D (sx_nzb P D a && sx_nzb P D b) (sx_eqp P D a (sx_k 0) || sx_eqp P D b (sx_k 0)) x) ||
  ((sx_eqp P D t (sx_k 266) && sx_cmp1 P D (sx_nzb P D a || sx_nzb P D b) (sx_eqp P D a (sx_k 0) && sx_eqp P D b (sx_k 0)) x) || (sx_ql (fun c => sx_nzb P D (sx_pk t (-c))) sx_ks && sx_eqp P D x (sx_k 0))))))))
def sx_kr : List Int := [43, 45, 42, 60, 61]
def sx_ob1 (P : sx_P) (D : sx_D) (t a b x : sx_E) : Bool := sx_any (fun c => sx_eqp P D t (sx_k c) && sx_op1 P D (sx_k c) a b x) sx_kr || ((sx_eqp P D t (sx_k 5) && sx_op1 P D (sx_k 267) a b x) || ((sx_ql (fun c => sx_nzb P D (sx_pk t (-c))) sx_kr && sx_nzb P D (sx_pk t (-5))) && sx_op1 P D (sx_k 266) a b x))
/-- - y -/
def sx_ug (P : sx_P) (D : sx_D) (y x : sx_E) (f : sx_F) : Bool := match f with
  | (116, [], [y', z, x']) => sx_eqp P D y' y && (sx_eq z (sx_k 0) && sx_eqp P D x' x)
  | _ => false
def sx_un1 (P : sx_P) (D : sx_D) (neg : Bool) (y x : sx_E) : Bool := bif neg then (sx_eqp P D x (sx_ng y) && (sx_in32 P D (sx_ng y) && sx_in32 P D y)) || sx_any (sx_ug P D y x) D.2.2.2.2.1 else sx_cmp1 P D (sx_eqp P D y (sx_k 0)) (sx_nzb P D y) x
/-- the class's pile: number j from the top; where one is laid instead of n -/
def sx_tp1 (P : sx_P) (D : sx_D) (K : Nat) (u : sx_E) (j : Nat) : Option sx_E := bif sx_ge P D (sx_pk u (-1 - (j : Int))) then sx_sel P D K (sx_pk u (-1 - (j : Int))) else bif sx_ge P D (sx_pk (sx_ng u) (j : Int)) then some (sx_k 0) else none
def sx_ba1 (P : sx_P) (D : sx_D) (u q u' : sx_E) (n : Nat) : Bool := (sx_ge P D (sx_pk u (-(n : Int))) && (sx_eqp P D q (sx_pk u (-(n : Int))) && sx_eqp P D u' (sx_pk u (1 - (n : Int))))) || (sx_ge P D (sx_pk (sx_ng u) ((n : Int) - 1)) && (sx_eqp P D q (sx_k 0) && sx_eqp P D u' (sx_k 1)))
def sx_jo (P : sx_P) (D : sx_D) (o : Nat) (t a b x : sx_E) (f : sx_F) : Bool := match f with
  | (o', [], [t', a', b', x']) => Nat.beq o' o && ((sx_eqp P D t' t && sx_eqp P D a' a) && (sx_eqp P D b' b && sx_eqp P D x' x))
  | _ => false
def sx_s91 (P : sx_P) (D : sx_D) (F K : Nat) (c u q x u' : sx_E) : Bool :=
  (sx_ge P D c && ((sx_eqp P D q u && sx_eqp P D u' (sx_pk u 1)) && sx_eqp P D x c)) ||
  (((sx_ge P D (sx_pk c 262) && sx_ge P D (sx_pk (sx_ng c) (-257))) && ((sx_eqp P D q u && sx_eqp P D u' (sx_pk u 1)) && sx_o (sx_sel P D F (sx_pk (sx_ng c) (-257))) (fun y => sx_eqp P D x y))) ||
  ((sx_eqp P D c (sx_k (-4)) && (sx_ba1 P D u q u' 1 && sx_o (sx_tp1 P D K u 0) (fun y => sx_un1 P D true y x))) || ((sx_eqp P D c (sx_k (-269)) && (sx_ba1 P D u q u' 1 && sx_o (sx_tp1 P D K u 0) (fun y => sx_un1 P D false y x))) ||
  (((sx_ge P D (sx_pk (sx_ng c) (-1)) && (sx_ge P D (sx_pk c 256) || sx_ge P D (sx_pk (sx_ng c) (-263)))) && ((sx_nzb P D (sx_pk c 4) && sx_nzb P D (sx_pk c 269)) && sx_ba1 P D u q u' 2)) && sx_o (sx_tp1 P D K u 0) (fun b => sx_o (sx_tp1 P D K u 1) (fun a => sx_any (sx_jo P D 1092 (sx_pk (sx_ng c) (-1)) a b x) D.2.2.2.2.1))))))
def sx_h91 (P : sx_P) (D : sx_D) (C F K : Nat) (s i u : sx_E) (g : sx_F) : Bool := match g with
  | (1091, [C', F', K'], [s', i', u']) => ((Nat.beq C' C && Nat.beq F' F) && sx_eqp P D s' s) && (((Nat.beq K' K && (sx_eqp P D i' i && sx_eqp P D u' u))) || ((sx_eqp P D i (sx_pk i' 1) && (sx_ge P D i' && sx_ge P D u')) && (match sx_sel P D C i', sx_fru D K with
    | some c, some z => Nat.beq z.1 K' && sx_s91 P D F K' c u' z.2.1 z.2.2 u
    | _, _ => false)))
  | _ => false
def sx_h93 (P : sx_P) (D : sx_D) (C F : Nat) (s e x : sx_E) (g : sx_F) : Bool := match g with
  | (1093, [C', F'], [s', e', x']) => (Nat.beq C' C && Nat.beq F' F) && (sx_eqp P D s' s && (sx_eqp P D e' e && sx_eqp P D x' x))
  | (1091, [C', F', K], [s', e', u]) => ((Nat.beq C' C && Nat.beq F' F) && (sx_eqp P D s' s && sx_eqp P D e' e)) && ((sx_ge P D (sx_pk u (-1)) && sx_o (sx_sel P D K (sx_pk u (-1))) (fun y => sx_eqp P D x y)) || ((sx_ge P D u && sx_ge P D (sx_ng u)) && sx_eqp P D x (sx_k 0)))
  | _ => false
def sx_q95 (P : sx_P) (D : sx_D) (C F : Nat) (s e x : sx_E) (g : sx_F) : Bool := match g with
  | (1093, [C', F'], [s', e', x']) => (Nat.beq C' C && Nat.beq F' F) && (sx_eqp P D s' s && (sx_eqp P D e' e && sx_eqp P D x' x))
  | _ => false
def sx_h95 (P : sx_P) (D : sx_D) (C ST EN F : Nat) (t p x : sx_E) : Bool := match sx_sel P D ST (sx_ad (sx_sc 4 t) p), sx_sel P D EN (sx_ad (sx_sc 4 t) p) with
  | some s, some e => sx_any (sx_q95 P D C F s e x) D.2.2.2.2.1
  | _, _ => false
def sx_s01 (P : sx_P) (D : sx_D) (A W F K : Nat) (k n q x n' : sx_E) : Bool := sx_o (sx_sel P D A k) (fun a =>
  (sx_eqp P D a (sx_k 1) && ((sx_eqp P D q n && sx_eqp P D n' (sx_pk n 1)) && sx_o (sx_sel P D W k) (fun w => sx_eqp P D x w))) ||
  ((sx_eqp P D a (sx_k 2) && ((sx_eqp P D q n && sx_eqp P D n' (sx_pk n 1)) && sx_o (sx_sel P D W k) (fun w => sx_o (sx_sel P D F w) (fun y => sx_eqp P D x y)))) ||
  (((sx_ge P D (sx_pk n (-1)) && (sx_eqp P D q (sx_pk n (-1)) && sx_eqp P D n' n)) && sx_o (sx_sel P D K (sx_pk n (-1))) (fun y => (sx_eqp P D a (sx_k 4) && sx_un1 P D true y x) || (sx_eqp P D a (sx_k 3) && sx_un1 P D false y x))) ||
  ((((sx_nzb P D (sx_pk a (-1)) && sx_nzb P D (sx_pk a (-2))) && (sx_nzb P D (sx_pk a (-3)) && sx_nzb P D (sx_pk a (-4)))) && (sx_ge P D (sx_pk n (-2)) && (sx_eqp P D q (sx_pk n (-2)) && sx_eqp P D n' (sx_pk n (-1))))) &&
    sx_o (sx_sel P D K (sx_pk n (-2))) (fun l => sx_o (sx_sel P D K (sx_pk n (-1))) (fun r => sx_any (sx_jo P D 1104 a l r x) D.2.2.2.2.1))))))
def sx_h01 (P : sx_P) (D : sx_D) (A W PE F K : Nat) (t p k n : sx_E) (g : sx_F) : Bool := match g with
  | (1101, [A', W', PE', F', K'], [t', p', k', n']) => (sx_eN [A', W', PE', F'] [A, W, PE, F] && (sx_eqp P D t' t && sx_eqp P D p' p)) && ((Nat.beq K' K && (sx_eqp P D k' k && sx_eqp P D n' n)) || ((sx_eqp P D k (sx_pk k' 1) && (sx_ge P D k' && sx_ge P D n')) && (sx_o (sx_sel P D PE (sx_ad (sx_sc 4 t) p)) (fun h => sx_ge P D (sx_pk (sx_sb (sx_ad (sx_sc 170 t) h) k') (-1))) && (match sx_fru D K with
    | some z => Nat.beq z.1 K' && sx_s01 P D A W F K' k' n' z.2.1 z.2.2 n
    | none => false))))
  | _ => false
def sx_q01 (P : sx_P) (D : sx_D) (PE : Nat) (t : sx_E) (g : sx_F) : Bool := match g with
  | (1102, [PE'], [S]) => Nat.beq PE' PE && sx_ge P D (sx_pk (sx_sb S t) (-1))
  | _ => false
def sx_i01 (P : sx_P) (D : sx_D) (PE : Nat) (t p k n : sx_E) : Bool := ((sx_eqp P D n (sx_k 0) && sx_ge P D t) && (sx_ge P D (sx_pk p (-1)) && sx_ge P D (sx_pk (sx_ng p) 3))) && (sx_o (sx_sel P D PE (sx_pk (sx_ad (sx_sc 4 t) p) (-1))) (fun lo => sx_eqp P D k (sx_ad (sx_sc 170 t) lo)) && sx_any (sx_q01 P D PE t) D.2.2.2.2.1)
def sx_h96 (P : sx_P) (D : sx_D) (A W PE F : Nat) (t p x : sx_E) (g : sx_F) : Bool := match g with
  | (1096, [A', W', PE', F'], [t', p', x']) => sx_eN [A', W', PE', F'] [A, W, PE, F] && (sx_eqp P D t' t && (sx_eqp P D p' p && sx_eqp P D x' x))
  | (1101, [A', W', PE', F', K], [t', p', k, _]) => (sx_eN [A', W', PE', F'] [A, W, PE, F] && (sx_eqp P D t' t && sx_eqp P D p' p)) && (sx_o (sx_sel P D PE (sx_ad (sx_sc 4 t) p)) (fun h => sx_ge P D (sx_sb k (sx_ad (sx_sc 170 t) h))) && sx_o (sx_sel P D K (sx_k 0)) (fun y => sx_eqp P D x y))
  | _ => false
def sx_h07 (P : sx_P) (D : sx_D) (A : Nat) (c o n : sx_E) (g : sx_F) : Bool := match g with
  | (1107, [A'], [c', o', n']) => (Nat.beq A' A && sx_eqp P D c' c) && ((sx_eqp P D o' o && sx_eqp P D n' n) || ((sx_eqp P D o (sx_pk o' 1) && sx_ge P D o') && sx_o (sx_sel P D A o') (fun x => sx_o (sx_sel P D A c) (fun y => (sx_eqp P D x y && sx_eqp P D n (sx_pk n' 1)) || (sx_nzb P D (sx_sb x y) && sx_eqp P D n n')))))
  | _ => false
/-- the row behind puts, the last first -/
def sx_ch (P : sx_P) (D : sx_D) : List (Int × sx_E) → Nat → Option Nat
  | [], b => some b
  | p :: l, b => match sx_fru D b with
    | some x => bif sx_eqp P D x.2.1 (sx_k p.1) && sx_eqp P D x.2.2 p.2 then sx_ch P D l x.1 else none
    | none => none
def sx_clp (P : sx_P) (D : sx_D) (x y : sx_E) : Bool := ((sx_ge P D x && sx_ge P D (sx_pk (sx_ng x) 5)) && sx_eqp P D y x) || ((sx_ge P D (sx_ng x) && sx_eqp P D y (sx_k 0)) || (sx_ge P D (sx_pk x (-5)) && sx_eqp P D y (sx_k 5)))
def sx_cd7 (P : sx_P) (D : sx_D) (A : Nat) (c : sx_E) (g : sx_F) : Option sx_E := match g with
  | (1107, [A'], [c', o, n]) => bif Nat.beq A' A && (sx_eqp P D c' c && sx_eqp P D o (sx_pk c 1)) then some n else none
  | _ => none
def sx_cd8 (P : sx_P) (D : sx_D) (RT RF : Nat) (m d : sx_E) (g : sx_F) : Option sx_E := match g with
  | (1018, [RT', RF'], [m', d', t]) => bif (Nat.beq RT' RT && Nat.beq RF' RF) && (sx_eqp P D m' m && sx_eqp P D d' d) then some t else none
  | _ => none
def sx_q05 (P : sx_P) (D : sx_D) (A W PE : Nat) (t n kd x : sx_E) (g : sx_F) : Bool := match g with
  | (1096, [A', W', PE', F], [t', p, y]) => (sx_eN [A', W', PE'] [A, W, PE] && (sx_eqp P D t' t && sx_eqp P D p (sx_k 3))) && ((sx_ch P D [(5, sx_k 0), (4, kd), (3, n), (2, sx_k 0), (1, sx_k 0), (0, sx_k 0)] F).isSome && sx_clp P D y x)
  | _ => false
def sx_h05 (P : sx_P) (D : sx_D) (CP CG CK DY RT RF A W PE : Nat) (m c x : sx_E) : Bool := sx_ge P D c && sx_o (sx_sel P D CG c) (fun gm => sx_o (sx_sel P D CK c) (fun kd => sx_o (sx_sel P D DY gm) (fun dy =>
  sx_any (fun n => sx_any (fun t => sx_any (sx_q05 P D A W PE t n kd x) D.2.2.2.2.1) (tr_fm (sx_cd8 P D RT RF m dy) D.2.2.2.2.1)) (tr_fm (sx_cd7 P D CP c) D.2.2.2.2.1))))
def sx_hE (P : sx_P) (D : sx_D) (f : sx_F) : Bool := match f with
  | (1042, [C], [f, i, v]) => (sx_eqp P D f i && (sx_eqp P D v (sx_k 0) && sx_ge P D f)) || sx_any (sx_h42 P D C f i v) D.2.2.2.2.1
  | (1043, [C], [f, u, v]) => (sx_eqp P D u f && (sx_eqp P D v (sx_k 0) && sx_ge P D f)) || sx_any (sx_h43 P D C f u v) D.2.2.2.2.1
  | (1044, [C], [n, f, t, v]) => sx_nzb P D (sx_pk t (-2)) || sx_any (sx_h44 P D C n f t v) D.2.2.2.2.1
  | (1062, [T, V, C], [w, j, o, f, r, a, u, e]) => sx_EA P D (sx_XC P D T V) [C] w j o f r a u e
  | (1063, [C, A, W], [n, w, j, o, f, r, a, u, e]) => sx_EA P D (sx_XR P D C n) [A, W] w j o f r a u e
  | (1081, [C, ST, EN, A, W, PE], [S]) => sx_any (sx_h81 P D C ST EN A W PE S) D.2.2.2.2.1
  | (1082, [C, C1, ST, EN, E0], [n, S]) => sx_h82 P D C C1 ST EN E0 n S
  | (1083, [R, A, W, PE], [n, S]) => sx_any (sx_h83 P D R A W PE n S) D.2.2.2.2.1
  | (1084, [a, b], [k]) => sx_frm P D a b k
  | (1085, [a, b, e], [S]) => sx_o (sx_sel P D e (sx_pk (sx_sc 4 S) (-1))) (fun x => sx_frm P D a b x)
  | (1086, [R, A, W, PE], [n, p, f, S, l, le]) => sx_h86 P D R A W PE n p f S l le
  | (1088, [T, V, C, ST, EN], [p, f, S, u, ue]) => sx_h88 P D T V C ST EN p f S u ue
  | (1089, [a], [S]) => sx_ge P D (sx_pk S (-1)) && (sx_any (sx_h89 P D a S) D.2.2.2.2.1 || sx_o (sx_ia P D a (sx_pk (sx_sc 4 S) (-1))) (fun x => sx_ge P D x && sx_ge P D (sx_sb (sx_sc 160 S) x)))
  | (1091, [C, F, K], [s, i, u]) => (sx_eqp P D s i && (sx_eqp P D u (sx_k 0) && sx_ge P D s)) || sx_any (sx_h91 P D C F K s i u) D.2.2.2.2.1
  | (1092, [], [t, a, b, x]) => sx_op1 P D t a b x
  | (1093, [C, F], [s, e, x]) => sx_any (sx_h93 P D C F s e x) D.2.2.2.2.1
  | (1095, [C, ST, EN, F], [t, p, x]) => sx_h95 P D C ST EN F t p x
  | (1096, [A, W, PE, F], [t, p, x]) => sx_any (sx_h96 P D A W PE F t p x) D.2.2.2.2.1
  | (1098, [C, T, V], [n, m]) => sx_eqp P D m (sx_k 0) || sx_any (sx_h98 P D C T V n m) D.2.2.2.2.1
  | (1099, [ST, EN], [S]) => sx_any (sx_h99 P D ST EN S) D.2.2.2.2.1
  | (1101, [A, W, PE, F, K], [t, p, k, n]) => sx_i01 P D PE t p k n || sx_any (sx_h01 P D A W PE F K t p k n) D.2.2.2.2.1
  | (1102, [PE], [S]) => sx_any (sx_h02 P D PE S) D.2.2.2.2.1
  | (1104, [], [t, a, b, x]) => sx_ob1 P D t a b x
  | (1105, [CP, CG, CK, DY, RT, RF, A, W, PE], [m, c, x]) => sx_h05 P D CP CG CK DY RT RF A W PE m c x
  | (1107, [A], [c, o, n]) => (sx_ge P D c && (sx_eqp P D o (sx_k 0) && sx_eqp P D n (sx_k 0))) || sx_any (sx_h07 P D A c o n) D.2.2.2.2.1
  | _ => false
