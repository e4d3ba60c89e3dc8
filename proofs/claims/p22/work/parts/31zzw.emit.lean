/-! TEXTS: what is emitted, stored, said: which of these facts can be said -/
def sx_eN : List Nat → List Nat → Bool
  | [], [] => true
  | a :: l, b :: r => Nat.beq a b && sx_eN l r
  | _, _ => false
theorem sx_eN_eq : ∀ {a b : List Nat}, sx_eN a b = true → a = b
  | [], [], _ => rfl
  | [], _ :: _, h => by cases h
  | _ :: _, [], h => by cases h
  | a :: l, b :: r, h => by
    have h : (Nat.beq a b && sx_eN l r) = true := h
    rw [Bool.and_eq_true] at h
    rw [Nat.eq_of_beq_eq_true h.1, sx_eN_eq h.2]
/-- alike below k -/
def sx_fr1 (P : sx_P) (D : sx_D) (b : Nat) (k : sx_E) (g : sx_F) : Option Nat := match g with
  | (1084, [a, b'], [k']) => bif Nat.beq b' b && sx_ge P D (sx_sb k' k) then some a else none
  | _ => none
def sx_fq (P : sx_P) (D : sx_D) (k : sx_E) (a : Nat) : Nat → Nat → Bool
  | 0, b => Nat.beq a b
  | n + 1, b => Nat.beq a b || (sx_any (sx_fq P D k a n) (tr_fm (sx_fr1 P D b k) D.2.2.2.2.1) || (match sx_fru D b with
    | some x => sx_ge P D (sx_sb x.2.1 k) && sx_fq P D k a n x.1
    | none => false))
def sx_frm (P : sx_P) (D : sx_D) (a b : Nat) (k : sx_E) : Bool := sx_fq P D k a 6 b
/-- one digit more -/
def sx_ns (P : sx_P) (D : sx_D) (z v x : sx_E) (r : Bool) : Bool := match sx_rs D 110 z with
  | some y => sx_eq y.2 (sx_k 48) && (match sx_rs D 109 y.1 with
    | some q => sx_eqp P D q.2 x && (match sx_rs D 111 q.1 with
      | some w => bif r then sx_eq w.1 (sx_k 10) && sx_eqp P D w.2 v else sx_eq w.2 (sx_k 10) && sx_eqp P D w.1 v
      | none => false)
    | none => false)
  | none => false
def sx_h42 (P : sx_P) (D : sx_D) (C : Nat) (f i v : sx_E) (g : sx_F) : Bool := match g with
  | (1042, [C'], [f', i', v']) => (Nat.beq C' C && sx_eqp P D f' f) && ((sx_eqp P D i' i && sx_eqp P D v' v) || ((sx_eqp P D i (sx_pk i' 1) && (sx_ge P D (sx_sb i' f) && sx_ge P D f)) && sx_o (sx_sel P D C i') (fun x => sx_ns P D v v' x false)))
  | _ => false
def sx_h43 (P : sx_P) (D : sx_D) (C : Nat) (f u v : sx_E) (g : sx_F) : Bool := match g with
  | (1043, [C'], [f', u', v']) => (Nat.beq C' C && sx_eqp P D f' f) && ((sx_eqp P D u' u && sx_eqp P D v' v) || ((sx_eqp P D u (sx_pk u' 1) && (sx_ge P D (sx_sb u' f) && sx_ge P D f)) && ((sx_ge P D (sx_pk (sx_sb f u') 4) && sx_o (sx_sel P D C u') (fun x => sx_ns P D v v' x true)) || (sx_ge P D (sx_pk (sx_sb u' f) (-5)) && sx_eqp P D v v'))))
  | _ => false
def sx_h44 (P : sx_P) (D : sx_D) (C : Nat) (n f t v : sx_E) (g : sx_F) : Bool := match g with
  | (1044, [C'], [n', f', t', v']) => (Nat.beq C' C && (sx_eqp P D n' n && sx_eqp P D f' f)) && (sx_eqp P D t' t && sx_eqp P D v' v)
  | (1043, [C'], [f', u, v']) => (Nat.beq C' C && (sx_eqp P D f' f && sx_eqp P D v' v)) && ((sx_ge P D (sx_pk (sx_sb f u) 4) && sx_ge P D (sx_pk (sx_sb n f) (-1))) && ((sx_ge P D f && sx_o (sx_sel P D C f) (sx_qi P D 2)) && sx_r41 P D C 2 n f u))
  | _ => false
def sx_q98 (P : sx_P) (D : sx_D) (C : Nat) (n q y : sx_E) (g : sx_F) : Bool := match g with
  | (1042, [C'], [f, u, v]) => (Nat.beq C' C && sx_eqp P D v y) && ((sx_r41 P D C 0 n q f && sx_r41 P D C 2 n f u) && (sx_o (sx_sel P D C f) (sx_qi P D 2) && sx_ge P D (sx_pk (sx_sb n f) (-1))))
  | _ => false
def sx_p98 (P : sx_P) (D : sx_D) (C T : Nat) (n m y : sx_E) (g : sx_F) : Bool := match g with
  | (1048, [C', T', _], [n', m', q]) => (Nat.beq C' C && Nat.beq T' T) && ((sx_eqp P D n' n && sx_eqp P D m' m) && sx_any (sx_q98 P D C n q y) D.2.2.2.2.1)
  | _ => false
def sx_h98 (P : sx_P) (D : sx_D) (C T V : Nat) (n m : sx_E) (g : sx_F) : Bool := match g with
  | (1098, [C', T', V'], [n', m']) => (Nat.beq C' C && sx_eqp P D n' n) && (((Nat.beq T' T && Nat.beq V' V) && sx_eqp P D m' m) || (sx_eqp P D m (sx_pk m' 1) && sx_o (sx_up D T' T) (fun x => sx_o (sx_up D V' V) (fun y => (sx_eqp P D x.1 m' && sx_eqp P D y.1 m') && (sx_nzb P D (sx_pk x.2 (-2)) || sx_any (sx_p98 P D C T' n m' y.2) D.2.2.2.2.1)))))
  | _ => false
/-! what is emitted: rows (one of the class, two of the reference), items -/
abbrev sx_H : Type := List Nat × sx_E × sx_E × sx_E × sx_E × sx_E × sx_E × sx_E × sx_E
/-- an item that is put: the rows behind it; whether it is number f's, name f's, token c's; the rows alike below; what stands in a row -/
abbrev sx_KE : Type := sx_KD × List sx_H × (List Nat → sx_E → List (List Nat × List sx_E)) × (List sx_E → sx_E → Bool) × (List sx_E → sx_E → Bool) × (List sx_E → Int → Bool) × (List Nat → List Nat → sx_E → Bool) × (List Nat → sx_E → Option (List sx_E))
def sx_pu1 (P : sx_P) (D : sx_D) (a : Nat) (u : sx_E) (f : sx_F) : Option (Nat × sx_E) := match f with
  | (5, [a', b], [i, v]) => bif Nat.beq a' a && sx_eqp P D i u then some (b, v) else none
  | _ => none
def sx_pu (P : sx_P) (D : sx_D) (a : Nat) (u : sx_E) : List (Nat × sx_E) := tr_fm (sx_pu1 P D a u) D.2.2.2.2.1
def sx_ia (P : sx_P) (D : sx_D) (a : Nat) (u : sx_E) : Option sx_E := match sx_sel P D a u with
  | some x => some x
  | none => (match sx_fru D a with
    | some y => bif sx_eqp P D y.2.1 u then some y.2.2 else none
    | none => none)
/-- the class's -/
def sx_eC (T V : Nat) (g : sx_F) : Option sx_H := match g with
  | (1062, [T', V', C], [w, j, o, f, r, a, u, e]) => bif Nat.beq T' T && Nat.beq V' V then some ([C], w, j, o, f, r, a, u, e) else none
  | _ => none
def sx_puC (P : sx_P) (D : sx_D) (A : List Nat) (u : sx_E) : List (List Nat × List sx_E) := match A with
  | [a] => (sx_pu P D a u).map (fun p => ([p.1], [p.2]))
  | _ => []
def sx_inC (P : sx_P) (D : sx_D) (V : Nat) (l : List sx_E) (f : sx_E) : Bool := match l with
  | [x] => sx_o (sx_sel P D V f) (fun v => sx_eqp P D x v)
  | _ => false
def sx_imC (P : sx_P) (D : sx_D) (T : Nat) (l : List sx_E) (f : sx_E) : Bool := match l with
  | [x] => sx_o (sx_sel P D T f) (fun v => sx_eqp P D x (sx_pk (sx_ng v) (-1)))
  | _ => false
def sx_icC (P : sx_P) (D : sx_D) (l : List sx_E) (c : Int) : Bool := match l with
  | [x] => sx_eqp P D x (sx_k (-1 - c))
  | _ => false
def sx_frC (P : sx_P) (D : sx_D) (A B : List Nat) (k : sx_E) : Bool := match A, B with
  | [a], [b] => sx_frm P D a b k
  | _, _ => false
def sx_iaC (P : sx_P) (D : sx_D) (A : List Nat) (u : sx_E) : Option (List sx_E) := match A with
  | [a] => (match sx_ia P D a u with
    | some x => some [x]
    | none => none)
  | _ => none
def sx_XC (P : sx_P) (D : sx_D) (T V : Nat) : sx_KE := (sx_KC P D T, tr_fm (sx_eC T V) D.2.2.2.2.1, sx_puC P D, sx_inC P D V, sx_imC P D T, sx_icC P D, sx_frC P D, sx_iaC P D)
/-- the reference's -/
def sx_eR (P : sx_P) (D : sx_D) (C : Nat) (n : sx_E) (g : sx_F) : Option sx_H := match g with
  | (1063, [C', A, W], [n', w, j, o, f, r, a, u, e]) => bif Nat.beq C' C && sx_eqp P D n' n then some ([A, W], w, j, o, f, r, a, u, e) else none
  | _ => none
def sx_cr (l m : List (Nat × sx_E)) : List (List Nat × List sx_E) := match l with
  | [] => []
  | p :: l => m.map (fun q => ([p.1, q.1], [p.2, q.2])) ++ sx_cr l m
def sx_puR (P : sx_P) (D : sx_D) (A : List Nat) (u : sx_E) : List (List Nat × List sx_E) := match A with
  | [a, w] => sx_cr (sx_pu P D a u) (sx_pu P D w u)
  | _ => []
def sx_v44 (P : sx_P) (D : sx_D) (C : Nat) (n f v : sx_E) (g : sx_F) : Bool := match g with
  | (1044, [C'], [n', f', t, v']) => (Nat.beq C' C && (sx_eqp P D n' n && sx_eqp P D f' f)) && (sx_eqp P D t (sx_k 2) && sx_eqp P D v' v)
  | _ => false
def sx_inR (P : sx_P) (D : sx_D) (C : Nat) (n : sx_E) (l : List sx_E) (f : sx_E) : Bool := match l with
  | [x, y] => sx_eqp P D x (sx_k 1) && sx_any (sx_v44 P D C n f y) D.2.2.2.2.1
  | _ => false
def sx_imR (P : sx_P) (D : sx_D) (C : Nat) (n : sx_E) (l : List sx_E) (f : sx_E) : Bool := match l with
  | [x, y] => sx_eqp P D x (sx_k 2) && sx_any (fun c : Int => sx_eqp P D y (sx_k (c - 256)) && sx_isT (sx_kR P D C n f (sx_k c))) sx_nms
  | _ => false
/-- the reference's number for what joins, turns, denies -/
def sx_opc (c : Int) : Int := bif c == 3 then 4 else bif c == 268 then 3 else bif c == 267 then 5 else bif c == 266 then 6 else c
def sx_icR (P : sx_P) (D : sx_D) (l : List sx_E) (c : Int) : Bool := match l with
  | [x, _] => sx_eqp P D x (sx_k (sx_opc c))
  | _ => false
def sx_frR (P : sx_P) (D : sx_D) (A B : List Nat) (k : sx_E) : Bool := match A, B with
  | [a, w], [b, x] => sx_frm P D a b k && sx_frm P D w x k
  | _, _ => false
def sx_iaR (P : sx_P) (D : sx_D) (A : List Nat) (u : sx_E) : Option (List sx_E) := match A with
  | [a, w] => (match sx_ia P D a u, sx_ia P D w u with
    | some x, some y => some [x, y]
    | _, _ => none)
  | _ => none
def sx_XR (P : sx_P) (D : sx_D) (C : Nat) (n : sx_E) : sx_KE := (sx_KR P D C n, tr_fm (sx_eR P D C n) D.2.2.2.2.1, sx_puR P D, sx_inR P D C n, sx_imR P D C n, sx_icR P D, sx_frR P D, sx_iaR P D)
/-! a part that is used: its rows, its places -/
def sx_e0 (h : sx_H) : sx_E := h.2.2.2.2.2.2.2.1
def sx_e1 (h : sx_H) : sx_E := h.2.2.2.2.2.2.2.2
def sx_e2 (h : sx_H) : sx_E := h.2.2.2.2.2.2.1
def sx_eb (P : sx_P) (D : sx_D) (w o r a u e : sx_E) (A : List Nat) (h : sx_H) : Bool := (sx_eN h.1 A && (sx_eqp P D h.2.1 w && sx_eqp P D h.2.2.2.1 o)) && ((sx_eqp P D h.2.2.2.2.2.1 r && sx_eqp P D (sx_e2 h) a) && (sx_eqp P D (sx_e0 h) u && sx_eqp P D (sx_e1 h) e))
/-- a part that was read, from f on: its sort, what is open, its first place -/
def sx_ea (P : sx_P) (D : sx_D) (w o u : sx_E) (h : sx_H) : Bool := (sx_eqp P D h.2.1 w && sx_eqp P D h.2.2.2.1 o) && (sx_eqp P D h.2.2.2.2.2.1 (sx_k 1) && sx_eqp P D (sx_e0 h) u)
/-- the last item: token c's -/
def sx_etk (P : sx_P) (D : sx_D) (X : sx_KE) (A : List Nat) (c : Int) (e : sx_E) (h : sx_H) : Bool := sx_eqp P D e (sx_pk (sx_e1 h) 1) && sx_any (fun q : List Nat × List sx_E => sx_eN q.1 A && X.2.2.2.2.2.1 q.2 c) (X.2.2.1 h.1 (sx_e1 h))
def sx_E5 (P : sx_P) (D : sx_D) (X : sx_KE) (A : List Nat) (o f a u e : sx_E) : Bool :=
  ((sx_eqp P D e (sx_pk u 1) && (sx_ge P D u && X.1.2.2.1 f a)) && sx_o (X.2.2.2.2.2.2.2 A u) (fun l => (sx_isT (X.1.1 f (sx_k 2)) && X.2.2.2.1 l f) || (sx_isT (X.1.2.1 f) && X.2.2.2.2.1 l f))) ||
  (sx_ge P D (sx_pk (sx_ng o) 4) && ((sx_isT (X.1.1 f (sx_k 40)) && sx_any (fun h : sx_H => sx_ea P D (sx_k 0) (sx_pk o 1) u h && ((sx_eN h.1 A && sx_eqp P D (sx_e1 h) e) && (X.1.2.2.1 f h.2.2.2.2.1 && (sx_isT (X.1.1 (sx_e2 h) (sx_k 41)) && X.1.2.2.1 (sx_e2 h) a)))) X.2.1) ||
    (sx_isT (X.1.1 f (sx_k 45)) && sx_any (fun h : sx_H => sx_ea P D (sx_k 5) (sx_pk o 1) u h && (X.1.2.2.1 f h.2.2.2.2.1 && (sx_eqp P D (sx_e2 h) a && sx_etk P D X A 3 e h))) X.2.1)))
/-- a loop, from rows R and place u on -/
def sx_El1 (P : sx_P) (D : sx_D) (X : sx_KE) (A : List Nat) (lv : Nat) (j o r a e : sx_E) (c : Int) (h : sx_H) (q : List Nat × List sx_E) : Bool := X.2.2.2.2.2.1 q.2 c && (((Nat.beq lv 2 && sx_eN q.1 A) && (sx_eqp P D a (sx_e2 h) && sx_eqp P D e (sx_pk (sx_e1 h) 1))) ||
  sx_any (fun h' : sx_H => sx_eb P D (sx_k (10 + (lv : Int))) o r a (sx_pk (sx_e1 h) 1) e A h' && ((!(Nat.beq lv 2) || sx_eqp P D h'.2.2.1 (sx_pk j 1)) && (sx_eqp P D h'.2.2.2.2.1 (sx_e2 h) && X.2.2.2.2.2.2.1 q.1 A (sx_pk (sx_e1 h) 1)))) X.2.1)
def sx_El2 (P : sx_P) (D : sx_D) (X : sx_KE) (A R : List Nat) (lv : Nat) (j o f r a u e : sx_E) (c : Int) (h : sx_H) : Bool := (sx_ea P D (sx_k ((lv : Int) + 1)) o u h && (X.1.2.2.1 f h.2.2.2.2.1 && X.2.2.2.2.2.2.1 R h.1 u)) && sx_any (sx_El1 P D X A lv j o r a e c h) (X.2.2.1 h.1 (sx_e1 h))
def sx_El (P : sx_P) (D : sx_D) (X : sx_KE) (A R : List Nat) (lv : Nat) (j o f r a u e : sx_E) : Bool :=
  ((sx_ql (fun c => sx_isF (X.1.1 f (sx_k c))) (sx_jl lv) || (Nat.beq lv 2 && sx_ge P D (sx_pk j (-1)))) && (sx_eN R A && (sx_eqp P D a f && sx_eqp P D e u))) ||
  ((!(Nat.beq lv 2) || sx_eqp P D j (sx_k 0)) && sx_any (fun c => sx_isT (X.1.1 f (sx_k c)) && sx_any (sx_El2 P D X A R lv j o f r a u e c) X.2.1) (sx_jl lv))
/-- a loop's own fact: from where its rows begin nothing is asked -/
def sx_Em2 (P : sx_P) (D : sx_D) (X : sx_KE) (A : List Nat) (lv : Nat) (j o f r a u e : sx_E) (c : Int) (h : sx_H) : Bool := (sx_ea P D (sx_k ((lv : Int) + 1)) o u h && X.1.2.2.1 f h.2.2.2.2.1) && sx_any (sx_El1 P D X A lv j o r a e c h) (X.2.2.1 h.1 (sx_e1 h))
def sx_Em (P : sx_P) (D : sx_D) (X : sx_KE) (A : List Nat) (lv : Nat) (j o f r a u e : sx_E) : Bool :=
  ((sx_ql (fun c => sx_isF (X.1.1 f (sx_k c))) (sx_jl lv) || (Nat.beq lv 2 && sx_ge P D (sx_pk j (-1)))) && (sx_eqp P D a f && (sx_eqp P D e u && sx_ge P D u))) ||
  ((!(Nat.beq lv 2) || sx_eqp P D j (sx_k 0)) && sx_any (fun c => sx_isT (X.1.1 f (sx_k c)) && sx_any (sx_Em2 P D X A lv j o f r a u e c) X.2.1) (sx_jl lv))
def sx_Ev (P : sx_P) (D : sx_D) (X : sx_KE) (A : List Nat) (w o f r a u e : sx_E) : Bool :=
  ((sx_eqp P D w (sx_k 2) && sx_isT (X.1.1 f (sx_k 268))) && (sx_ge P D (sx_pk (sx_ng o) 4) && sx_any (fun h : sx_H => sx_ea P D (sx_k 2) (sx_pk o 1) u h && (X.1.2.2.1 f h.2.2.2.2.1 && (sx_eqp P D (sx_e2 h) a && sx_etk P D X A 268 e h))) X.2.1)) ||
  ((sx_nzb P D (sx_pk w (-2)) || sx_isF (X.1.1 f (sx_k 268))) && sx_any (fun h : sx_H => (sx_ea P D (sx_pk w 1) o u h && sx_eqp P D h.2.2.2.2.1 f) && ((sx_eqp P D w (sx_k 2) && sx_El P D X A h.1 2 (sx_k 0) o (sx_e2 h) r a (sx_e1 h) e) ||
    sx_any (fun h' : sx_H => sx_eb P D (sx_pk w 10) o r a (sx_e1 h) e A h' && ((sx_eqp P D h'.2.2.1 (sx_k 0) && sx_eqp P D h'.2.2.2.2.1 (sx_e2 h)) && X.2.2.2.2.2.2.1 h.1 A (sx_e1 h))) X.2.1)) X.2.1)
def sx_EA (P : sx_P) (D : sx_D) (X : sx_KE) (A : List Nat) (w j o f r a u e : sx_E) : Bool := sx_nzb P D (sx_pk r (-1)) ||
  (sx_any (fun h : sx_H => sx_eb P D w o r a u e A h && (sx_eqp P D h.2.2.1 j && sx_eqp P D h.2.2.2.2.1 f)) X.2.1 || (sx_ge P D f && ((sx_eqp P D w (sx_k 5) && sx_E5 P D X A o f a u e) || (((sx_ge P D w && sx_ge P D (sx_pk (sx_ng w) 4)) && sx_Ev P D X A w o f r a u e) ||
    ((sx_ge P D (sx_pk w (-10)) && sx_ge P D (sx_pk (sx_ng w) 14)) && ((sx_ql (fun c => sx_isF (X.1.1 f (sx_k c))) sx_jal && (sx_eqp P D a f && (sx_eqp P D e u && sx_ge P D u))) || sx_any (fun lv : Nat => sx_eqp P D w (sx_k (10 + (lv : Int))) && sx_Em P D X A lv j o f r a u e) [0, 1, 2, 3, 4]))))))
