/-! TEXTS: which of these facts can be said -/
def sx_ql {α : Type} (f : α → Bool) : List α → Bool
  | [] => true
  | a :: l => f a && sx_ql f l
theorem sx_ql_ok {α : Type} {f : α → Bool} : ∀ {l : List α}, sx_ql f l = true → ∀ a ∈ l, f a = true
  | [], _, a, ha => by cases ha
  | b :: l, h, a, ha => by
    have h : (f b && sx_ql f l) = true := h
    rw [Bool.and_eq_true] at h
    rcases List.mem_cons.mp ha with e | e
    · rw [e]
      exact h.1
    · exact sx_ql_ok h.2 a e
/-- this byte is of a run; it is not -/
def sx_qi (P : sx_P) (D : sx_D) (p : Int) (x : sx_E) : Bool := bif p == 0 then sx_eqp P D x (sx_k 32) || sx_eqp P D x (sx_k 10) else bif p == 1 then sx_ge P D (sx_pk x (-97)) && sx_ge P D (sx_pk (sx_ng x) 122) else sx_ge P D (sx_pk x (-48)) && sx_ge P D (sx_pk (sx_ng x) 57)
def sx_qn (P : sx_P) (D : sx_D) (p : Int) (x : sx_E) : Bool := bif p == 0 then sx_nzb P D (sx_pk x (-32)) && sx_nzb P D (sx_pk x (-10)) else bif p == 1 then sx_ge P D (sx_pk (sx_ng x) 96) || sx_ge P D (sx_pk x (-123)) else sx_ge P D (sx_pk (sx_ng x) 47) || sx_ge P D (sx_pk x (-58))
def sx_sgs : List Int := [40, 41, 59, 43, 45, 42, 60, 61]
def sx_qg (P : sx_P) (D : sx_D) (x : sx_E) : Bool := sx_any (fun c => sx_eqp P D x (sx_k c)) sx_sgs
def sx_qh (P : sx_P) (D : sx_D) (x : sx_E) : Bool := sx_ql (fun c => sx_nzb P D (sx_pk x (-c))) sx_sgs
/-- the end of a run, known -/
def sx_r41a (P : sx_P) (D : sx_D) (C : Nat) (p : Int) (n i e : sx_E) (g : sx_F) : Bool := match g with
  | (1041, [C'], [p', n', i', e']) => (Nat.beq C' C && sx_eq p' (sx_k p)) && (sx_eqp P D n' n && (sx_eqp P D i' i && sx_eqp P D e' e))
  | _ => false
def sx_r41 (P : sx_P) (D : sx_D) (C : Nat) (p : Int) (n i e : sx_E) : Bool := sx_any (sx_r41a P D C p n i e) D.2.2.2.2.1
def sx_q41 (P : sx_P) (D : sx_D) (C : Nat) (p : Int) (n i e : sx_E) (g : sx_F) : Bool := match g with
  | (1041, [C'], [p', n', i', e']) => (Nat.beq C' C && sx_eq p' (sx_k p)) && ((sx_ge P D i && (sx_eqp P D n' n && (sx_eqp P D i' (sx_pk i 1) && sx_eqp P D e' e))) && (sx_ge P D (sx_pk (sx_sb n i) (-1)) && sx_o (sx_sel P D C i) (sx_qi P D p)))
  | _ => false
def sx_h41 (P : sx_P) (D : sx_D) (C : Nat) (p : Int) (n i e : sx_E) : Bool := (sx_eqp P D e i && (sx_ge P D i && (sx_ge P D (sx_sb i n) || sx_o (sx_sel P D C i) (sx_qn P D p)))) || sx_any (sx_q41 P D C p n i e) D.2.2.2.2.1
/-- the reference's token -/
def sx_q45 (P : sx_P) (D : sx_D) (C : Nat) (n f t u x : sx_E) : Bool :=
  (sx_qi P D 1 x && (sx_eqp P D t (sx_k 1) && sx_r41 P D C 1 n f u)) || (sx_qn P D 1 x && ((sx_qi P D 2 x && (sx_r41 P D C 2 n f u && ((sx_eqp P D t (sx_k 2) && sx_ge P D (sx_pk (sx_sb f u) 4)) || (sx_eqp P D t (sx_k (-1)) && sx_ge P D (sx_pk (sx_sb u f) (-5)))))) ||
    (sx_qn P D 2 x && (sx_eqp P D u (sx_pk f 1) && ((sx_eqp P D t x && sx_qg P D x) || (sx_eqp P D t (sx_k (-1)) && sx_qh P D x))))))
def sx_l45 (P : sx_P) (D : sx_D) (C : Nat) (n f t u : sx_E) (g : sx_F) : Bool := match g with
  | (1045, [C'], [n', f', t', u']) => Nat.beq C' C && ((sx_eqp P D n' n && sx_eqp P D f' f) && (sx_eqp P D t' t && sx_eqp P D u' u))
  | _ => false
def sx_h45 (P : sx_P) (D : sx_D) (C : Nat) (n f t u : sx_E) : Bool := (sx_ge P D f && ((sx_ge P D (sx_sb f n) && (sx_eqp P D t (sx_k 0) && sx_eqp P D u f)) || (sx_ge P D (sx_pk (sx_sb n f) (-1)) && sx_o (sx_sel P D C f) (sx_q45 P D C n f t u)))) || sx_any (sx_l45 P D C n f t u) D.2.2.2.2.1
/-- a word stands there; it doesn't -/
def sx_q46m (P : sx_P) (D : sx_D) (C : Nat) (f : sx_E) : List Int → Bool
  | [] => true
  | c :: r => sx_o (sx_sel P D C (sx_pk f (r.length : Int))) (fun x => sx_eqp P D x (sx_k c)) && sx_q46m P D C f r
def sx_q46n (P : sx_P) (D : sx_D) (C : Nat) (f : sx_E) : List Int → Bool
  | [] => false
  | c :: r => sx_o (sx_sel P D C (sx_pk f (r.length : Int))) (fun x => sx_nzb P D (sx_pk x (-c))) || sx_q46n P D C f r
def sx_h46 (P : sx_P) (D : sx_D) (C : Nat) (w : Nat) (f u r : sx_E) : Bool := (sx_ge P D f && sx_ge P D u) && ((sx_eqp P D r (sx_k 1) && (sx_eqp P D u (sx_pk f ((tr_wn w).length : Int)) && sx_q46m P D C f (tr_wn w))) || (sx_eqp P D r (sx_k 0) && (sx_nzb P D (sx_pk (sx_sb u f) (-((tr_wn w).length : Int))) || sx_q46n P D C f (tr_wn w))))
def sx_f46a (P : sx_P) (D : sx_D) (C : Nat) (w : Nat) (f u : sx_E) (r : Int) (g : sx_F) : Bool := match g with
  | (1046, [C'], [w', f', u', r']) => (Nat.beq C' C && sx_eq w' (sx_k (w : Int))) && (sx_eqp P D f' f && (sx_eqp P D u' u && sx_eqp P D r' (sx_k r)))
  | _ => false
def sx_f46 (P : sx_P) (D : sx_D) (C : Nat) (w : Nat) (f u : sx_E) (r : Int) : Bool := sx_any (sx_f46a P D C w f u r) D.2.2.2.2.1
def sx_q49 (P : sx_P) (D : sx_D) (C : Nat) (f u t : sx_E) : Nat → Nat → Bool
  | 0, _ => sx_eqp P D t (sx_k 1)
  | m + 1, w => (sx_eqp P D t (sx_k (256 + (w : Int))) && sx_f46 P D C w f u 1) || (sx_f46 P D C w f u 0 && sx_q49 P D C f u t m (w + 1))
def sx_l49 (P : sx_P) (D : sx_D) (C : Nat) (f u t : sx_E) (g : sx_F) : Bool := match g with
  | (1049, [C'], [f', u', t']) => Nat.beq C' C && (sx_eqp P D f' f && (sx_eqp P D u' u && sx_eqp P D t' t))
  | _ => false
/-- the class's token -/
def sx_q47 (P : sx_P) (D : sx_D) (C : Nat) (n f t u x : sx_E) : Bool :=
  (sx_qi P D 2 x && (sx_r41 P D C 2 n f u && ((sx_eqp P D t (sx_k 2) && sx_ge P D (sx_pk (sx_sb f u) 4)) || (sx_eqp P D t (sx_k 1) && sx_ge P D (sx_pk (sx_sb u f) (-5)))))) || (sx_qn P D 2 x && ((sx_qi P D 1 x && (sx_r41 P D C 1 n f u && sx_any (sx_l49 P D C f u t) D.2.2.2.2.1)) ||
    (sx_qn P D 1 x && (sx_eqp P D u (sx_pk f 1) && ((sx_eqp P D t x && sx_qg P D x) || (sx_eqp P D t (sx_k 1) && sx_qh P D x))))))
def sx_h47 (P : sx_P) (D : sx_D) (C : Nat) (n f t u : sx_E) : Bool := sx_ge P D f && ((sx_ge P D (sx_sb f n) && (sx_eqp P D t (sx_k 0) && sx_eqp P D u (sx_pk f 1))) || (sx_ge P D (sx_pk (sx_sb n f) (-1)) && sx_o (sx_sel P D C f) (sx_q47 P D C n f t u)))
/-- one token more -/
def sx_h48 (P : sx_P) (D : sx_D) (C T L : Nat) (n m q : sx_E) (g : sx_F) : Bool := match g with
  | (1048, [C', T', L'], [n', m', q']) => Nat.beq C' C && sx_o (sx_up D T' T) (fun x => sx_o (sx_up D L' L) (fun y => (sx_eqp P D x.1 m' && sx_eqp P D y.1 m') && ((sx_eqp P D n' n && sx_eqp P D m (sx_pk m' 1)) && (sx_r41 P D C 0 n q' y.2 && sx_h47 P D C n y.2 x.2 q))))
  | _ => false
def sx_l48 (P : sx_P) (D : sx_D) (C T L : Nat) (n m : sx_E) (g : sx_F) : Bool := match g with
  | (1048, [C', T', L'], [n', m', _]) => (Nat.beq C' C && (Nat.beq T' T && Nat.beq L' L)) && (sx_eqp P D n' n && sx_eqp P D m' m)
  | _ => false
/-! whether a token is this one: of the class's row; of the tape -/
def sx_isT (o : Option Bool) : Bool := match o with
  | some true => true
  | _ => false
def sx_isF (o : Option Bool) : Bool := match o with
  | some false => true
  | _ => false
theorem sx_isT_ok {o : Option Bool} (h : sx_isT o = true) : o = some true := by
  unfold sx_isT at h
  split at h
  · rfl
  · cases h
theorem sx_isF_ok {o : Option Bool} (h : sx_isF o = true) : o = some false := by
  unfold sx_isF at h
  split at h
  · rfl
  · cases h
def sx_kC (P : sx_P) (D : sx_D) (T : Nat) (f e : sx_E) : Option Bool := match sx_sel P D T f with
  | some x => bif sx_eqp P D x e then some true else bif sx_nzb P D (sx_sb x e) then some false else none
  | none => none
def sx_nC (P : sx_P) (D : sx_D) (T : Nat) (f : sx_E) : Option Bool := match sx_sel P D T f with
  | some x => bif sx_ge P D (sx_pk x (-256)) && sx_ge P D (sx_pk (sx_ng x) 261) then some true else bif sx_ge P D (sx_pk (sx_ng x) 255) || sx_ge P D (sx_pk x (-262)) then some false else none
  | none => none
def sx_xC (P : sx_P) (D : sx_D) (f f1 : sx_E) : Bool := sx_eqp P D f1 (sx_pk f 1)
def sx_kR2 (P : sx_P) (D : sx_D) (C : Nat) (c : Int) (t f u : sx_E) (g : sx_F) : Option Bool := match g with
  | (1005, [C'], [wd, r, t', f', u']) => bif (Nat.beq C' C && sx_eqp P D wd (sx_k (tr_isw (c - 256).toNat))) && (sx_eqp P D t' t && (sx_eqp P D f' f && sx_eqp P D u' u)) then (bif sx_eqp P D r (sx_k 1) then some true else bif sx_eqp P D r (sx_k 0) then some false else none) else none
  | _ => none
def sx_kR1 (P : sx_P) (D : sx_D) (C : Nat) (n f : sx_E) (c : Int) (g : sx_F) : Option Bool := match g with
  | (1045, [C'], [n', f', t, u]) => bif Nat.beq C' C && (sx_eqp P D n' n && sx_eqp P D f' f) then
      (bif sx_le 256 c && sx_le c 268 then (bif sx_nzb P D (sx_pk t (-1)) then some false else sx_first (sx_kR2 P D C c t f u) D.2.2.2.2.1)
      else bif (c == 0) || (sx_le 2 c && sx_le c 255) then (bif sx_eqp P D t (sx_k c) then some true else bif sx_nzb P D (sx_pk t (-c)) then some false else none) else none) else none
  | _ => none
def sx_kR (P : sx_P) (D : sx_D) (C : Nat) (n f e : sx_E) : Option Bool := bif sx_isk (sx_nr P.1 D.2.2.1 e) then sx_first (sx_kR1 P D C n f (sx_nr P.1 D.2.2.1 e).1) D.2.2.2.2.1 else none
def sx_nms : List Int := [256, 257, 258, 259, 260, 261]
def sx_nR (P : sx_P) (D : sx_D) (C : Nat) (n f : sx_E) : Option Bool := bif sx_any (fun c => sx_isT (sx_kR P D C n f (sx_k c))) sx_nms then some true else bif sx_ql (fun c => sx_isF (sx_kR P D C n f (sx_k c))) sx_nms then some false else none
def sx_xR1 (P : sx_P) (D : sx_D) (C : Nat) (n f f1 : sx_E) (g : sx_F) : Bool := match g with
  | (1045, [C'], [n', f', _, u]) => (Nat.beq C' C && (sx_eqp P D n' n && sx_eqp P D f' f)) && (sx_ge P D (sx_pk (sx_sb n f) (-1)) && sx_r41 P D C 0 n u f1)
  | _ => false
def sx_xR (P : sx_P) (D : sx_D) (C : Nat) (n f f1 : sx_E) : Bool := sx_any (sx_xR1 P D C n f f1) D.2.2.2.2.1
/-! reading -/
abbrev sx_G : Type := sx_E × sx_E × sx_E × sx_E × sx_E × sx_E
abbrev sx_KD : Type := (sx_E → sx_E → Option Bool) × (sx_E → Option Bool) × (sx_E → sx_E → Bool) × List sx_G
def tr_fm {α β : Type} (f : α → Option β) : List α → List β
  | [] => []
  | a :: l => match f a with
    | some b => b :: tr_fm f l
    | none => tr_fm f l
theorem tr_fm_ok {α β : Type} {f : α → Option β} {b : β} : ∀ {l : List α}, b ∈ tr_fm f l → ∃ a ∈ l, f a = some b
  | [], h => by cases h
  | a :: l, h => by
    unfold tr_fm at h
    split at h
    · next b' hb =>
      rcases List.mem_cons.mp h with e | e
      · exact ⟨a, List.mem_cons_self, by rw [e]; exact hb⟩
      · obtain ⟨x, h1, h2⟩ := tr_fm_ok e
        exact ⟨x, List.mem_cons_of_mem _ h1, h2⟩
    · obtain ⟨x, h1, h2⟩ := tr_fm_ok h
      exact ⟨x, List.mem_cons_of_mem _ h1, h2⟩
def sx_gC (T : Nat) (g : sx_F) : Option sx_G := match g with
  | (1060, [T'], [w, j, o, f, r, a]) => bif Nat.beq T' T then some (w, j, o, f, r, a) else none
  | _ => none
def sx_gR (P : sx_P) (D : sx_D) (C : Nat) (n : sx_E) (g : sx_F) : Option sx_G := match g with
  | (1061, [C'], [n', w, j, o, f, r, a]) => bif Nat.beq C' C && sx_eqp P D n' n then some (w, j, o, f, r, a) else none
  | _ => none
def sx_KC (P : sx_P) (D : sx_D) (T : Nat) : sx_KD := (sx_kC P D T, sx_nC P D T, sx_xC P D, tr_fm (sx_gC T) D.2.2.2.2.1)
def sx_KR (P : sx_P) (D : sx_D) (C : Nat) (n : sx_E) : sx_KD := (sx_kR P D C n, sx_nR P D C n, sx_xR P D C n, tr_fm (sx_gR P D C n) D.2.2.2.2.1)
/-- the answer is no, and stays -/
def sx_p0 (P : sx_P) (D : sx_D) (r a f : sx_E) : Bool := sx_eqp P D r (sx_k 0) && sx_eqp P D a f
def sx_p1 (P : sx_P) (D : sx_D) (r a f : sx_E) : Bool := sx_eqp P D r (sx_k 1) && sx_eqp P D a f
/-- a part that gives this answer -/
def sx_pR (P : sx_P) (D : sx_D) (g : sx_G) (r a : sx_E) : Bool := sx_eqp P D g.2.2.2.2.1 r && sx_eqp P D g.2.2.2.2.2 a
def sx_plk (P : sx_P) (D : sx_D) (w j o f r a : sx_E) (g : sx_G) : Bool := (sx_eqp P D g.1 w && (sx_eqp P D g.2.1 j && sx_eqp P D g.2.2.1 o)) && (sx_eqp P D g.2.2.2.1 f && sx_pR P D g r a)
def sx_p5a (P : sx_P) (D : sx_D) (X : sx_KD) (o f r a : sx_E) (g : sx_G) : Bool := (sx_eqp P D g.1 (sx_k 0) && (sx_eqp P D g.2.2.1 (sx_pk o 1) && X.2.2.1 f g.2.2.2.1)) && ((sx_eqp P D g.2.2.2.2.1 (sx_k 0) && sx_p0 P D r a g.2.2.2.2.2) || (sx_eqp P D g.2.2.2.2.1 (sx_k 1) && ((sx_isT (X.1 g.2.2.2.2.2 (sx_k 41)) && (sx_eqp P D r (sx_k 1) && X.2.2.1 g.2.2.2.2.2 a)) || (sx_isF (X.1 g.2.2.2.2.2 (sx_k 41)) && sx_p0 P D r a g.2.2.2.2.2))))
def sx_p5b (P : sx_P) (D : sx_D) (X : sx_KD) (w o f r a : sx_E) (g : sx_G) : Bool := (sx_eqp P D g.1 w && (sx_eqp P D g.2.2.1 (sx_pk o 1) && X.2.2.1 f g.2.2.2.1)) && sx_pR P D g r a
def sx_p5 (P : sx_P) (D : sx_D) (X : sx_KD) (o f r a : sx_E) : Bool :=
  ((sx_isT (X.1 f (sx_k 2)) || sx_isT (X.2.1 f)) && (sx_eqp P D r (sx_k 1) && X.2.2.1 f a)) || (((sx_isF (X.1 f (sx_k 2)) && sx_isF (X.2.1 f)) && ((sx_ge P D (sx_pk o (-5)) || (sx_isF (X.1 f (sx_k 40)) && sx_isF (X.1 f (sx_k 45)))) && sx_p0 P D r a f)) ||
  (sx_ge P D (sx_pk (sx_ng o) 4) && ((sx_isT (X.1 f (sx_k 40)) && sx_any (sx_p5a P D X o f r a) X.2.2.2) || (sx_isT (X.1 f (sx_k 45)) && sx_any (sx_p5b P D X (sx_k 5) o f r a) X.2.2.2))))
def sx_jl (lv : Nat) : List Int := match lv with
  | 0 => [266]
  | 1 => [267]
  | 2 => [60, 61]
  | 3 => [43, 45]
  | _ => [42]
def sx_pLb (P : sx_P) (D : sx_D) (lv : Nat) (j o r a : sx_E) (g h : sx_G) : Bool := (sx_eqp P D h.1 (sx_k (10 + (lv : Int))) && ((!(Nat.beq lv 2) || sx_eqp P D h.2.1 (sx_pk j 1)) && sx_eqp P D h.2.2.1 o)) && (sx_eqp P D h.2.2.2.1 g.2.2.2.2.2 && sx_pR P D h r a)
def sx_pLa (P : sx_P) (D : sx_D) (X : sx_KD) (lv : Nat) (j o f r a : sx_E) (g : sx_G) : Bool := (sx_eqp P D g.1 (sx_k ((lv : Int) + 1)) && (sx_eqp P D g.2.2.1 o && X.2.2.1 f g.2.2.2.1)) && ((sx_eqp P D g.2.2.2.2.1 (sx_k 0) && sx_p0 P D r a g.2.2.2.2.2) || (sx_eqp P D g.2.2.2.2.1 (sx_k 1) && ((Nat.beq lv 2 && sx_p1 P D r a g.2.2.2.2.2) || sx_any (sx_pLb P D lv j o r a g) X.2.2.2)))
/-- what may be joined to level lv -/
def sx_pL (P : sx_P) (D : sx_D) (X : sx_KD) (lv : Nat) (j o f r a : sx_E) : Bool :=
  ((sx_ql (fun c => sx_isF (X.1 f (sx_k c))) (sx_jl lv) || (Nat.beq lv 2 && sx_ge P D (sx_pk j (-1)))) && sx_p1 P D r a f) || ((sx_any (fun c => sx_isT (X.1 f (sx_k c))) (sx_jl lv) && (!(Nat.beq lv 2) || sx_eqp P D j (sx_k 0))) && sx_any (sx_pLa P D X lv j o f r a) X.2.2.2)
def sx_pVb (P : sx_P) (D : sx_D) (w o r a : sx_E) (g h : sx_G) : Bool := (sx_eqp P D h.1 (sx_pk w 10) && (sx_eqp P D h.2.1 (sx_k 0) && sx_eqp P D h.2.2.1 o)) && (sx_eqp P D h.2.2.2.1 g.2.2.2.2.2 && sx_pR P D h r a)
def sx_pVa (P : sx_P) (D : sx_D) (X : sx_KD) (w o f r a : sx_E) (g : sx_G) : Bool := (sx_eqp P D g.1 (sx_pk w 1) && (sx_eqp P D g.2.2.1 o && sx_eqp P D g.2.2.2.1 f)) && ((sx_eqp P D g.2.2.2.2.1 (sx_k 0) && sx_p0 P D r a g.2.2.2.2.2) || (sx_eqp P D g.2.2.2.2.1 (sx_k 1) && ((sx_eqp P D w (sx_k 2) && sx_pL P D X 2 (sx_k 0) o g.2.2.2.2.2 r a) || sx_any (sx_pVb P D w o r a g) X.2.2.2)))
/-- a level -/
def sx_pV (P : sx_P) (D : sx_D) (X : sx_KD) (w o f r a : sx_E) : Bool :=
  ((sx_eqp P D w (sx_k 2) && sx_isT (X.1 f (sx_k 268))) && ((sx_ge P D (sx_pk o (-5)) && sx_p0 P D r a f) || (sx_ge P D (sx_pk (sx_ng o) 4) && sx_any (sx_p5b P D X (sx_k 2) o f r a) X.2.2.2))) || ((sx_nzb P D (sx_pk w (-2)) || sx_isF (X.1 f (sx_k 268))) && sx_any (sx_pVa P D X w o f r a) X.2.2.2)
def sx_pTb (P : sx_P) (D : sx_D) (X : sx_KD) (j r a : sx_E) (g h : sx_G) : Bool := (sx_eqp P D h.1 (sx_k 7) && (sx_eqp P D h.2.1 (sx_pk j 1) && sx_eqp P D h.2.2.1 (sx_k 0))) && (X.2.2.1 g.2.2.2.2.2 h.2.2.2.1 && sx_pR P D h r a)
def sx_pTa (P : sx_P) (D : sx_D) (X : sx_KD) (j f r a : sx_E) (g : sx_G) : Bool := (sx_eqp P D g.1 (sx_k 0) && (sx_eqp P D g.2.2.1 (sx_k 0) && X.2.2.1 f g.2.2.2.1)) && ((sx_eqp P D g.2.2.2.2.1 (sx_k 0) && sx_p0 P D r a g.2.2.2.2.2) || (sx_eqp P D g.2.2.2.2.1 (sx_k 1) && ((sx_isF (X.1 g.2.2.2.2.2 (sx_k 59)) && sx_p0 P D r a g.2.2.2.2.2) || (sx_isT (X.1 g.2.2.2.2.2 (sx_k 59)) && sx_any (sx_pTb P D X j r a g) X.2.2.2))))
/-- a text from part j on -/
def sx_pT (P : sx_P) (D : sx_D) (X : sx_KD) (j f r a : sx_E) : Bool :=
  (sx_eqp P D j (sx_k 4) && ((sx_isT (X.1 f (sx_k 0)) && sx_p1 P D r a f) || (sx_isF (X.1 f (sx_k 0)) && sx_p0 P D r a f))) || ((sx_ge P D j && sx_ge P D (sx_pk (sx_ng j) 3)) && ((sx_isF (X.1 f (sx_pk j 262)) && sx_p0 P D r a f) || (sx_isT (X.1 f (sx_pk j 262)) && sx_any (sx_pTa P D X j f r a) X.2.2.2)))
def sx_jal : List Int := [266, 267, 60, 61, 43, 45, 42]
def sx_pA (P : sx_P) (D : sx_D) (X : sx_KD) (w j o f r a : sx_E) : Bool := sx_any (sx_plk P D w j o f r a) X.2.2.2 || (sx_ge P D f && ((sx_eqp P D w (sx_k 5) && sx_p5 P D X o f r a) || (((sx_ge P D w && sx_ge P D (sx_pk (sx_ng w) 4)) && sx_pV P D X w o f r a) || ((sx_eqp P D w (sx_k 7) && sx_pT P D X j f r a) ||
  ((sx_ge P D (sx_pk w (-10)) && sx_ge P D (sx_pk (sx_ng w) 14)) && ((sx_ql (fun c => sx_isF (X.1 f (sx_k c))) sx_jal && sx_p1 P D r a f) || sx_any (fun lv : Nat => sx_eqp P D w (sx_k (10 + (lv : Int))) && sx_pL P D X lv j o f r a) [0, 1, 2, 3, 4]))))))
/-! the fault of a tape -/
def sx_q70R (P : sx_P) (D : sx_D) (C : Nat) (n x : sx_E) (g : sx_F) : Bool := match g with
  | (1061, [C'], [n', w, j, o, f, r, a]) => (Nat.beq C' C && (sx_eqp P D n' n && (sx_eqp P D w (sx_k 7) && (sx_eqp P D j (sx_k 0) && sx_eqp P D o (sx_k 0))))) && (sx_r41 P D C 0 n (sx_k 0) f && ((sx_eqp P D r (sx_k 0) && sx_eqp P D x a) || (sx_eqp P D r (sx_k 1) && sx_eqp P D x (sx_k (-1)))))
  | _ => false
def sx_q70T (P : sx_P) (D : sx_D) (T L : Nat) (m x : sx_E) (h : sx_F) : Bool := match h with
  | (1060, [T'], [w, j, o, f, r, a]) => (Nat.beq T' T && (sx_eqp P D w (sx_k 7) && (sx_eqp P D j (sx_k 0) && (sx_eqp P D o (sx_k 0) && sx_eqp P D f (sx_k 0))))) && ((sx_eqp P D r (sx_k 0) && sx_o (sx_sel P D L a) (fun y => sx_eqp P D x y)) || (sx_eqp P D r (sx_k 1) && sx_eqp P D x (sx_k (-1))))
  | _ => false
def sx_q70C (P : sx_P) (D : sx_D) (C : Nat) (n x : sx_E) (g : sx_F) : Bool := match g with
  | (1050, [C', T, L], [n', m]) => (Nat.beq C' C && (sx_eqp P D n' n && sx_ge P D (sx_pk m (-1)))) && (sx_o (sx_sel P D T (sx_pk m (-1))) (fun q => sx_ge P D q && sx_ge P D (sx_pk (sx_ng q) 1)) && sx_any (sx_q70T P D T L m x) D.2.2.2.2.1)
  | _ => false
/-! bytes that are alike -/
def sx_q40b (P : sx_P) (D : sx_D) (t y : sx_E) (h : sx_F) : Bool := match h with
  | (130, [], [t', z, v]) => sx_eq t' t && (sx_eq z (sx_k 0) && sx_eqp P D v y)
  | _ => false
def sx_q40a (P : sx_P) (D : sx_D) (x y : sx_E) (g : sx_F) : Bool := match g with
  | (112, [], [t, c, v]) => (sx_eq c (sx_k 255) && sx_eqp P D v x) && ((sx_ge P D (sx_pk t 2147483648) && sx_ge P D (sx_pk (sx_ng t) 2147483647)) && sx_any (sx_q40b P D t y) D.2.2.2.2.1)
  | _ => false
def sx_l40 (a b : Nat) (g : sx_F) : Bool := match g with
  | (1040, [a', b'], []) => Nat.beq a' a && Nat.beq b' b
  | _ => false
def sx_q40 (P : sx_P) (D : sx_D) : Nat → Nat → Nat → Bool
  | 0, a, b => sx_any (sx_l40 a b) D.2.2.2.2.1
  | n + 1, a, b => sx_any (sx_l40 a b) D.2.2.2.2.1 || (match sx_fru D a, sx_fru D b with
    | some x, some y => sx_eqp P D x.2.1 y.2.1 && (sx_any (sx_q40a P D x.2.2 y.2.2) D.2.2.2.2.1 && sx_q40 P D n x.1 y.1)
    | _, _ => false)
/-! the text of a day -/
def sx_h17 (P : sx_P) (D : sx_D) (F : Nat) (n d b : sx_E) (g : sx_F) : Bool := match g with
  | (1017, [F'], [n', d', b']) => (Nat.beq F' F && (sx_eqp P D n (sx_pk n' 1) && sx_eqp P D d' d)) && sx_o (sx_sel P D F n') (fun w =>
    (sx_eqp P D b n' && (sx_ge P D (sx_sb d w) && (sx_ge P D (sx_pk (sx_ng b') (-1)) || (sx_ge P D b' && sx_o (sx_sel P D F b') (fun u => sx_ge P D (sx_sb w u)))))) ||
    (sx_eqp P D b b' && (sx_ge P D (sx_pk (sx_sb w d) (-1)) || (sx_ge P D b' && sx_o (sx_sel P D F b') (fun u => sx_ge P D (sx_pk (sx_sb u w) (-1)))))))
  | _ => false
def sx_h16 (P : sx_P) (D : sx_D) (C F : Nat) (n d f l : sx_E) (g : sx_F) : Bool := match g with
  | (1016, [C', F'], [n', d', f', l']) => (Nat.beq C' C && (Nat.beq F' F && (sx_eqp P D n (sx_pk n' 1) && sx_eqp P D d' d))) && sx_o (sx_sel P D F n') (fun w =>
    (sx_o (sx_sel P D C n') (fun c => sx_eqp P D f c) && (sx_eqp P D l w && (sx_ge P D (sx_sb d w) && sx_ge P D (sx_sb w l')))) ||
    ((sx_eqp P D f f' && sx_eqp P D l l') && (sx_ge P D (sx_pk (sx_sb w d) (-1)) || (sx_ge P D (sx_pk (sx_sb l' w) (-1)) && sx_ge P D (sx_pk w 1)))))
  | _ => false
def sx_h18 (P : sx_P) (D : sx_D) (C F : Nat) (n d f : sx_E) (g : sx_F) : Bool := match g with
  | (1016, [C', F'], [n', d', f', _]) => (Nat.beq C' C && Nat.beq F' F) && (sx_eqp P D n' n && (sx_eqp P D d' d && sx_eqp P D f f'))
  | (1017, [F'], [n', d', b']) => (Nat.beq F' F && (sx_eqp P D n' n && sx_eqp P D d' d)) && ((sx_ge P D (sx_pk (sx_ng b') (-1)) && sx_eqp P D f (sx_k 0)) || (sx_ge P D b' && sx_o (sx_sel P D C b') (fun v => sx_eqp P D f v)))
  | _ => false
def sx_hR (P : sx_P) (D : sx_D) (f : sx_F) : Bool := match f with
  | (1016, [C, F], [n, d, f, l]) => (sx_eqp P D n (sx_k 0) && (sx_eqp P D f (sx_k 0) && sx_eqp P D l (sx_k (-1)))) || sx_any (sx_h16 P D C F n d f l) D.2.2.2.2.1
  | (1017, [F], [n, d, b]) => (sx_eqp P D n (sx_k 0) && sx_eqp P D b (sx_k (-1))) || sx_any (sx_h17 P D F n d b) D.2.2.2.2.1
  | (1018, [C, F], [n, d, f]) => sx_any (sx_h18 P D C F n d f) D.2.2.2.2.1
  | (1040, [a, b], []) => sx_q40 P D 8 a b
  | (1041, [C], [(p, []), n, i, e]) => sx_h41 P D C p n i e
  | (1045, [C], [n, f, t, u]) => sx_h45 P D C n f t u
  | (1046, [C], [(w, []), f, u, r]) => sx_h46 P D C w.toNat f u r
  | (1047, [C], [n, f, t, u]) => sx_h47 P D C n f t u
  | (1048, [C, T, L], [n, m, q]) => (sx_eqp P D m (sx_k 0) && sx_eqp P D q (sx_k 0)) || sx_any (sx_h48 P D C T L n m q) D.2.2.2.2.1
  | (1049, [C], [f, u, t]) => (sx_ge P D f && sx_ge P D u) && sx_q49 P D C f u t 13 0
  | (1050, [C, T, L], [n, m]) => sx_any (sx_l48 P D C T L n m) D.2.2.2.2.1
  | (1060, [T], [w, j, o, f, r, a]) => sx_pA P D (sx_KC P D T) w j o f r a
  | (1061, [C], [n, w, j, o, f, r, a]) => sx_pA P D (sx_KR P D C n) w j o f r a
  | (1070, [C], [n, x]) => sx_any (sx_q70R P D C n x) D.2.2.2.2.1 || sx_any (sx_q70C P D C n x) D.2.2.2.2.1
  | _ => false
