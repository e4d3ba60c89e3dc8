/-! WHICH OF THESE CAN BE SAID -/
def sx_o {α : Type} (o : Option α) (f : α → Bool) : Bool := match o with
  | some a => f a
  | none => false
def sx_h7 (a b : Nat) (g : sx_F) : Bool := match g with
  | (1007, [a', b'], []) => (Nat.beq a' a && Nat.beq b' b) || (Nat.beq a' b && Nat.beq b' a)
  | _ => false
def sx_h7u (P : sx_P) (D : sx_D) (a b : Nat) : Bool := match sx_fru D a, sx_fru D b with
  | some x, some y => Nat.beq x.1 y.1 && (sx_eqp P D x.2.1 y.2.1 && sx_eqp P D x.2.2 y.2.2)
  | _, _ => false
def sx_nzd (P : sx_P) (D : sx_D) (a b : sx_E) : Bool := sx_nzb P D (sx_sb a b)
def sx_h10 (P : sx_P) (D : sx_D) (R F : Nat) (n p d b : sx_E) (g : sx_F) : Bool := match g with
  | (1010, [R', F'], [n', p', d', b']) => (Nat.beq R' R && (Nat.beq F' F && (sx_eqp P D n (sx_pk n' 1) && (sx_eqp P D p' p && sx_eqp P D d' d)))) &&
    ((sx_eqp P D b n' && (sx_o (sx_sel P D R n') (fun v => sx_eqp P D v p) && sx_o (sx_sel P D F n') (fun w => sx_ge P D (sx_sb d w) && (sx_ge P D (sx_pk (sx_ng b') (-1)) || (sx_ge P D b' && sx_o (sx_sel P D F b') (fun u => sx_ge P D (sx_sb w u))))))) ||
     (sx_eqp P D b b' && (sx_o (sx_sel P D R n') (fun v => sx_nzd P D v p) || sx_o (sx_sel P D F n') (fun w => sx_ge P D (sx_pk (sx_sb w d) (-1)) || (sx_ge P D b' && sx_o (sx_sel P D F b') (fun u => sx_ge P D (sx_pk (sx_sb u w) (-1))))))))
  | _ => false
def sx_h11 (P : sx_P) (D : sx_D) (R C F : Nat) (n p d f l : sx_E) (g : sx_F) : Bool := match g with
  | (1011, [R', C', F'], [n', p', d', f', l']) => (Nat.beq R' R && (Nat.beq C' C && (Nat.beq F' F && (sx_eqp P D n (sx_pk n' 1) && (sx_eqp P D p' p && sx_eqp P D d' d))))) &&
    ((sx_o (sx_sel P D R n') (fun v => sx_eqp P D v p) && (sx_o (sx_sel P D C n') (fun c => sx_eqp P D f c) && sx_o (sx_sel P D F n') (fun w => sx_eqp P D l w && (sx_ge P D (sx_sb d w) && sx_ge P D (sx_sb w l'))))) ||
     ((sx_eqp P D f f' && sx_eqp P D l l') && (sx_o (sx_sel P D R n') (fun v => sx_nzd P D v p) || sx_o (sx_sel P D F n') (fun w => sx_ge P D (sx_pk (sx_sb w d) (-1)) || (sx_ge P D (sx_pk (sx_sb l' w) (-1)) && sx_ge P D (sx_pk w 1))))))
  | _ => false
def sx_h12 (P : sx_P) (D : sx_D) (R C F : Nat) (n p d f : sx_E) (g : sx_F) : Bool := match g with
  | (1011, [R', C', F'], [n', p', d', f', _]) => Nat.beq R' R && (Nat.beq C' C && (Nat.beq F' F && (sx_eqp P D n' n && (sx_eqp P D p' p && (sx_eqp P D d' d && sx_eqp P D f f')))))
  | (1010, [R', F'], [n', p', d', b']) => (Nat.beq R' R && (Nat.beq F' F && (sx_eqp P D n' n && (sx_eqp P D p' p && sx_eqp P D d' d)))) && ((sx_ge P D (sx_pk (sx_ng b') (-1)) && sx_eqp P D f (sx_k (-1))) || (sx_ge P D b' && sx_o (sx_sel P D C b') (fun v => sx_eqp P D f v)))
  | _ => false
def sx_h140 (P : sx_P) (D : sx_D) (A B : Nat) (n x y : sx_E) (g : sx_F) : Bool := match g with
  | (1014, [A', B'], [n', x', y', r']) => (Nat.beq A' A && (Nat.beq B' B && (sx_eqp P D x' x && (sx_eqp P D y' y && sx_eqp P D r' (sx_k 0))))) && (sx_eqp P D n n' || (sx_eqp P D n (sx_pk n' 1) && (sx_o (sx_sel P D A n') (fun v => sx_nzd P D v x) || sx_o (sx_sel P D B n') (fun v => sx_nzd P D v y))))
  | _ => false
def sx_h141 (P : sx_P) (D : sx_D) (A B : Nat) (n x y : sx_E) (g : sx_F) : Bool := match g with
  | (2, [A'], [i, v]) => Nat.beq A' A && ((sx_ge P D i && sx_ge P D (sx_pk (sx_sb n i) (-1))) && (sx_eqp P D v x && sx_o (sx_sel P D B i) (fun w => sx_eqp P D w y)))
  | _ => false
def sx_h150 (P : sx_P) (D : sx_D) (A B : Nat) (n c : sx_E) (g : sx_F) : Bool := match g with
  | (1003, [A', B'], [n', c']) => Nat.beq A' A && (Nat.beq B' B && (sx_eqp P D n' n && sx_eqp P D c' c))
  | _ => false
def sx_h151 (P : sx_P) (D : sx_D) (A B : Nat) (n c : sx_E) (g : sx_F) : Bool := match g with
  | (2, [A'], [i, v]) => (Nat.beq A' A || Nat.beq A' B) && ((sx_ge P D i && sx_ge P D (sx_pk (sx_sb n i) (-1))) && sx_eqp P D v c)
  | _ => false
/-- the row a is a0 with one put: where, what -/
def sx_up (D : sx_D) (a0 a : Nat) : Option (sx_E × sx_E) := match sx_fru D a with
  | some x => bif Nat.beq x.1 a0 then some x.2 else none
  | none => none
def sx_z1 (P : sx_P) (D : sx_D) (a0 a : Nat) (i : sx_E) : Bool := Nat.beq a a0 || sx_o (sx_up D a0 a) (fun z => sx_eqp P D z.1 i)
def sx_h20 (P : sx_P) (D : sx_D) (S Z M Y : Nat) (g : sx_F) : Bool := match g with
  | (1020, [S0, Z0, M0, Y0], []) => sx_o (sx_up D S0 S) (fun x => sx_o (sx_up D M0 M) (fun y => (sx_eqp P D x.1 y.1 && sx_eqp P D x.2 (sx_pk y.2 1)) &&
    ((sx_ge P D (sx_pk (sx_ng y.2) (-1)) && (sx_z1 P D Z0 Z y.1 && sx_z1 P D Y0 Y y.1)) || sx_o (sx_up D Z0 Z) (fun z => sx_o (sx_up D Y0 Y) (fun u => sx_eqp P D z.1 y.1 && (sx_eqp P D u.1 y.1 && sx_eqp P D z.2 u.2))))))
  | _ => false
/-! cells of sheets -/
def sx_i4 (P : sx_P) (D : sx_D) (s : sx_E) : Bool := sx_ge P D s && sx_ge P D (sx_pk (sx_ng s) 3)
def sx_zr1 (P : sx_P) (D : sx_D) (A B : Nat) (s : sx_E) (g : sx_F) : Bool := match g with
  | (1022, [A', B'], [lo, hi]) => (Nat.beq A' A && Nat.beq B' B) && (sx_eqp P D lo (sx_sc 40 s) && sx_eqp P D hi (sx_pk (sx_sc 40 s) 40))
  | _ => false
def sx_zr (P : sx_P) (D : sx_D) (A B : Nat) (s : sx_E) : Bool := sx_any (sx_zr1 P D A B s) D.2.2.2.2.1
def sx_src (P : sx_P) (D : sx_D) (M : Nat) (sp n : sx_E) (g : sx_F) : Bool := match g with
  | (2, [M'], [s, y]) => Nat.beq M' M && (sx_ge P D y && (sx_i4 P D s && (sx_ge P D (sx_sb sp (sx_sc 40 s)) && sx_ge P D (sx_sb (sx_pk (sx_sc 40 s) 40) (sx_ad sp n)))))
  | _ => false
def sx_cb (P : sx_P) (D : sx_D) (N0 N : Nat) (sp dp n : sx_E) (g : sx_F) : Bool := match g with
  | (1023, [a, c, b], [sp', dp', n']) => (Nat.beq a N0 && (Nat.beq c N0 && Nat.beq b N)) && (sx_eqp P D sp' sp && (sx_eqp P D dp' dp && sx_eqp P D n' n))
  | _ => false
def sx_ca (P : sx_P) (D : sx_D) (C0 C N0 N M : Nat) (g : sx_F) : Bool := match g with
  | (7, [a, c, b], [sp, dp, n]) => (Nat.beq a C0 && (Nat.beq c C0 && Nat.beq b C)) && ((sx_ge P D dp && sx_ge P D n) && (sx_any (sx_cb P D N0 N sp dp n) D.2.2.2.2.1 && sx_any (sx_src P D M sp n) D.2.2.2.2.1))
  | _ => false
def sx_h21 (P : sx_P) (D : sx_D) (C N M : Nat) (g : sx_F) : Bool := match g with
  | (1021, [C0, N0, M0], []) => (Nat.beq M M0 && (sx_o (sx_up D C0 C) (fun x => sx_o (sx_up D N0 N) (fun y => sx_eqp P D x.1 y.1 && sx_eqp P D x.2 y.2)) || sx_any (sx_ca P D C0 C N0 N M) D.2.2.2.2.1)) ||
    sx_o (sx_up D M0 M) (fun z => sx_i4 P D z.1 && ((sx_zr P D C0 C z.1 && sx_zr P D N0 N z.1) || (sx_ge P D (sx_pk (sx_ng z.2) (-1)) && ((sx_zr P D C0 C z.1 || Nat.beq C C0) && (sx_zr P D N0 N z.1 || Nat.beq N N0)))))
  | _ => false
def sx_h22 (P : sx_P) (D : sx_D) (A B : Nat) (lo hi : sx_E) (g : sx_F) : Bool := match g with
  | (1022, [X, B'], [lo', hi']) => Nat.beq B' B && (sx_o (sx_up D A X) (fun x => sx_eqp P D x.1 lo && sx_eqp P D x.2 (sx_k 0)) && (sx_eqp P D lo' (sx_pk lo 1) && (sx_eqp P D hi' hi && (sx_ge P D (sx_pk (sx_sb hi lo) (-1)) && sx_ge P D lo))))
  | _ => false
def sx_h24b (P : sx_P) (D : sx_D) (R A : Nat) (sp n : sx_E) (g : sx_F) : Bool := match g with
  | (1024, [R', A'], [sp', n']) => (Nat.beq R' R && Nat.beq A' A) && (sx_eqp P D sp' sp && sx_eqp P D n' n)
  | _ => false
def sx_h23 (P : sx_P) (D : sx_D) (A C B : Nat) (sp dp n : sx_E) (g : sx_F) : Bool := match g with
  | (1023, [A', X, B'], [sp', dp', n']) => Nat.beq B' B && ((sx_ge P D sp && sx_ge P D dp) && ((Nat.beq A' A && (sx_o (sx_up D C X) (fun x => sx_eqp P D x.1 dp && sx_o (sx_sel P D A sp) (fun v => sx_eqp P D x.2 v)) && (sx_eqp P D sp' (sx_pk sp 1) && (sx_eqp P D dp' (sx_pk dp 1) && (sx_eqp P D n' (sx_pk n (-1)) && sx_ge P D (sx_pk n (-1))))))) ||
     (Nat.beq X C && (sx_eqp P D sp' (sx_k 0) && (sx_eqp P D dp' dp && (sx_eqp P D n' n && sx_any (sx_h24b P D A' A sp n) D.2.2.2.2.1))))))
  | _ => false
def sx_h24 (P : sx_P) (D : sx_D) (R C : Nat) (sp k : sx_E) (g : sx_F) : Bool := match g with
  | (1024, [R0, C'], [sp', k']) => (Nat.beq C' C && sx_eqp P D sp' sp) && ((Nat.beq R0 R && sx_eqp P D k' k) || (sx_o (sx_up D R0 R) (fun x => sx_eqp P D x.1 k' && sx_o (sx_sel P D C (sx_ad sp k')) (fun v => sx_eqp P D x.2 v)) && (sx_eqp P D k (sx_pk k' 1) && sx_ge P D k')))
  | _ => false
/-! results told by cells -/
def sx_bt (P : sx_P) (D : sx_D) (x : sx_E) : Bool := sx_ge P D x && sx_ge P D (sx_pk (sx_ng x) 30)
def sx_nt (P : sx_P) (D : sx_D) (x : sx_E) : Bool := sx_ge P D (sx_pk (sx_ng x) (-1)) || sx_ge P D (sx_pk x (-31))
def sx_rok (P : sx_P) (D : sx_D) (Y : Nat) (g h a cnt today games : sx_E) : Bool := (sx_ge P D g && sx_ge P D (sx_pk (sx_sb games g) (-1))) && (sx_bt P D h && (sx_bt P D a && (sx_o (sx_sel P D Y g) (fun d => sx_ge P D (sx_sb today d)) && sx_ge P D (sx_pk (sx_ng cnt) 119))))
def sx_rno (P : sx_P) (D : sx_D) (Y : Nat) (g h a cnt today games : sx_E) : Bool := (sx_ge P D (sx_pk (sx_ng g) (-1)) || sx_ge P D (sx_sb g games)) || (sx_nt P D h || (sx_nt P D a || ((sx_ge P D g && sx_o (sx_sel P D Y g) (fun d => sx_ge P D (sx_pk (sx_sb d today) (-1)))) || sx_ge P D (sx_pk cnt (-120)))))
def sx_h30 (P : sx_P) (D : sx_D) (C Y Z : Nat) (m p came cnt s today games r c : sx_E) (g : sx_F) : Bool := match g with
  | (1030, [C', Y', Z'], [m', p', came', cnt', s', t', g', r', c']) => (Nat.beq C' C && (Nat.beq Y' Y && Nat.beq Z' Z)) && ((sx_eqp P D m (sx_pk m' 1) && (sx_eqp P D p' (sx_pk p 3) && (sx_eqp P D s' s && (sx_eqp P D t' today && (sx_eqp P D g' games && (sx_eqp P D r' r && sx_eqp P D c' c)))))) &&
    ((sx_ge P D p && sx_o (sx_sel P D Z s) (fun z => sx_ge P D (sx_sb z (sx_pk p 3)))) && sx_o (sx_sel P D C (sx_ad (sx_sc 40 s) p)) (fun g => sx_o (sx_sel P D C (sx_pk (sx_ad (sx_sc 40 s) p) 1)) (fun h => sx_o (sx_sel P D C (sx_pk (sx_ad (sx_sc 40 s) p) 2)) (fun a =>
      (sx_rok P D Y g h a cnt today games && (sx_eqp P D came' (sx_pk came 1) && sx_eqp P D cnt' (sx_pk cnt 1))) || (sx_rno P D Y g h a cnt today games && (sx_eqp P D came' came && sx_eqp P D cnt' cnt)))))))
  | _ => false
def sx_hN (P : sx_P) (D : sx_D) (f : sx_F) : Bool := match f with
  | (1021, [C, N, M], []) => sx_any (sx_h21 P D C N M) D.2.2.2.2.1
  | (1022, [A, B], [lo, hi]) => (Nat.beq A B && sx_ge P D (sx_sb lo hi)) || sx_any (sx_h22 P D A B lo hi) D.2.2.2.2.1
  | (1023, [A, C, B], [sp, dp, n]) => (Nat.beq C B && sx_ge P D (sx_ng n)) || sx_any (sx_h23 P D A C B sp dp n) D.2.2.2.2.1
  | (1024, [R, C], [sp, k]) => sx_ge P D (sx_ng k) || sx_any (sx_h24 P D R C sp k) D.2.2.2.2.1
  | (1030, [C, Y, Z], [m, p, came, cnt, s, today, games, r, c]) => (sx_eqp P D m (sx_k 0) && (sx_eqp P D r came && sx_eqp P D c cnt)) || ((sx_ge P D (sx_pk m (-1)) && ((sx_ge P D (sx_pk (sx_ng p) (-1)) || sx_o (sx_sel P D Z s) (fun z => sx_ge P D (sx_pk (sx_sb (sx_pk p 3) z) (-1)))) && (sx_eqp P D r (sx_k (-12)) && sx_eqp P D c cnt))) || sx_any (sx_h30 P D C Y Z m p came cnt s today games r c) D.2.2.2.2.1)
  | (1020, [S, Z, M, Y], []) => sx_any (sx_h20 P D S Z M Y) D.2.2.2.2.1
  | (1007, [a, b], []) => Nat.beq a b || (sx_any (sx_h7 a b) D.2.2.2.2.1 || sx_h7u P D a b)
  | (1008, [], [x, y]) => sx_eqp P D x y
  | (1010, [R, F], [n, p, d, b]) => (sx_eqp P D n (sx_k 0) && sx_eqp P D b (sx_k (-1))) || sx_any (sx_h10 P D R F n p d b) D.2.2.2.2.1
  | (1011, [R, C, F], [n, p, d, f, l]) => (sx_eqp P D n (sx_k 0) && (sx_eqp P D f (sx_k (-1)) && sx_eqp P D l (sx_k (-1)))) || sx_any (sx_h11 P D R C F n p d f l) D.2.2.2.2.1
  | (1012, [R, C, F], [n, p, d, f]) => sx_any (sx_h12 P D R C F n p d f) D.2.2.2.2.1
  | (1014, [A, B], [n, x, y, r]) => (sx_eqp P D r (sx_k 0) && (sx_eqp P D n (sx_k 0) || sx_any (sx_h140 P D A B n x y) D.2.2.2.2.1)) || (sx_eqp P D r (sx_k 1) && sx_any (sx_h141 P D A B n x y) D.2.2.2.2.1)
  | (1015, [A, B], [n, c, r]) => (sx_eqp P D r (sx_k 0) && sx_any (sx_h150 P D A B n c) D.2.2.2.2.1) || (sx_eqp P D r (sx_k 1) && sx_any (sx_h151 P D A B n c) D.2.2.2.2.1)
  | _ => false
section SXTN
variable {P : sx_P} {σ : Nat → Int} {φ : sx_R} {D : sx_D}
theorem sx_o_ok {α : Type} {o : Option α} {f : α → Bool} (h : sx_o o f = true) : ∃ a, o = some a ∧ f a = true := by
  cases o with
  | none => cases h
  | some a => exact ⟨a, rfl, h⟩
theorem sx_nzd_ok {a b : sx_E} (hd : sx_d P sx_TGm σ φ D) (h : sx_nzd P D a b = true) : ¬ sx_ev σ a = sx_ev σ b := by
  have := sx_nzb_ok hd h
  rw [sx_ev_sb] at this
  omega
theorem sx_n7 {a b : Nat} : sx_fk sx_TGm σ φ (1007, [a, b], []) ↔ φ a = φ b := Iff.rfl
theorem sx_n8 {x y : sx_E} : sx_fk sx_TGm σ φ (1008, [], [x, y]) ↔ sx_ev σ x = sx_ev σ y := Iff.rfl
theorem sx_n10 {R F : Nat} {n p d b : sx_E} : sx_fk sx_TGm σ φ (1010, [R, F], [n, p, d, b]) ↔ 0 ≤ sx_ev σ n ∧ sx_ev σ b = tg_bs (φ R) (φ F) (sx_ev σ p) (sx_ev σ d) (sx_ev σ n).toNat := Iff.rfl
theorem sx_n11 {R C F : Nat} {n p d f l : sx_E} : sx_fk sx_TGm σ φ (1011, [R, C, F], [n, p, d, f, l]) ↔ 0 ≤ sx_ev σ n ∧ sx_ev σ f = tg_at (φ C) (tg_bs (φ R) (φ F) (sx_ev σ p) (sx_ev σ d) (sx_ev σ n).toNat) ∧ sx_ev σ l = tg_at (φ F) (tg_bs (φ R) (φ F) (sx_ev σ p) (sx_ev σ d) (sx_ev σ n).toNat) := Iff.rfl
theorem sx_n12 {R C F : Nat} {n p d f : sx_E} : sx_fk sx_TGm σ φ (1012, [R, C, F], [n, p, d, f]) ↔ sx_ev σ f = tg_at (φ C) (tg_bs (φ R) (φ F) (sx_ev σ p) (sx_ev σ d) (sx_ev σ n).toNat) := Iff.rfl
theorem sx_n14 {A B : Nat} {n x y r : sx_E} : sx_fk sx_TGm σ φ (1014, [A, B], [n, x, y, r]) ↔ 0 ≤ sx_ev σ n ∧ sx_ev σ r = tg_ex (φ A) (φ B) (sx_ev σ x) (sx_ev σ y) (sx_ev σ n).toNat := Iff.rfl
theorem sx_n15 {A B : Nat} {n c r : sx_E} : sx_fk sx_TGm σ φ (1015, [A, B], [n, c, r]) ↔ sx_ev σ r = tg_em (φ A) (φ B) (sx_ev σ c) (sx_ev σ n).toNat := Iff.rfl
theorem sx_n2 {A : Nat} {i v : sx_E} : sx_fk sx_TGm σ φ (2, [A], [i, v]) ↔ φ A (sx_ev σ i).toNat = sx_ev σ v := Iff.rfl
theorem sx_h7u_ok {a b : Nat} (hd : sx_d P sx_TGm σ φ D) (h : sx_h7u P D a b = true) : φ a = φ b := by
  unfold sx_h7u at h
  split at h
  · next x y hx hy =>
    simp only [Bool.and_eq_true] at h
    have e1 := Nat.eq_of_beq_eq_true h.1
    have e2 := sx_eqp_ok hd h.2.1
    have e3 := sx_eqp_ok hd h.2.2
    funext j
    rw [sx_fru_ok hd hx j, sx_fru_ok hd hy j, e1, e2, e3]
  · cases h
theorem sx_h10_ok {R F : Nat} {n p d b : sx_E} {g : sx_F} (hd : sx_d P sx_TGm σ φ D) (hg : sx_fk sx_TGm σ φ g) (h : sx_h10 P D R F n p d b g = true) : sx_fk sx_TGm σ φ (1010, [R, F], [n, p, d, b]) := by
  rw [sx_n10]
  unfold sx_h10 at h
  split at h
  · next R' F' n' p' d' b' =>
    rw [Bool.and_eq_true] at h
    obtain ⟨h1, h2⟩ := h
    simp only [Bool.and_eq_true] at h1
    obtain ⟨k1, k2, k3, k4, k5⟩ := h1
    have k1 := Nat.eq_of_beq_eq_true k1
    have k2 := Nat.eq_of_beq_eq_true k2
    subst k1
    subst k2
    have k3 := sx_eqp_ok hd k3
    have k4 := sx_eqp_ok hd k4
    have k5 := sx_eqp_ok hd k5
    rw [sx_ev_pk] at k3
    obtain ⟨g1, g2⟩ := sx_n10.mp hg
    rw [k4, k5] at g2
    refine ⟨by omega, ?_⟩
    rw [show (sx_ev σ n).toNat = (sx_ev σ n').toNat + 1 by omega]
    show _ = (if φ R' (sx_ev σ n').toNat = sx_ev σ p ∧ φ F' (sx_ev σ n').toNat ≤ sx_ev σ d ∧ (tg_bs (φ R') (φ F') (sx_ev σ p) (sx_ev σ d) (sx_ev σ n').toNat < 0 ∨ φ F' (tg_bs (φ R') (φ F') (sx_ev σ p) (sx_ev σ d) (sx_ev σ n').toNat).toNat ≤ φ F' (sx_ev σ n').toNat) then ((sx_ev σ n').toNat : Int) else tg_bs (φ R') (φ F') (sx_ev σ p) (sx_ev σ d) (sx_ev σ n').toNat)
    rw [← g2]
    rw [Bool.or_eq_true] at h2
    rcases h2 with h2 | h2
    · rw [Bool.and_eq_true, Bool.and_eq_true] at h2
      obtain ⟨h3, h4, h5⟩ := h2
      have e1 := sx_eqp_ok hd h3
      obtain ⟨v, v1, v2⟩ := sx_o_ok h4
      obtain ⟨w, w1, w2⟩ := sx_o_ok h5
      have v2 := sx_eqp_ok hd v2
      rw [Bool.and_eq_true, Bool.or_eq_true] at w2
      have w3 := sx_ge_ok hd w2.1
      rw [sx_ev_sb] at w3
      have c3 : sx_ev σ b' < 0 ∨ φ F' (sx_ev σ b').toNat ≤ φ F' (sx_ev σ n').toNat := by
        rcases w2.2 with z | z
        · have := sx_ge_ok hd z
          rw [sx_ev_pk, sx_ev_ng] at this
          exact Or.inl (by omega)
        · rw [Bool.and_eq_true] at z
          obtain ⟨u, u1, u2⟩ := sx_o_ok z.2
          have := sx_ge_ok hd u2
          rw [sx_ev_sb] at this
          refine Or.inr ?_
          rw [sx_sel_ok hd u1, sx_sel_ok hd w1]
          omega
      rw [if_pos ⟨(sx_sel_ok hd v1).trans v2, by rw [sx_sel_ok hd w1]; omega, c3⟩]
      omega
    · rw [Bool.and_eq_true, Bool.or_eq_true] at h2
      have e1 := sx_eqp_ok hd h2.1
      rw [if_neg]
      · exact e1
      · intro ⟨z1, z2, z3⟩
        rcases h2.2 with h4 | h5
        · obtain ⟨v, v1, v2⟩ := sx_o_ok h4
          exact sx_nzd_ok hd v2 ((sx_sel_ok hd v1).symm.trans z1)
        · obtain ⟨w, w1, w2⟩ := sx_o_ok h5
          rw [sx_sel_ok hd w1] at z2 z3
          rw [Bool.or_eq_true] at w2
          rcases w2 with z | z
          · have := sx_ge_ok hd z
            rw [sx_ev_pk, sx_ev_sb] at this
            omega
          · rw [Bool.and_eq_true] at z
            have y1 := sx_ge_ok hd z.1
            obtain ⟨u, u1, u2⟩ := sx_o_ok z.2
            have := sx_ge_ok hd u2
            rw [sx_ev_pk, sx_ev_sb] at this
            rw [sx_sel_ok hd u1] at z3
            omega
  · cases h
theorem sx_h11_ok {R C F : Nat} {n p d f l : sx_E} {g : sx_F} (hd : sx_d P sx_TGm σ φ D) (hg : sx_fk sx_TGm σ φ g) (h : sx_h11 P D R C F n p d f l g = true) : sx_fk sx_TGm σ φ (1011, [R, C, F], [n, p, d, f, l]) := by
  rw [sx_n11]
  unfold sx_h11 at h
  split at h
  · next R' C' F' n' p' d' f' l' =>
    rw [Bool.and_eq_true] at h
    obtain ⟨h1, h2⟩ := h
    simp only [Bool.and_eq_true] at h1
    obtain ⟨k1, k0, k2, k3, k4, k5⟩ := h1
    have k1 := Nat.eq_of_beq_eq_true k1
    have k0 := Nat.eq_of_beq_eq_true k0
    have k2 := Nat.eq_of_beq_eq_true k2
    subst k1
    subst k2
    subst k0
    have k3 := sx_eqp_ok hd k3
    have k4 := sx_eqp_ok hd k4
    have k5 := sx_eqp_ok hd k5
    rw [sx_ev_pk] at k3
    obtain ⟨g1, g2, g3⟩ := sx_n11.mp hg
    rw [k4, k5] at g2 g3
    refine ⟨by omega, ?_⟩
    rw [show (sx_ev σ n).toNat = (sx_ev σ n').toNat + 1 by omega]
    have eb : tg_bs (φ R') (φ F') (sx_ev σ p) (sx_ev σ d) ((sx_ev σ n').toNat + 1) = (if φ R' (sx_ev σ n').toNat = sx_ev σ p ∧ φ F' (sx_ev σ n').toNat ≤ sx_ev σ d ∧ (tg_bs (φ R') (φ F') (sx_ev σ p) (sx_ev σ d) (sx_ev σ n').toNat < 0 ∨ φ F' (tg_bs (φ R') (φ F') (sx_ev σ p) (sx_ev σ d) (sx_ev σ n').toNat).toNat ≤ φ F' (sx_ev σ n').toNat) then ((sx_ev σ n').toNat : Int) else tg_bs (φ R') (φ F') (sx_ev σ p) (sx_ev σ d) (sx_ev σ n').toNat) := rfl
    rw [eb]
    generalize tg_bs (φ R') (φ F') (sx_ev σ p) (sx_ev σ d) (sx_ev σ n').toNat = b at g2 g3 ⊢
    unfold tg_at at g2 g3
    rw [Bool.or_eq_true] at h2
    rcases h2 with h2 | h2
    · rw [Bool.and_eq_true, Bool.and_eq_true] at h2
      obtain ⟨h3, h4, h5⟩ := h2
      obtain ⟨v, v1, v2⟩ := sx_o_ok h3
      obtain ⟨c, c1, c2⟩ := sx_o_ok h4
      obtain ⟨w, w1, w2⟩ := sx_o_ok h5
      have v2 := sx_eqp_ok hd v2
      have c2 := sx_eqp_ok hd c2
      simp only [Bool.and_eq_true] at w2
      have w3 := sx_eqp_ok hd w2.1
      have w4 := sx_ge_ok hd w2.2.1
      have w5 := sx_ge_ok hd w2.2.2
      rw [sx_ev_sb] at w4 w5
      have fw := sx_sel_ok hd w1
      have fc := sx_sel_ok hd c1
      have c3 : b < 0 ∨ φ F' b.toNat ≤ φ F' (sx_ev σ n').toNat := by
        by_cases hb : b < 0
        · exact Or.inl hb
        · rw [if_neg hb] at g3
          refine Or.inr ?_
          rw [← g3, fw]
          omega
      rw [if_pos ⟨(sx_sel_ok hd v1).trans v2, by rw [fw]; omega, c3⟩]
      unfold tg_at
      rw [if_neg (by omega), if_neg (by omega), Int.toNat_natCast]
      rw [fc, fw]
      exact ⟨c2, w3⟩
    · rw [Bool.and_eq_true, Bool.and_eq_true, Bool.or_eq_true] at h2
      obtain ⟨⟨h3, h4⟩, h5⟩ := h2
      have e1 := sx_eqp_ok hd h3
      have e2 := sx_eqp_ok hd h4
      rw [if_neg]
      · unfold tg_at
        exact ⟨e1.trans g2, e2.trans g3⟩
      · intro ⟨z1, z2, z3⟩
        rcases h5 with h6 | h6
        · obtain ⟨v, v1, v2⟩ := sx_o_ok h6
          exact sx_nzd_ok hd v2 ((sx_sel_ok hd v1).symm.trans z1)
        · obtain ⟨w, w1, w2⟩ := sx_o_ok h6
          rw [sx_sel_ok hd w1] at z2 z3
          rw [Bool.or_eq_true] at w2
          rcases w2 with z | z
          · have := sx_ge_ok hd z
            rw [sx_ev_pk, sx_ev_sb] at this
            omega
          · rw [Bool.and_eq_true] at z
            have y1 := sx_ge_ok hd z.1
            have y2 := sx_ge_ok hd z.2
            rw [sx_ev_pk, sx_ev_sb] at y1
            rw [sx_ev_pk] at y2
            by_cases hb : b < 0
            · rw [if_pos hb] at g3
              omega
            · rw [if_neg hb] at g3
              omega
  · cases h
theorem sx_h12_ok {R C F : Nat} {n p d f : sx_E} {g : sx_F} (hd : sx_d P sx_TGm σ φ D) (hg : sx_fk sx_TGm σ φ g) (h : sx_h12 P D R C F n p d f g = true) : sx_fk sx_TGm σ φ (1012, [R, C, F], [n, p, d, f]) := by
  rw [sx_n12]
  unfold sx_h12 at h
  split at h
  · next R' C' F' n' p' d' f' l' =>
    simp only [Bool.and_eq_true] at h
    obtain ⟨k1, k2, k3, k4, k5, k6, k7⟩ := h
    have k1 := Nat.eq_of_beq_eq_true k1
    have k2 := Nat.eq_of_beq_eq_true k2
    have k3 := Nat.eq_of_beq_eq_true k3
    subst k1
    subst k2
    subst k3
    have k4 := sx_eqp_ok hd k4
    have k5 := sx_eqp_ok hd k5
    have k6 := sx_eqp_ok hd k6
    have k7 := sx_eqp_ok hd k7
    obtain ⟨g1, g2, g3⟩ := sx_n11.mp hg
    rw [k4, k5, k6] at g2
    exact k7.trans g2
  · next R' F' n' p' d' b' =>
    rw [Bool.and_eq_true] at h
    obtain ⟨h1, h2⟩ := h
    simp only [Bool.and_eq_true] at h1
    obtain ⟨k1, k2, k4, k5, k6⟩ := h1
    have k1 := Nat.eq_of_beq_eq_true k1
    have k2 := Nat.eq_of_beq_eq_true k2
    subst k1
    subst k2
    have k4 := sx_eqp_ok hd k4
    have k5 := sx_eqp_ok hd k5
    have k6 := sx_eqp_ok hd k6
    obtain ⟨g1, g2⟩ := sx_n10.mp hg
    rw [k4, k5, k6] at g2
    rw [← g2]
    unfold tg_at
    rw [Bool.or_eq_true] at h2
    rcases h2 with h2 | h2
    · rw [Bool.and_eq_true] at h2
      have y1 := sx_ge_ok hd h2.1
      have y2 := sx_eqp_ok hd h2.2
      rw [sx_ev_pk, sx_ev_ng] at y1
      rw [sx_ev_k] at y2
      rw [if_pos (by omega)]
      exact y2
    · rw [Bool.and_eq_true] at h2
      have y1 := sx_ge_ok hd h2.1
      obtain ⟨v, v1, v2⟩ := sx_o_ok h2.2
      rw [if_neg (by omega), sx_sel_ok hd v1]
      exact sx_eqp_ok hd v2
  · cases h
theorem sx_h140_ok {A B : Nat} {n x y : sx_E} {g : sx_F} (hd : sx_d P sx_TGm σ φ D) (hg : sx_fk sx_TGm σ φ g) (h : sx_h140 P D A B n x y g = true) : 0 ≤ sx_ev σ n ∧ (0 : Int) = tg_ex (φ A) (φ B) (sx_ev σ x) (sx_ev σ y) (sx_ev σ n).toNat := by
  unfold sx_h140 at h
  split at h
  · next A' B' n' x' y' r' =>
    rw [Bool.and_eq_true] at h
    obtain ⟨h1, h2⟩ := h
    simp only [Bool.and_eq_true] at h1
    obtain ⟨k1, k2, k4, k5, k6⟩ := h1
    have k1 := Nat.eq_of_beq_eq_true k1
    have k2 := Nat.eq_of_beq_eq_true k2
    subst k1
    subst k2
    have k4 := sx_eqp_ok hd k4
    have k5 := sx_eqp_ok hd k5
    have k6 := sx_eqp_ok hd k6
    rw [sx_ev_k] at k6
    obtain ⟨g1, g2⟩ := sx_n14.mp hg
    rw [k4, k5, k6] at g2
    rw [Bool.or_eq_true] at h2
    rcases h2 with h2 | h2
    · have k3 := sx_eqp_ok hd h2
      rw [k3]
      exact ⟨g1, g2⟩
    rw [Bool.and_eq_true] at h2
    obtain ⟨k3, h2⟩ := h2
    have k3 := sx_eqp_ok hd k3
    rw [sx_ev_pk] at k3
    refine ⟨by omega, ?_⟩
    rw [show (sx_ev σ n).toNat = (sx_ev σ n').toNat + 1 by omega]
    unfold tg_ex
    rw [if_neg]
    · exact g2
    · intro ⟨z1, z2⟩
      rw [Bool.or_eq_true] at h2
      rcases h2 with h2 | h2
      · obtain ⟨v, v1, v2⟩ := sx_o_ok h2
        exact sx_nzd_ok hd v2 ((sx_sel_ok hd v1).symm.trans z1)
      · obtain ⟨v, v1, v2⟩ := sx_o_ok h2
        exact sx_nzd_ok hd v2 ((sx_sel_ok hd v1).symm.trans z2)
  · cases h
theorem sx_h141_ok {A B : Nat} {n x y : sx_E} {g : sx_F} (hd : sx_d P sx_TGm σ φ D) (hg : sx_fk sx_TGm σ φ g) (h : sx_h141 P D A B n x y g = true) : 0 ≤ sx_ev σ n ∧ (1 : Int) = tg_ex (φ A) (φ B) (sx_ev σ x) (sx_ev σ y) (sx_ev σ n).toNat := by
  unfold sx_h141 at h
  split at h
  · next A' i v =>
    simp only [Bool.and_eq_true] at h
    obtain ⟨k1, ⟨k2, k3⟩, k4, k5⟩ := h
    have k1 := Nat.eq_of_beq_eq_true k1
    subst k1
    have k2 := sx_ge_ok hd k2
    have k3 := sx_ge_ok hd k3
    rw [sx_ev_pk, sx_ev_sb] at k3
    have k4 := sx_eqp_ok hd k4
    obtain ⟨w, w1, w2⟩ := sx_o_ok k5
    have w2 := sx_eqp_ok hd w2
    exact ⟨by omega, (tg_ex_1 (i := (sx_ev σ i).toNat) ((sx_n2.mp hg).trans k4) ((sx_sel_ok hd w1).trans w2) (by omega)).symm⟩
  · cases h
theorem sx_h150_ok {A B : Nat} {n c : sx_E} {g : sx_F} (hd : sx_d P sx_TGm σ φ D) (hg : sx_fk sx_TGm σ φ g) (h : sx_h150 P D A B n c g = true) : (0 : Int) = tg_em (φ A) (φ B) (sx_ev σ c) (sx_ev σ n).toNat := by
  unfold sx_h150 at h
  split at h
  · next A' B' n' c' =>
    simp only [Bool.and_eq_true] at h
    obtain ⟨k1, k2, k3, k4⟩ := h
    have k1 := Nat.eq_of_beq_eq_true k1
    have k2 := Nat.eq_of_beq_eq_true k2
    subst k1
    subst k2
    have k3 := sx_eqp_ok hd k3
    have k4 := sx_eqp_ok hd k4
    have g1 := sx_fk3.mp hg
    rw [k3, k4] at g1
    exact (tg_em_0 fun i hi => g1 i (by omega)).symm
  · cases h
theorem sx_h151_ok {A B : Nat} {n c : sx_E} {g : sx_F} (hd : sx_d P sx_TGm σ φ D) (hg : sx_fk sx_TGm σ φ g) (h : sx_h151 P D A B n c g = true) : (1 : Int) = tg_em (φ A) (φ B) (sx_ev σ c) (sx_ev σ n).toNat := by
  unfold sx_h151 at h
  split at h
  · next A' i v =>
    simp only [Bool.and_eq_true, Bool.or_eq_true] at h
    obtain ⟨k1, ⟨k2, k3⟩, k4⟩ := h
    have k2 := sx_ge_ok hd k2
    have k3 := sx_ge_ok hd k3
    rw [sx_ev_pk, sx_ev_sb] at k3
    have k4 := sx_eqp_ok hd k4
    have hv := (sx_n2.mp hg).trans k4
    refine (tg_em_1 (i := (sx_ev σ i).toNat) ?_ (by omega)).symm
    rcases k1 with z | z
    · have z := Nat.eq_of_beq_eq_true z
      subst z
      exact Or.inl hv
    · have z := Nat.eq_of_beq_eq_true z
      subst z
      exact Or.inr hv
  · cases h
theorem sx_n20 {S Z M Y : Nat} : sx_fk sx_TGm σ φ (1020, [S, Z, M, Y], []) ↔ ∀ s : Nat, s < 4 → φ S s = φ M s + 1 ∧ (0 ≤ φ M s → φ Z s = φ Y s) := Iff.rfl
theorem sx_up_ok {a0 a : Nat} {x : sx_E × sx_E} (hd : sx_d P sx_TGm σ φ D) (h : sx_up D a0 a = some x) : ∀ j, φ a j = if j = (sx_ev σ x.1).toNat then sx_ev σ x.2 else φ a0 j := by
  unfold sx_up at h
  split at h
  · next y hy =>
    cases hb : Nat.beq y.1 a0 with
    | false => rw [hb] at h; cases h
    | true =>
      rw [hb] at h
      have h : some y.2 = some x := h
      cases h
      have := sx_fru_ok hd hy
      rw [Nat.eq_of_beq_eq_true hb] at this
      exact this
  · cases h
theorem sx_z1_ok {a0 a : Nat} {i : sx_E} (hd : sx_d P sx_TGm σ φ D) (h : sx_z1 P D a0 a i = true) : ∀ j, ¬ j = (sx_ev σ i).toNat → φ a j = φ a0 j := by
  unfold sx_z1 at h
  rw [Bool.or_eq_true] at h
  intro j hj
  rcases h with h | h
  · rw [Nat.eq_of_beq_eq_true h]
  · obtain ⟨z, z1, z2⟩ := sx_o_ok h
    rw [sx_up_ok hd z1 j, sx_eqp_ok hd z2, if_neg hj]
theorem sx_h20_ok {S Z M Y : Nat} {g : sx_F} (hd : sx_d P sx_TGm σ φ D) (hg : sx_fk sx_TGm σ φ g) (h : sx_h20 P D S Z M Y g = true) : sx_fk sx_TGm σ φ (1020, [S, Z, M, Y], []) := by
  rw [sx_n20]
  unfold sx_h20 at h
  split at h
  · next S0 Z0 M0 Y0 =>
    have hg := sx_n20.mp hg
    obtain ⟨x, x1, h⟩ := sx_o_ok h
    obtain ⟨y, y1, h⟩ := sx_o_ok h
    rw [Bool.and_eq_true, Bool.and_eq_true, Bool.or_eq_true] at h
    obtain ⟨⟨k1, k2⟩, h⟩ := h
    have k1 := sx_eqp_ok hd k1
    have k2 := sx_eqp_ok hd k2
    rw [sx_ev_pk] at k2
    intro s hs
    have fS := sx_up_ok hd x1 s
    have fM := sx_up_ok hd y1 s
    rw [k1] at fS
    have hg := hg s hs
    by_cases hi : s = (sx_ev σ y.1).toNat
    · rw [if_pos hi] at fS fM
      refine ⟨by omega, fun hm => ?_⟩
      rcases h with h | h
      · rw [Bool.and_eq_true] at h
        have := sx_ge_ok hd h.1
        rw [sx_ev_pk, sx_ev_ng] at this
        omega
      · obtain ⟨z, z1, h⟩ := sx_o_ok h
        obtain ⟨u, u1, h⟩ := sx_o_ok h
        simp only [Bool.and_eq_true] at h
        rw [sx_up_ok hd z1 s, sx_up_ok hd u1 s, sx_eqp_ok hd h.1, sx_eqp_ok hd h.2.1, if_pos hi, if_pos hi]
        exact sx_eqp_ok hd h.2.2
    · rw [if_neg hi] at fS fM
      have hzy : φ Z s = φ Z0 s ∧ φ Y s = φ Y0 s := by
        rcases h with h | h
        · simp only [Bool.and_eq_true] at h
          exact ⟨sx_z1_ok hd h.2.1 s hi, sx_z1_ok hd h.2.2 s hi⟩
        · obtain ⟨z, z1, h⟩ := sx_o_ok h
          obtain ⟨u, u1, h⟩ := sx_o_ok h
          simp only [Bool.and_eq_true] at h
          rw [sx_up_ok hd z1 s, sx_up_ok hd u1 s, sx_eqp_ok hd h.1, sx_eqp_ok hd h.2.1, if_neg hi, if_neg hi]
          exact ⟨rfl, rfl⟩
      rw [fS, fM, hzy.1, hzy.2]
      exact hg
  · cases h
theorem sx_n21 {C N M : Nat} : sx_fk sx_TGm σ φ (1021, [C, N, M], []) ↔ ∀ s : Nat, s < 4 → 0 ≤ φ M s → ∀ i : Nat, i < 40 → φ C (40 * s + i) = φ N (40 * s + i) := Iff.rfl
theorem sx_n22 {A B : Nat} {lo hi : sx_E} : sx_fk sx_TGm σ φ (1022, [A, B], [lo, hi]) ↔ ∀ j : Nat, φ B j = if sx_ev σ lo ≤ j ∧ (j : Int) < sx_ev σ hi then 0 else φ A j := Iff.rfl
theorem sx_n23 {A C B : Nat} {sp dp n : sx_E} : sx_fk sx_TGm σ φ (1023, [A, C, B], [sp, dp, n]) ↔ ∀ j : Nat, φ B j = if sx_ev σ dp ≤ j ∧ (j : Int) < sx_ev σ dp + sx_ev σ n then φ A (sx_ev σ sp + (j - sx_ev σ dp)).toNat else φ C j := Iff.rfl
theorem sx_n24 {R C : Nat} {sp k : sx_E} : sx_fk sx_TGm σ φ (1024, [R, C], [sp, k]) ↔ ∀ t : Nat, (t : Int) < sx_ev σ k → φ R t = φ C (sx_ev σ sp + t).toNat := Iff.rfl
theorem sx_n7c {A C B : Nat} {sp dp n : sx_E} : sx_fk sx_TGm σ φ (7, [A, C, B], [sp, dp, n]) ↔ ∀ j, φ B j = if (sx_ev σ dp).toNat ≤ j ∧ j < (sx_ev σ dp).toNat + (sx_ev σ n).toNat then φ A ((sx_ev σ sp).toNat + (j - (sx_ev σ dp).toNat)) else φ C j := Iff.rfl
theorem sx_n30 {C Y Z : Nat} {m p came cnt s today games r c : sx_E} : sx_fk sx_TGm σ φ (1030, [C, Y, Z], [m, p, came, cnt, s, today, games, r, c]) ↔ 0 ≤ sx_ev σ m ∧ (sx_ev σ r, sx_ev σ c) = tg_rs (φ C) (φ Y) (φ Z (sx_ev σ s).toNat) (40 * sx_ev σ s) (sx_ev σ today) (sx_ev σ games) (sx_ev σ m).toNat (sx_ev σ p) (sx_ev σ came) (sx_ev σ cnt) := Iff.rfl
theorem sx_i4_ok {s : sx_E} (hd : sx_d P sx_TGm σ φ D) (h : sx_i4 P D s = true) : 0 ≤ sx_ev σ s ∧ sx_ev σ s ≤ 3 := by
  unfold sx_i4 at h
  rw [Bool.and_eq_true] at h
  have h1 := sx_ge_ok hd h.1
  have h2 := sx_ge_ok hd h.2
  rw [sx_ev_pk, sx_ev_ng] at h2
  omega
theorem sx_zr_ok {A B : Nat} {s : sx_E} (hd : sx_d P sx_TGm σ φ D) (h : sx_zr P D A B s = true) : ∀ j : Nat, φ B j = if 40 * sx_ev σ s ≤ j ∧ (j : Int) < 40 * sx_ev σ s + 40 then 0 else φ A j := by
  obtain ⟨g, g1, g2⟩ := sx_any_ok h
  have hg := hd.2.2.2.2 g g1
  unfold sx_zr1 at g2
  split at g2
  · next A' B' lo hi =>
    simp only [Bool.and_eq_true] at g2
    obtain ⟨⟨k1, k2⟩, k3, k4⟩ := g2
    have k1 := Nat.eq_of_beq_eq_true k1
    have k2 := Nat.eq_of_beq_eq_true k2
    subst k1
    subst k2
    have k3 := sx_eqp_ok hd k3
    have k4 := sx_eqp_ok hd k4
    rw [sx_ev_sc] at k3
    rw [sx_ev_pk, sx_ev_sc] at k4
    have hg := sx_n22.mp hg
    rw [k3, k4] at hg
    exact hg
  · cases g2
theorem sx_h21_ok {C N M : Nat} {g : sx_F} (hd : sx_d P sx_TGm σ φ D) (hg : sx_fk sx_TGm σ φ g) (h : sx_h21 P D C N M g = true) : sx_fk sx_TGm σ φ (1021, [C, N, M], []) := by
  rw [sx_n21]
  unfold sx_h21 at h
  split at h
  · next C0 N0 M0 =>
    have hg := sx_n21.mp hg
    intro s hs hm i hi
    rw [Bool.or_eq_true] at h
    rcases h with h | h
    · rw [Bool.and_eq_true, Bool.or_eq_true] at h
      have hM := Nat.eq_of_beq_eq_true h.1
      subst hM
      have old := hg s hs hm
      rcases h.2 with h | h
      · obtain ⟨x, x1, h⟩ := sx_o_ok h
        obtain ⟨y, y1, h⟩ := sx_o_ok h
        rw [Bool.and_eq_true] at h
        rw [sx_up_ok hd x1, sx_up_ok hd y1, sx_eqp_ok hd h.1, sx_eqp_ok hd h.2, old i hi]
      · obtain ⟨a, a1, a2⟩ := sx_any_ok h
        have ha := hd.2.2.2.2 a a1
        unfold sx_ca at a2
        split at a2
        · next a c b sp dp n =>
          have a3 := (Bool.and_eq_true _ _).mp a2
          have a4 := (Bool.and_eq_true _ _).mp a3.2
          have b1 := a3.1
          obtain ⟨b2, b3⟩ := (Bool.and_eq_true _ _).mp a4.1
          obtain ⟨b4, b5⟩ := (Bool.and_eq_true _ _).mp a4.2
          simp only [Bool.and_eq_true] at b1
          have e1 := Nat.eq_of_beq_eq_true b1.1
          have e2 := Nat.eq_of_beq_eq_true b1.2.1
          have e3 := Nat.eq_of_beq_eq_true b1.2.2
          subst e1
          subst e3
          have ha := sx_n7c.mp ha
          have b2 := sx_ge_ok hd b2
          have b3 := sx_ge_ok hd b3
          obtain ⟨b, d1, d2⟩ := sx_any_ok b4
          have hb := hd.2.2.2.2 b d1
          obtain ⟨q, q1, q2⟩ := sx_any_ok b5
          have hq := hd.2.2.2.2 q q1
          unfold sx_cb at d2
          split at d2
          · next na nc nb sp' dp' n' =>
            rw [Bool.and_eq_true] at d2
            obtain ⟨d2, d3⟩ := d2
            simp only [Bool.and_eq_true] at d2 d3
            have f1 := Nat.eq_of_beq_eq_true d2.1
            have f2 := Nat.eq_of_beq_eq_true d2.2.1
            have f3 := Nat.eq_of_beq_eq_true d2.2.2
            subst f3
            have hb := sx_n23.mp hb
            rw [sx_eqp_ok hd d3.1, sx_eqp_ok hd d3.2.1, sx_eqp_ok hd d3.2.2, f1, f2] at hb
            rw [e2] at ha
            unfold sx_src at q2
            split at q2
            · next M' t y =>
              simp only [Bool.and_eq_true] at q2
              obtain ⟨r1, r2, r3, r4, r5⟩ := q2
              have r1 := Nat.eq_of_beq_eq_true r1
              subst r1
              have r2 := sx_ge_ok hd r2
              have r3 := sx_i4_ok hd r3
              have r4 := sx_ge_ok hd r4
              have r5 := sx_ge_ok hd r5
              rw [sx_ev_sb, sx_ev_sc] at r4
              rw [sx_ev_sb, sx_ev_pk, sx_ev_sc, sx_ev_ad] at r5
              have hq : φ M' (sx_ev σ t).toNat = sx_ev σ y := hq
              have src := hg (sx_ev σ t).toNat (by omega) (by omega)
              rw [ha, hb]
              by_cases z : (sx_ev σ dp).toNat ≤ 40 * s + i ∧ 40 * s + i < (sx_ev σ dp).toNat + (sx_ev σ n).toNat
              · rw [if_pos z, if_pos (by omega)]
                have w := src ((sx_ev σ sp).toNat + (40 * s + i - (sx_ev σ dp).toNat) - 40 * (sx_ev σ t).toNat) (by omega)
                rw [show 40 * (sx_ev σ t).toNat + ((sx_ev σ sp).toNat + (40 * s + i - (sx_ev σ dp).toNat) - 40 * (sx_ev σ t).toNat) = (sx_ev σ sp).toNat + (40 * s + i - (sx_ev σ dp).toNat) by omega] at w
                rw [w]
                exact congrArg _ (by omega)
              · rw [if_neg z, if_neg (by omega)]
                exact old i hi
            · cases q2
          · cases d2
        · cases a2
    · obtain ⟨z, z1, h⟩ := sx_o_ok h
      rw [Bool.and_eq_true, Bool.or_eq_true] at h
      have hi4 := sx_i4_ok hd h.1
      have fM := sx_up_ok hd z1 s
      by_cases e : s = (sx_ev σ z.1).toNat
      · rw [if_pos e] at fM
        rcases h.2 with h | h
        · rw [Bool.and_eq_true] at h
          rw [sx_zr_ok hd h.1, sx_zr_ok hd h.2, if_pos (by omega), if_pos (by omega)]
        · rw [Bool.and_eq_true] at h
          have := sx_ge_ok hd h.1
          rw [sx_ev_pk, sx_ev_ng] at this
          omega
      · rw [if_neg e] at fM
        have old := hg s hs (by omega) i hi
        have hC : φ C (40 * s + i) = φ C0 (40 * s + i) := by
          have key : (sx_zr P D C0 C z.1 || Nat.beq C C0) = true := by
            rcases h.2 with h | h
            · rw [Bool.and_eq_true] at h
              rw [h.1]
              rfl
            · rw [Bool.and_eq_true, Bool.and_eq_true] at h
              exact h.2.1
          rw [Bool.or_eq_true] at key
          rcases key with key | key
          · rw [sx_zr_ok hd key, if_neg (by omega)]
          · rw [Nat.eq_of_beq_eq_true key]
        have hN : φ N (40 * s + i) = φ N0 (40 * s + i) := by
          have key : (sx_zr P D N0 N z.1 || Nat.beq N N0) = true := by
            rcases h.2 with h | h
            · rw [Bool.and_eq_true] at h
              rw [h.2]
              rfl
            · rw [Bool.and_eq_true, Bool.and_eq_true] at h
              exact h.2.2
          rw [Bool.or_eq_true] at key
          rcases key with key | key
          · rw [sx_zr_ok hd key, if_neg (by omega)]
          · rw [Nat.eq_of_beq_eq_true key]
        rw [hC, hN, old]
  · cases h
theorem sx_h22_ok {A B : Nat} {lo hi : sx_E} {g : sx_F} (hd : sx_d P sx_TGm σ φ D) (hg : sx_fk sx_TGm σ φ g) (h : sx_h22 P D A B lo hi g = true) : sx_fk sx_TGm σ φ (1022, [A, B], [lo, hi]) := by
  rw [sx_n22]
  unfold sx_h22 at h
  split at h
  · next X B' lo' hi' =>
    simp only [Bool.and_eq_true] at h
    obtain ⟨k1, k2, k3, k4, k5, k6⟩ := h
    have k1 := Nat.eq_of_beq_eq_true k1
    subst k1
    obtain ⟨x, x1, x2⟩ := sx_o_ok k2
    rw [Bool.and_eq_true] at x2
    have y1 := sx_eqp_ok hd x2.1
    have y2 := sx_eqp_ok hd x2.2
    have k3 := sx_eqp_ok hd k3
    have k4 := sx_eqp_ok hd k4
    have k5 := sx_ge_ok hd k5
    have k6 := sx_ge_ok hd k6
    rw [sx_ev_k] at y2
    rw [sx_ev_pk] at k3
    rw [sx_ev_pk, sx_ev_sb] at k5
    have hg := sx_n22.mp hg
    intro j
    rw [hg j, k3, k4, sx_up_ok hd x1 j, y1, y2]
    by_cases z : sx_ev σ lo ≤ j ∧ (j : Int) < sx_ev σ hi
    · rw [if_pos z]
      by_cases w : sx_ev σ lo + 1 ≤ j ∧ (j : Int) < sx_ev σ hi
      · rw [if_pos w]
      · rw [if_neg w, if_pos (by omega)]
    · rw [if_neg z, if_neg (by omega), if_neg (by omega)]
  · cases h
theorem sx_h23_ok {A C B : Nat} {sp dp n : sx_E} {g : sx_F} (hd : sx_d P sx_TGm σ φ D) (hg : sx_fk sx_TGm σ φ g) (h : sx_h23 P D A C B sp dp n g = true) : sx_fk sx_TGm σ φ (1023, [A, C, B], [sp, dp, n]) := by
  rw [sx_n23]
  unfold sx_h23 at h
  split at h
  · next A' X B' sp' dp' n' =>
    rw [Bool.and_eq_true, Bool.and_eq_true, Bool.and_eq_true, Bool.or_eq_true] at h
    obtain ⟨k1, ⟨k2, k3⟩, h⟩ := h
    have k1 := Nat.eq_of_beq_eq_true k1
    subst k1
    have k2 := sx_ge_ok hd k2
    have k3 := sx_ge_ok hd k3
    have hg := sx_n23.mp hg
    rcases h with h | h
    · simp only [Bool.and_eq_true] at h
      obtain ⟨h1, h2, h3, h4, h5, h6⟩ := h
      have h1 := Nat.eq_of_beq_eq_true h1
      subst h1
      obtain ⟨x, x1, x2⟩ := sx_o_ok h2
      rw [Bool.and_eq_true] at x2
      have y1 := sx_eqp_ok hd x2.1
      obtain ⟨v, v1, v2⟩ := sx_o_ok x2.2
      have v2 := sx_eqp_ok hd v2
      have fv := sx_sel_ok hd v1
      have h3 := sx_eqp_ok hd h3
      have h4 := sx_eqp_ok hd h4
      have h5 := sx_eqp_ok hd h5
      have h6 := sx_ge_ok hd h6
      rw [sx_ev_pk] at h3 h4 h5 h6
      intro j
      rw [hg j, h3, h4, h5, sx_up_ok hd x1 j, y1, v2, ← fv]
      by_cases z : sx_ev σ dp ≤ j ∧ (j : Int) < sx_ev σ dp + sx_ev σ n
      · rw [if_pos z]
        by_cases w : (j : Int) = sx_ev σ dp
        · rw [if_neg (by omega), if_pos (by omega)]
          exact congrArg _ (by omega)
        · rw [if_pos (by omega)]
          exact congrArg _ (by omega)
      · rw [if_neg z, if_neg (by omega), if_neg (by omega)]
    · simp only [Bool.and_eq_true] at h
      obtain ⟨h1, h2, h3, h4, h5⟩ := h
      have h1 := Nat.eq_of_beq_eq_true h1
      subst h1
      have h2 := sx_eqp_ok hd h2
      have h3 := sx_eqp_ok hd h3
      have h4 := sx_eqp_ok hd h4
      rw [sx_ev_k] at h2
      obtain ⟨q, q1, q2⟩ := sx_any_ok h5
      have hq := hd.2.2.2.2 q q1
      unfold sx_h24b at q2
      split at q2
      · next R' A2 sp2 n2 =>
        simp only [Bool.and_eq_true] at q2
        obtain ⟨⟨r1, r2⟩, r3, r4⟩ := q2
        have r1 := Nat.eq_of_beq_eq_true r1
        have r2 := Nat.eq_of_beq_eq_true r2
        subst r1
        subst r2
        have hq := sx_n24.mp hq
        rw [sx_eqp_ok hd r3, sx_eqp_ok hd r4] at hq
        intro j
        rw [hg j, h2, h3, h4]
        by_cases z : sx_ev σ dp ≤ j ∧ (j : Int) < sx_ev σ dp + sx_ev σ n
        · rw [if_pos z, if_pos z]
          have w := hq (0 + ((j : Int) - sx_ev σ dp)).toNat (by omega)
          rw [w]
          exact congrArg _ (by omega)
        · rw [if_neg z, if_neg z]
      · cases q2
  · cases h
theorem sx_h24_ok {R C : Nat} {sp k : sx_E} {g : sx_F} (hd : sx_d P sx_TGm σ φ D) (hg : sx_fk sx_TGm σ φ g) (h : sx_h24 P D R C sp k g = true) : sx_fk sx_TGm σ φ (1024, [R, C], [sp, k]) := by
  rw [sx_n24]
  unfold sx_h24 at h
  split at h
  · next R0 C' sp' k' =>
    rw [Bool.and_eq_true, Bool.and_eq_true, Bool.or_eq_true] at h
    obtain ⟨⟨k1, k2⟩, h⟩ := h
    have k1 := Nat.eq_of_beq_eq_true k1
    subst k1
    have k2 := sx_eqp_ok hd k2
    have hg := sx_n24.mp hg
    rw [k2] at hg
    rcases h with h | h
    · rw [Bool.and_eq_true] at h
      have h1 := Nat.eq_of_beq_eq_true h.1
      subst h1
      rw [sx_eqp_ok hd h.2] at hg
      exact hg
    · simp only [Bool.and_eq_true] at h
      obtain ⟨h1, h2, h3⟩ := h
      obtain ⟨x, x1, x2⟩ := sx_o_ok h1
      rw [Bool.and_eq_true] at x2
      have y1 := sx_eqp_ok hd x2.1
      obtain ⟨v, v1, v2⟩ := sx_o_ok x2.2
      have v2 := sx_eqp_ok hd v2
      have fv := sx_sel_ok hd v1
      rw [sx_ev_ad] at fv
      have h2 := sx_eqp_ok hd h2
      have h3 := sx_ge_ok hd h3
      rw [sx_ev_pk] at h2
      intro t ht
      rw [sx_up_ok hd x1 t, y1, v2, ← fv]
      by_cases w : t = (sx_ev σ k').toNat
      · rw [if_pos w]
        exact congrArg _ (by omega)
      · rw [if_neg w]
        exact hg t (by omega)
  · cases h
theorem sx_bt_ok {x : sx_E} (hd : sx_d P sx_TGm σ φ D) (h : sx_bt P D x = true) : 0 ≤ sx_ev σ x ∧ sx_ev σ x ≤ 30 := by
  unfold sx_bt at h
  rw [Bool.and_eq_true] at h
  have h1 := sx_ge_ok hd h.1
  have h2 := sx_ge_ok hd h.2
  rw [sx_ev_pk, sx_ev_ng] at h2
  omega
theorem sx_nt_ok {x : sx_E} (hd : sx_d P sx_TGm σ φ D) (h : sx_nt P D x = true) : sx_ev σ x < 0 ∨ 30 < sx_ev σ x := by
  unfold sx_nt at h
  rw [Bool.or_eq_true] at h
  rcases h with h | h
  · have h2 := sx_ge_ok hd h
    rw [sx_ev_pk, sx_ev_ng] at h2
    omega
  · have h2 := sx_ge_ok hd h
    rw [sx_ev_pk] at h2
    omega
theorem tg_ro_iff {C Y : Nat → Int} {b cnt today games : Int} : tg_ro C Y b cnt today games = true ↔ (0 ≤ C b.toNat ∧ C b.toNat < games) ∧ (0 ≤ C (b + 1).toNat ∧ C (b + 1).toNat ≤ 30) ∧ (0 ≤ C (b + 2).toNat ∧ C (b + 2).toNat ≤ 30) ∧ Y (C b.toNat).toNat ≤ today ∧ cnt ≤ 119 := by
  unfold tg_ro
  simp only [Bool.and_eq_true, decide_eq_true_eq]
theorem sx_h30_ok {C Y Z : Nat} {m p came cnt s today games r c : sx_E} {g : sx_F} (hd : sx_d P sx_TGm σ φ D) (hg : sx_fk sx_TGm σ φ g) (h : sx_h30 P D C Y Z m p came cnt s today games r c g = true) : sx_fk sx_TGm σ φ (1030, [C, Y, Z], [m, p, came, cnt, s, today, games, r, c]) := by
  rw [sx_n30]
  unfold sx_h30 at h
  split at h
  · next C' Y' Z' m' p' came' cnt' s' t' g' r' c' =>
    have h0 := (Bool.and_eq_true _ _).mp h
    obtain ⟨a1, a2⟩ := (Bool.and_eq_true _ _).mp h0.1
    obtain ⟨h1, h23⟩ := (Bool.and_eq_true _ _).mp h0.2
    obtain ⟨h2, h3⟩ := (Bool.and_eq_true _ _).mp h23
    rw [Bool.and_eq_true] at a2
    have a1 := Nat.eq_of_beq_eq_true a1
    have b1 := Nat.eq_of_beq_eq_true a2.1
    have b2 := Nat.eq_of_beq_eq_true a2.2
    subst a1
    subst b1
    subst b2
    simp only [Bool.and_eq_true] at h1
    obtain ⟨q1, q2, q3, q4, q5, q6, q7⟩ := h1
    have q1 := sx_eqp_ok hd q1
    have q2 := sx_eqp_ok hd q2
    have q3 := sx_eqp_ok hd q3
    have q4 := sx_eqp_ok hd q4
    have q5 := sx_eqp_ok hd q5
    have q6 := sx_eqp_ok hd q6
    have q7 := sx_eqp_ok hd q7
    rw [sx_ev_pk] at q1 q2
    rw [Bool.and_eq_true] at h2
    have p0 := sx_ge_ok hd h2.1
    obtain ⟨z, z1, z2⟩ := sx_o_ok h2.2
    have z2 := sx_ge_ok hd z2
    rw [sx_ev_sb, sx_ev_pk] at z2
    have fz := sx_sel_ok hd z1
    obtain ⟨gg, gg1, h3⟩ := sx_o_ok h3
    obtain ⟨hh, hh1, h3⟩ := sx_o_ok h3
    obtain ⟨aa, aa1, h3⟩ := sx_o_ok h3
    have fg := sx_sel_ok hd gg1
    have fh := sx_sel_ok hd hh1
    have fa := sx_sel_ok hd aa1
    rw [sx_ev_ad, sx_ev_sc] at fg
    rw [sx_ev_pk, sx_ev_ad, sx_ev_sc] at fh fa
    obtain ⟨g1, g2⟩ := sx_n30.mp hg
    rw [q2, q3, q4, q5, q6, q7] at g2
    refine ⟨by omega, ?_⟩
    rw [show (sx_ev σ m).toNat = (sx_ev σ m').toNat + 1 by omega, g2]
    have e1 : tg_rs (φ C') (φ Y') (φ Z' (sx_ev σ s).toNat) (40 * sx_ev σ s) (sx_ev σ today) (sx_ev σ games) ((sx_ev σ m').toNat + 1) (sx_ev σ p) (sx_ev σ came) (sx_ev σ cnt) = (if sx_ev σ p < 0 ∨ φ Z' (sx_ev σ s).toNat < sx_ev σ p + 3 then (-12, sx_ev σ cnt) else bif tg_ro (φ C') (φ Y') (40 * sx_ev σ s + sx_ev σ p) (sx_ev σ cnt) (sx_ev σ today) (sx_ev σ games) then tg_rs (φ C') (φ Y') (φ Z' (sx_ev σ s).toNat) (40 * sx_ev σ s) (sx_ev σ today) (sx_ev σ games) (sx_ev σ m').toNat (sx_ev σ p + 3) (sx_ev σ came + 1) (sx_ev σ cnt + 1) else tg_rs (φ C') (φ Y') (φ Z' (sx_ev σ s).toNat) (40 * sx_ev σ s) (sx_ev σ today) (sx_ev σ games) (sx_ev σ m').toNat (sx_ev σ p + 3) (sx_ev σ came) (sx_ev σ cnt)) := rfl
    rw [e1, if_neg (by rw [fz]; omega)]
    rw [Bool.or_eq_true] at h3
    rcases h3 with h3 | h3
    · rw [Bool.and_eq_true, Bool.and_eq_true] at h3
      obtain ⟨o1, o2, o3⟩ := h3
      have o2 := sx_eqp_ok hd o2
      have o3 := sx_eqp_ok hd o3
      rw [sx_ev_pk] at o2 o3
      unfold sx_rok at o1
      simp only [Bool.and_eq_true] at o1
      obtain ⟨⟨w1, w2⟩, w3, w4, w5, w6⟩ := o1
      have w1 := sx_ge_ok hd w1
      have w2 := sx_ge_ok hd w2
      rw [sx_ev_pk, sx_ev_sb] at w2
      have w3 := sx_bt_ok hd w3
      have w4 := sx_bt_ok hd w4
      obtain ⟨d, d1, d2⟩ := sx_o_ok w5
      have d2 := sx_ge_ok hd d2
      rw [sx_ev_sb] at d2
      have fd := sx_sel_ok hd d1
      have w6 := sx_ge_ok hd w6
      rw [sx_ev_pk, sx_ev_ng] at w6
      have hro : tg_ro (φ C') (φ Y') (40 * sx_ev σ s + sx_ev σ p) (sx_ev σ cnt) (sx_ev σ today) (sx_ev σ games) = true := by
        rw [tg_ro_iff, fg, fh, fa, fd]
        omega
      rw [hro, o2, o3]
      rfl
    · rw [Bool.and_eq_true, Bool.and_eq_true] at h3
      obtain ⟨o1, o2, o3⟩ := h3
      have o2 := sx_eqp_ok hd o2
      have o3 := sx_eqp_ok hd o3
      have hro : tg_ro (φ C') (φ Y') (40 * sx_ev σ s + sx_ev σ p) (sx_ev σ cnt) (sx_ev σ today) (sx_ev σ games) = false := by
        cases hb : tg_ro (φ C') (φ Y') (40 * sx_ev σ s + sx_ev σ p) (sx_ev σ cnt) (sx_ev σ today) (sx_ev σ games) with
        | false => rfl
        | true =>
          rw [tg_ro_iff, fg, fh, fa] at hb
          exfalso
          unfold sx_rno at o1
          simp only [Bool.or_eq_true] at o1
          rcases o1 with (o1 | o1) | o1 | o1 | o1 | o1
          · have := sx_ge_ok hd o1
            rw [sx_ev_pk, sx_ev_ng] at this
            omega
          · have := sx_ge_ok hd o1
            rw [sx_ev_sb] at this
            omega
          · have := sx_nt_ok hd o1
            omega
          · have := sx_nt_ok hd o1
            omega
          · rw [Bool.and_eq_true] at o1
            obtain ⟨d, d1, d2⟩ := sx_o_ok o1.2
            have d2 := sx_ge_ok hd d2
            rw [sx_ev_pk, sx_ev_sb] at d2
            have fd := sx_sel_ok hd d1
            rw [fd] at hb
            omega
          · have := sx_ge_ok hd o1
            rw [sx_ev_pk] at this
            omega
      rw [hro, o2, o3]
      rfl
  · cases h
theorem sx_hN_ok {f : sx_F} (hd : sx_d P sx_TGm σ φ D) (h : sx_hN P D f = true) : sx_fk sx_TGm σ φ f := by
  unfold sx_hN at h
  split at h
  · next C N M =>
    obtain ⟨g, h1, h2⟩ := sx_any_ok h
    exact sx_h21_ok hd (hd.2.2.2.2 g h1) h2
  · next A B lo hi =>
    rw [Bool.or_eq_true] at h
    rcases h with h | h
    · rw [Bool.and_eq_true] at h
      have h1 := Nat.eq_of_beq_eq_true h.1
      have h2 := sx_ge_ok hd h.2
      rw [sx_ev_sb] at h2
      subst h1
      rw [sx_n22]
      intro j
      rw [if_neg (by omega)]
    · obtain ⟨g, h1, h2⟩ := sx_any_ok h
      exact sx_h22_ok hd (hd.2.2.2.2 g h1) h2
  · next A C B sp dp n =>
    rw [Bool.or_eq_true] at h
    rcases h with h | h
    · rw [Bool.and_eq_true] at h
      have h1 := Nat.eq_of_beq_eq_true h.1
      have h2 := sx_ge_ok hd h.2
      rw [sx_ev_ng] at h2
      subst h1
      rw [sx_n23]
      intro j
      rw [if_neg (by omega)]
    · obtain ⟨g, h1, h2⟩ := sx_any_ok h
      exact sx_h23_ok hd (hd.2.2.2.2 g h1) h2
  · next R C sp k =>
    rw [Bool.or_eq_true] at h
    rcases h with h | h
    · have h2 := sx_ge_ok hd h
      rw [sx_ev_ng] at h2
      rw [sx_n24]
      intro t ht
      omega
    · obtain ⟨g, h1, h2⟩ := sx_any_ok h
      exact sx_h24_ok hd (hd.2.2.2.2 g h1) h2
  · next C Y Z m p came cnt s today games r c =>
    rw [Bool.or_eq_true, Bool.or_eq_true] at h
    rcases h with h | h | h
    · simp only [Bool.and_eq_true] at h
      have e1 := sx_eqp_ok hd h.1
      have e2 := sx_eqp_ok hd h.2.1
      have e3 := sx_eqp_ok hd h.2.2
      rw [sx_ev_k] at e1
      rw [sx_n30, e1, e2, e3]
      exact ⟨Int.le_refl _, rfl⟩
    · simp only [Bool.and_eq_true] at h
      obtain ⟨e1, e2, e3, e4⟩ := h
      have e1 := sx_ge_ok hd e1
      have e3 := sx_eqp_ok hd e3
      have e4 := sx_eqp_ok hd e4
      rw [sx_ev_pk] at e1
      rw [sx_ev_k] at e3
      rw [sx_n30, e3, e4]
      refine ⟨by omega, ?_⟩
      rw [show (sx_ev σ m).toNat = ((sx_ev σ m).toNat - 1) + 1 by omega]
      unfold tg_rs
      rw [if_pos]
      rw [Bool.or_eq_true] at e2
      rcases e2 with e2 | e2
      · have := sx_ge_ok hd e2
        rw [sx_ev_pk, sx_ev_ng] at this
        exact Or.inl (by omega)
      · obtain ⟨z, z1, z2⟩ := sx_o_ok e2
        have := sx_ge_ok hd z2
        rw [sx_ev_pk, sx_ev_sb, sx_ev_pk] at this
        rw [sx_sel_ok hd z1]
        exact Or.inr (by omega)
    · obtain ⟨g, h1, h2⟩ := sx_any_ok h
      exact sx_h30_ok hd (hd.2.2.2.2 g h1) h2
  · next S Z M Y =>
    obtain ⟨g, h1, h2⟩ := sx_any_ok h
    exact sx_h20_ok hd (hd.2.2.2.2 g h1) h2
  · next a b =>
    rw [sx_n7]
    rw [Bool.or_eq_true, Bool.or_eq_true] at h
    rcases h with h | h | h
    · rw [Nat.eq_of_beq_eq_true h]
    · obtain ⟨g, h1, h2⟩ := sx_any_ok h
      have hg := hd.2.2.2.2 g h1
      unfold sx_h7 at h2
      split at h2
      · next a' b' =>
        have hg := sx_n7.mp hg
        simp only [Bool.or_eq_true, Bool.and_eq_true] at h2
        rcases h2 with ⟨z1, z2⟩ | ⟨z1, z2⟩
        · rw [← Nat.eq_of_beq_eq_true z1, ← Nat.eq_of_beq_eq_true z2]
          exact hg
        · rw [← Nat.eq_of_beq_eq_true z1, ← Nat.eq_of_beq_eq_true z2]
          exact hg.symm
      · cases h2
    · exact sx_h7u_ok hd h
  · next x y =>
    rw [sx_n8]
    exact sx_eqp_ok hd h
  · next R F n p d b =>
    rw [Bool.or_eq_true] at h
    rcases h with h | h
    · rw [Bool.and_eq_true] at h
      have e1 := sx_eqp_ok hd h.1
      have e2 := sx_eqp_ok hd h.2
      rw [sx_ev_k] at e1 e2
      rw [sx_n10, e1, e2]
      exact ⟨Int.le_refl _, rfl⟩
    · obtain ⟨g, h1, h2⟩ := sx_any_ok h
      exact sx_h10_ok hd (hd.2.2.2.2 g h1) h2
  · next R C F n p d f l =>
    rw [Bool.or_eq_true] at h
    rcases h with h | h
    · simp only [Bool.and_eq_true] at h
      have e1 := sx_eqp_ok hd h.1
      have e2 := sx_eqp_ok hd h.2.1
      have e3 := sx_eqp_ok hd h.2.2
      rw [sx_ev_k] at e1 e2 e3
      rw [sx_n11, e1, e2, e3]
      exact ⟨Int.le_refl _, rfl, rfl⟩
    · obtain ⟨g, h1, h2⟩ := sx_any_ok h
      exact sx_h11_ok hd (hd.2.2.2.2 g h1) h2
  · next R C F n p d f =>
    obtain ⟨g, h1, h2⟩ := sx_any_ok h
    exact sx_h12_ok hd (hd.2.2.2.2 g h1) h2
  · next A B n x y r =>
    rw [sx_n14]
    rw [Bool.or_eq_true] at h
    rcases h with h | h
    · rw [Bool.and_eq_true, Bool.or_eq_true] at h
      have e1 := sx_eqp_ok hd h.1
      rw [sx_ev_k] at e1
      rw [e1]
      rcases h.2 with z | z
      · have e2 := sx_eqp_ok hd z
        rw [sx_ev_k] at e2
        rw [e2]
        exact ⟨Int.le_refl _, rfl⟩
      · obtain ⟨g, h1, h2⟩ := sx_any_ok z
        exact sx_h140_ok hd (hd.2.2.2.2 g h1) h2
    · rw [Bool.and_eq_true] at h
      have e1 := sx_eqp_ok hd h.1
      rw [sx_ev_k] at e1
      rw [e1]
      obtain ⟨g, h1, h2⟩ := sx_any_ok h.2
      exact sx_h141_ok hd (hd.2.2.2.2 g h1) h2
  · next A B n c r =>
    rw [sx_n15]
    rw [Bool.or_eq_true] at h
    rcases h with h | h
    · rw [Bool.and_eq_true] at h
      have e1 := sx_eqp_ok hd h.1
      rw [sx_ev_k] at e1
      rw [e1]
      obtain ⟨g, h1, h2⟩ := sx_any_ok h.2
      exact sx_h150_ok hd (hd.2.2.2.2 g h1) h2
    · rw [Bool.and_eq_true] at h
      have e1 := sx_eqp_ok hd h.1
      rw [sx_ev_k] at e1
      rw [e1]
      obtain ⟨g, h1, h2⟩ := sx_any_ok h.2
      exact sx_h151_ok hd (hd.2.2.2.2 g h1) h2
  · cases h
end SXTN
