/-! WHICH OF THESE CAN BE SAID -/
def sx_o {α : Type} (o : Option α) (f : α → Bool) : Bool := match o with
  | some a => f a
  | none => false
def sx_h7 (a b : Nat) (g : sx_F) : Bool := match g with
  | (1007, [a', b'], []) => (Nat.beq a' a && Nat.beq b' b) || (Nat.beq a' b && Nat.beq b' a)
  | _ => false
def sx_h7u (P : sx_P) (D : sx_D) (a b : Nat) : Bool := match sx_fru D a, sx_fru D b with
  | some x, some y => Nat.beq x.1 y.1 && (sx_eqp P D x.2.1 y.2.1 && sx_eqp P D x.2.2 y.2.2)
  | _, _ => false
def sx_nzd (P : sx_P) (D : sx_D) (a b : sx_E) : Bool := sx_nzb P D (sx_sb a b)
def sx_h10 (P : sx_P) (D : sx_D) (R F : Nat) (n p d b : sx_E) (g : sx_F) : Bool := match g with
  | (1010, [R', F'], [n', p', d', b']) => (Nat.beq R' R && (Nat.beq F' F && (sx_eqp P D n (sx_pk n' 1) && (sx_eqp P D p' p && sx_eqp P D d' d)))) &&
    ((sx_eqp P D b n' && (sx_o (sx_sel P D R n') (fun v => sx_eqp P D v p) && sx_o (sx_sel P D F n') (fun w => sx_ge P D (sx_sb d w) && (sx_ge P D (sx_pk (sx_ng b') (-1)) || (sx_ge P D b' && sx_o (sx_sel P D F b') (fun u => sx_ge P D (sx_sb w u))))))) ||
     (sx_eqp P D b b' && (sx_o (sx_sel P D R n') (fun v => sx_nzd P D v p) || sx_o (sx_sel P D F n') (fun w => sx_ge P D (sx_pk (sx_sb w d) (-1)) || (sx_ge P D b' && sx_o (sx_sel P D F b') (fun u => sx_ge P D (sx_pk (sx_sb u w) (-1))))))))
  | _ => false
def sx_h11 (P : sx_P) (D : sx_D) (R C F : Nat) (n p d f l : sx_E) (g : sx_F) : Bool := match g with
  | (1011, [R', C', F'], [n', p', d', f', l']) => (Nat.beq R' R && (Nat.beq C' C && (Nat.beq F' F && (sx_eqp P D n (sx_pk n' 1) && (sx_eqp P D p' p && sx_eqp P D d' d))))) &&
    ((sx_o (sx_sel P D R n') (fun v => sx_eqp P D v p) && (sx_o (sx_sel P D C n') (fun c => sx_eqp P D f c) && sx_o (sx_sel P D F n') (fun w => sx_eqp P D l w && (sx_ge P D (sx_sb d w) && sx_ge P D (sx_sb w l'))))) ||
     ((sx_eqp P D f f' && sx_eqp P D l l') && (sx_o (sx_sel P D R n') (fun v => sx_nzd P D v p) || sx_o (sx_sel P D F n') (fun w => sx_ge P D (sx_pk (sx_sb w d) (-1)) || (sx_ge P D (sx_pk (sx_sb l' w) (-1)) && sx_ge P D (sx_pk w 1))))))
  | _ => false
def sx_h12 (P : sx_P) (D : sx_D) (R C F : Nat) (n p d f : sx_E) (g : sx_F) : Bool := match g with
  | (1011, [R', C', F'], [n', p', d', f', _]) => Nat.beq R' R && (Nat.beq C' C && (Nat.beq F' F && (sx_eqp P D n' n && (sx_eqp P D p' p && (sx_eqp P D d' d && sx_eqp P D f f')))))
  | (1010, [R', F'], [n', p', d', b']) => (Nat.beq R' R && (Nat.beq F' F && (sx_eqp P D n' n && (sx_eqp P D p' p && sx_eqp P D d' d)))) && ((sx_ge P D (sx_pk (sx_ng b') (-1)) && sx_eqp P D f (sx_k (-1))) || (sx_ge P D b' && sx_o (sx_sel P D C b') (fun v => sx_eqp P D f v)))
  | _ => false
def sx_h140 (P : sx_P) (D : sx_D) (A B : Nat) (n x y : sx_E) (g : sx_F) : Bool := match g with
  | (1014, [A', B'], [n', x', y', r']) => (Nat.beq A' A && (Nat.beq B' B && (sx_eqp P D x' x && (sx_eqp P D y' y && sx_eqp P D r' (sx_k 0))))) && (sx_eqp P D n n' || (sx_eqp P D n (sx_pk n' 1) && (sx_o (sx_sel P D A n') (fun v => sx_nzd P D v x) || sx_o (sx_sel P D B n') (fun v => sx_nzd P D v y))))
  | _ => false
def sx_h141 (P : sx_P) (D : sx_D) (A B : Nat) (n x y : sx_E) (g : sx_F) : Bool := match g with
  | (2, [A'], [i, v]) => Nat.beq A' A && ((sx_ge P D i && sx_ge P D (sx_pk (sx_sb n i) (-1))) && (sx_eqp P D v x && sx_o (sx_sel P D B i) (fun w => sx_eqp P D w y)))
  | _ => false
def sx_h150 (P : sx_P) (D : sx_D) (A B : Nat) (n c : sx_E) (g : sx_F) : Bool := match g with
  | (1003, [A', B'], [n', c']) => Nat.beq A' A && (Nat.beq B' B && (sx_eqp P D n' n && sx_eqp P D c' c))
  | _ => false
def sx_h151 (P : sx_P) (D : sx_D) (A B : Nat) (n c : sx_E) (g : sx_F) : Bool := match g with
  | (2, [A'], [i, v]) => (Nat.beq A' A || Nat.beq A' B) && ((sx_ge P D i && sx_ge P D (sx_pk (sx_sb n i) (-1))) && sx_eqp P D v c)
  | _ => false
/-- the row a is a0 with one put: where, what -/
def sx_up (D : sx_D) (a0 a : Nat) : Option (sx_E × sx_E) := match sx_fru D a with
  | some x => bif Nat.beq x.1 a0 then some x.2 else none
  | none => none
def sx_z1 (P : sx_P) (D : sx_D) (a0 a : Nat) (i : sx_E) : Bool := Nat.beq a a0 || sx_o (sx_up D a0 a) (fun z => sx_eqp P D z.1 i)
def sx_h20 (P : sx_P) (D : sx_D) (S Z M Y : Nat) (g : sx_F) : Bool := match g with
  | (1020, [S0, Z0, M0, Y0], []) => sx_o (sx_up D S0 S) (fun x => sx_o (sx_up D M0 M) (fun y => (sx_eqp P D x.1 y.1 && sx_eqp P D x.2 (sx_pk y.2 1)) &&
    ((sx_ge P D (sx_pk (sx_ng y.2) (-1)) && (sx_z1 P D Z0 Z y.1 && sx_z1 P D Y0 Y y.1)) || sx_o (sx_up D Z0 Z) (fun z => sx_o (sx_up D Y0 Y) (fun u => sx_eqp P D z.1 y.1 && (sx_eqp P D u.1 y.1 && sx_eqp P D z.2 u.2))))))
  | _ => false
def sx_hN (P : sx_P) (D : sx_D) (f : sx_F) : Bool := match f with
  | (1020, [S, Z, M, Y], []) => sx_any (sx_h20 P D S Z M Y) D.2.2.2.2.1
  | (1007, [a, b], []) => Nat.beq a b || (sx_any (sx_h7 a b) D.2.2.2.2.1 || sx_h7u P D a b)
  | (1008, [], [x, y]) => sx_eqp P D x y
  | (1010, [R, F], [n, p, d, b]) => (sx_eqp P D n (sx_k 0) && sx_eqp P D b (sx_k (-1))) || sx_any (sx_h10 P D R F n p d b) D.2.2.2.2.1
  | (1011, [R, C, F], [n, p, d, f, l]) => (sx_eqp P D n (sx_k 0) && (sx_eqp P D f (sx_k (-1)) && sx_eqp P D l (sx_k (-1)))) || sx_any (sx_h11 P D R C F n p d f l) D.2.2.2.2.1
  | (1012, [R, C, F], [n, p, d, f]) => sx_any (sx_h12 P D R C F n p d f) D.2.2.2.2.1
  | (1014, [A, B], [n, x, y, r]) => (sx_eqp P D r (sx_k 0) && (sx_eqp P D n (sx_k 0) || sx_any (sx_h140 P D A B n x y) D.2.2.2.2.1)) || (sx_eqp P D r (sx_k 1) && sx_any (sx_h141 P D A B n x y) D.2.2.2.2.1)
  | (1015, [A, B], [n, c, r]) => (sx_eqp P D r (sx_k 0) && sx_any (sx_h150 P D A B n c) D.2.2.2.2.1) || (sx_eqp P D r (sx_k 1) && sx_any (sx_h151 P D A B n c) D.2.2.2.2.1)
  | _ => false
section SXTN
variable {P : sx_P} {σ : Nat → Int} {φ : sx_R} {D : sx_D}
theorem sx_o_ok {α : Type} {o : Option α} {f : α → Bool} (h : sx_o o f = true) : ∃ a, o = some a ∧ f a = true := by
  cases o with
  | none => cases h
  | some a => exact ⟨a, rfl, h⟩
theorem sx_nzd_ok {a b : sx_E} (hd : sx_d P sx_TGm σ φ D) (h : sx_nzd P D a b = true) : ¬ sx_ev σ a = sx_ev σ b := by
  have := sx_nzb_ok hd h
  rw [sx_ev_sb] at this
  omega
theorem sx_n7 {a b : Nat} : sx_fk sx_TGm σ φ (1007, [a, b], []) ↔ φ a = φ b := Iff.rfl
theorem sx_n8 {x y : sx_E} : sx_fk sx_TGm σ φ (1008, [], [x, y]) ↔ sx_ev σ x = sx_ev σ y := Iff.rfl
theorem sx_n10 {R F : Nat} {n p d b : sx_E} : sx_fk sx_TGm σ φ (1010, [R, F], [n, p, d, b]) ↔ 0 ≤ sx_ev σ n ∧ sx_ev σ b = tg_bs (φ R) (φ F) (sx_ev σ p) (sx_ev σ d) (sx_ev σ n).toNat := Iff.rfl
theorem sx_n11 {R C F : Nat} {n p d f l : sx_E} : sx_fk sx_TGm σ φ (1011, [R, C, F], [n, p, d, f, l]) ↔ 0 ≤ sx_ev σ n ∧ sx_ev σ f = tg_at (φ C) (tg_bs (φ R) (φ F) (sx_ev σ p) (sx_ev σ d) (sx_ev σ n).toNat) ∧ sx_ev σ l = tg_at (φ F) (tg_bs (φ R) (φ F) (sx_ev σ p) (sx_ev σ d) (sx_ev σ n).toNat) := Iff.rfl
theorem sx_n12 {R C F : Nat} {n p d f : sx_E} : sx_fk sx_TGm σ φ (1012, [R, C, F], [n, p, d, f]) ↔ sx_ev σ f = tg_at (φ C) (tg_bs (φ R) (φ F) (sx_ev σ p) (sx_ev σ d) (sx_ev σ n).toNat) := Iff.rfl
theorem sx_n14 {A B : Nat} {n x y r : sx_E} : sx_fk sx_TGm σ φ (1014, [A, B], [n, x, y, r]) ↔ 0 ≤ sx_ev σ n ∧ sx_ev σ r = tg_ex (φ A) (φ B) (sx_ev σ x) (sx_ev σ y) (sx_ev σ n).toNat := Iff.rfl
theorem sx_n15 {A B : Nat} {n c r : sx_E} : sx_fk sx_TGm σ φ (1015, [A, B], [n, c, r]) ↔ sx_ev σ r = tg_em (φ A) (φ B) (sx_ev σ c) (sx_ev σ n).toNat := Iff.rfl
theorem sx_n2 {A : Nat} {i v : sx_E} : sx_fk sx_TGm σ φ (2, [A], [i, v]) ↔ φ A (sx_ev σ i).toNat = sx_ev σ v := Iff.rfl
theorem sx_h7u_ok {a b : Nat} (hd : sx_d P sx_TGm σ φ D) (h : sx_h7u P D a b = true) : φ a = φ b := by
  unfold sx_h7u at h
  split at h
  · next x y hx hy =>
    simp only [Bool.and_eq_true] at h
    have e1 := Nat.eq_of_beq_eq_true h.1
    have e2 := sx_eqp_ok hd h.2.1
    have e3 := sx_eqp_ok hd h.2.2
    funext j
    rw [sx_fru_ok hd hx j, sx_fru_ok hd hy j, e1, e2, e3]
  · cases h
theorem sx_h10_ok {R F : Nat} {n p d b : sx_E} {g : sx_F} (hd : sx_d P sx_TGm σ φ D) (hg : sx_fk sx_TGm σ φ g) (h : sx_h10 P D R F n p d b g = true) : sx_fk sx_TGm σ φ (1010, [R, F], [n, p, d, b]) := by
  rw [sx_n10]
  unfold sx_h10 at h
  split at h
  · next R' F' n' p' d' b' =>
    rw [Bool.and_eq_true] at h
    obtain ⟨h1, h2⟩ := h
    simp only [Bool.and_eq_true] at h1
    obtain ⟨k1, k2, k3, k4, k5⟩ := h1
    have k1 := Nat.eq_of_beq_eq_true k1
    have k2 := Nat.eq_of_beq_eq_true k2
    subst k1
    subst k2
    have k3 := sx_eqp_ok hd k3
    have k4 := sx_eqp_ok hd k4
    have k5 := sx_eqp_ok hd k5
    rw [sx_ev_pk] at k3
    obtain ⟨g1, g2⟩ := sx_n10.mp hg
    rw [k4, k5] at g2
    refine ⟨by omega, ?_⟩
    rw [show (sx_ev σ n).toNat = (sx_ev σ n').toNat + 1 by omega]
    show _ = (if φ R' (sx_ev σ n').toNat = sx_ev σ p ∧ φ F' (sx_ev σ n').toNat ≤ sx_ev σ d ∧ (tg_bs (φ R') (φ F') (sx_ev σ p) (sx_ev σ d) (sx_ev σ n').toNat < 0 ∨ φ F' (tg_bs (φ R') (φ F') (sx_ev σ p) (sx_ev σ d) (sx_ev σ n').toNat).toNat ≤ φ F' (sx_ev σ n').toNat) then ((sx_ev σ n').toNat : Int) else tg_bs (φ R') (φ F') (sx_ev σ p) (sx_ev σ d) (sx_ev σ n').toNat)
    rw [← g2]
    rw [Bool.or_eq_true] at h2
    rcases h2 with h2 | h2
    · rw [Bool.and_eq_true, Bool.and_eq_true] at h2
      obtain ⟨h3, h4, h5⟩ := h2
      have e1 := sx_eqp_ok hd h3
      obtain ⟨v, v1, v2⟩ := sx_o_ok h4
      obtain ⟨w, w1, w2⟩ := sx_o_ok h5
      have v2 := sx_eqp_ok hd v2
      rw [Bool.and_eq_true, Bool.or_eq_true] at w2
      have w3 := sx_ge_ok hd w2.1
      rw [sx_ev_sb] at w3
      have c3 : sx_ev σ b' < 0 ∨ φ F' (sx_ev σ b').toNat ≤ φ F' (sx_ev σ n').toNat := by
        rcases w2.2 with z | z
        · have := sx_ge_ok hd z
          rw [sx_ev_pk, sx_ev_ng] at this
          exact Or.inl (by omega)
        · rw [Bool.and_eq_true] at z
          obtain ⟨u, u1, u2⟩ := sx_o_ok z.2
          have := sx_ge_ok hd u2
          rw [sx_ev_sb] at this
          refine Or.inr ?_
          rw [sx_sel_ok hd u1, sx_sel_ok hd w1]
          omega
      rw [if_pos ⟨(sx_sel_ok hd v1).trans v2, by rw [sx_sel_ok hd w1]; omega, c3⟩]
      omega
    · rw [Bool.and_eq_true, Bool.or_eq_true] at h2
      have e1 := sx_eqp_ok hd h2.1
      rw [if_neg]
      · exact e1
      · intro ⟨z1, z2, z3⟩
        rcases h2.2 with h4 | h5
        · obtain ⟨v, v1, v2⟩ := sx_o_ok h4
          exact sx_nzd_ok hd v2 ((sx_sel_ok hd v1).symm.trans z1)
        · obtain ⟨w, w1, w2⟩ := sx_o_ok h5
          rw [sx_sel_ok hd w1] at z2 z3
          rw [Bool.or_eq_true] at w2
          rcases w2 with z | z
          · have := sx_ge_ok hd z
            rw [sx_ev_pk, sx_ev_sb] at this
            omega
          · rw [Bool.and_eq_true] at z
            have y1 := sx_ge_ok hd z.1
            obtain ⟨u, u1, u2⟩ := sx_o_ok z.2
            have := sx_ge_ok hd u2
            rw [sx_ev_pk, sx_ev_sb] at this
            rw [sx_sel_ok hd u1] at z3
            omega
  · cases h
theorem sx_h11_ok {R C F : Nat} {n p d f l : sx_E} {g : sx_F} (hd : sx_d P sx_TGm σ φ D) (hg : sx_fk sx_TGm σ φ g) (h : sx_h11 P D R C F n p d f l g = true) : sx_fk sx_TGm σ φ (1011, [R, C, F], [n, p, d, f, l]) := by
  rw [sx_n11]
  unfold sx_h11 at h
  split at h
  · next R' C' F' n' p' d' f' l' =>
    rw [Bool.and_eq_true] at h
    obtain ⟨h1, h2⟩ := h
    simp only [Bool.and_eq_true] at h1
    obtain ⟨k1, k0, k2, k3, k4, k5⟩ := h1
    have k1 := Nat.eq_of_beq_eq_true k1
    have k0 := Nat.eq_of_beq_eq_true k0
    have k2 := Nat.eq_of_beq_eq_true k2
    subst k1
    subst k2
    subst k0
    have k3 := sx_eqp_ok hd k3
    have k4 := sx_eqp_ok hd k4
    have k5 := sx_eqp_ok hd k5
    rw [sx_ev_pk] at k3
    obtain ⟨g1, g2, g3⟩ := sx_n11.mp hg
    rw [k4, k5] at g2 g3
    refine ⟨by omega, ?_⟩
    rw [show (sx_ev σ n).toNat = (sx_ev σ n').toNat + 1 by omega]
    have eb : tg_bs (φ R') (φ F') (sx_ev σ p) (sx_ev σ d) ((sx_ev σ n').toNat + 1) = (if φ R' (sx_ev σ n').toNat = sx_ev σ p ∧ φ F' (sx_ev σ n').toNat ≤ sx_ev σ d ∧ (tg_bs (φ R') (φ F') (sx_ev σ p) (sx_ev σ d) (sx_ev σ n').toNat < 0 ∨ φ F' (tg_bs (φ R') (φ F') (sx_ev σ p) (sx_ev σ d) (sx_ev σ n').toNat).toNat ≤ φ F' (sx_ev σ n').toNat) then ((sx_ev σ n').toNat : Int) else tg_bs (φ R') (φ F') (sx_ev σ p) (sx_ev σ d) (sx_ev σ n').toNat) := rfl
    rw [eb]
    generalize tg_bs (φ R') (φ F') (sx_ev σ p) (sx_ev σ d) (sx_ev σ n').toNat = b at g2 g3 ⊢
    unfold tg_at at g2 g3
    rw [Bool.or_eq_true] at h2
    rcases h2 with h2 | h2
    · rw [Bool.and_eq_true, Bool.and_eq_true] at h2
      obtain ⟨h3, h4, h5⟩ := h2
      obtain ⟨v, v1, v2⟩ := sx_o_ok h3
      obtain ⟨c, c1, c2⟩ := sx_o_ok h4
      obtain ⟨w, w1, w2⟩ := sx_o_ok h5
      have v2 := sx_eqp_ok hd v2
      have c2 := sx_eqp_ok hd c2
      simp only [Bool.and_eq_true] at w2
      have w3 := sx_eqp_ok hd w2.1
      have w4 := sx_ge_ok hd w2.2.1
      have w5 := sx_ge_ok hd w2.2.2
      rw [sx_ev_sb] at w4 w5
      have fw := sx_sel_ok hd w1
      have fc := sx_sel_ok hd c1
      have c3 : b < 0 ∨ φ F' b.toNat ≤ φ F' (sx_ev σ n').toNat := by
        by_cases hb : b < 0
        · exact Or.inl hb
        · rw [if_neg hb] at g3
          refine Or.inr ?_
          rw [← g3, fw]
          omega
      rw [if_pos ⟨(sx_sel_ok hd v1).trans v2, by rw [fw]; omega, c3⟩]
      unfold tg_at
      rw [if_neg (by omega), if_neg (by omega), Int.toNat_natCast]
      rw [fc, fw]
      exact ⟨c2, w3⟩
    · rw [Bool.and_eq_true, Bool.and_eq_true, Bool.or_eq_true] at h2
      obtain ⟨⟨h3, h4⟩, h5⟩ := h2
      have e1 := sx_eqp_ok hd h3
      have e2 := sx_eqp_ok hd h4
      rw [if_neg]
      · unfold tg_at
        exact ⟨e1.trans g2, e2.trans g3⟩
      · intro ⟨z1, z2, z3⟩
        rcases h5 with h6 | h6
        · obtain ⟨v, v1, v2⟩ := sx_o_ok h6
          exact sx_nzd_ok hd v2 ((sx_sel_ok hd v1).symm.trans z1)
        · obtain ⟨w, w1, w2⟩ := sx_o_ok h6
          rw [sx_sel_ok hd w1] at z2 z3
          rw [Bool.or_eq_true] at w2
          rcases w2 with z | z
          · have := sx_ge_ok hd z
            rw [sx_ev_pk, sx_ev_sb] at this
            omega
          · rw [Bool.and_eq_true] at z
            have y1 := sx_ge_ok hd z.1
            have y2 := sx_ge_ok hd z.2
            rw [sx_ev_pk, sx_ev_sb] at y1
            rw [sx_ev_pk] at y2
            by_cases hb : b < 0
            · rw [if_pos hb] at g3
              omega
            · rw [if_neg hb] at g3
              omega
  · cases h
theorem sx_h12_ok {R C F : Nat} {n p d f : sx_E} {g : sx_F} (hd : sx_d P sx_TGm σ φ D) (hg : sx_fk sx_TGm σ φ g) (h : sx_h12 P D R C F n p d f g = true) : sx_fk sx_TGm σ φ (1012, [R, C, F], [n, p, d, f]) := by
  rw [sx_n12]
  unfold sx_h12 at h
  split at h
  · next R' C' F' n' p' d' f' l' =>
    simp only [Bool.and_eq_true] at h
    obtain ⟨k1, k2, k3, k4, k5, k6, k7⟩ := h
    have k1 := Nat.eq_of_beq_eq_true k1
    have k2 := Nat.eq_of_beq_eq_true k2
    have k3 := Nat.eq_of_beq_eq_true k3
    subst k1
    subst k2
    subst k3
    have k4 := sx_eqp_ok hd k4
    have k5 := sx_eqp_ok hd k5
    have k6 := sx_eqp_ok hd k6
    have k7 := sx_eqp_ok hd k7
    obtain ⟨g1, g2, g3⟩ := sx_n11.mp hg
    rw [k4, k5, k6] at g2
    exact k7.trans g2
  · next R' F' n' p' d' b' =>
    rw [Bool.and_eq_true] at h
    obtain ⟨h1, h2⟩ := h
    simp only [Bool.and_eq_true] at h1
    obtain ⟨k1, k2, k4, k5, k6⟩ := h1
    have k1 := Nat.eq_of_beq_eq_true k1
    have k2 := Nat.eq_of_beq_eq_true k2
    subst k1
    subst k2
    have k4 := sx_eqp_ok hd k4
    have k5 := sx_eqp_ok hd k5
    have k6 := sx_eqp_ok hd k6
    obtain ⟨g1, g2⟩ := sx_n10.mp hg
    rw [k4, k5, k6] at g2
    rw [← g2]
    unfold tg_at
    rw [Bool.or_eq_true] at h2
    rcases h2 with h2 | h2
    · rw [Bool.and_eq_true] at h2
      have y1 := sx_ge_ok hd h2.1
      have y2 := sx_eqp_ok hd h2.2
      rw [sx_ev_pk, sx_ev_ng] at y1
      rw [sx_ev_k] at y2
      rw [if_pos (by omega)]
      exact y2
    · rw [Bool.and_eq_true] at h2
      have y1 := sx_ge_ok hd h2.1
      obtain ⟨v, v1, v2⟩ := sx_o_ok h2.2
      rw [if_neg (by omega), sx_sel_ok hd v1]
      exact sx_eqp_ok hd v2
  · cases h
theorem sx_h140_ok {A B : Nat} {n x y : sx_E} {g : sx_F} (hd : sx_d P sx_TGm σ φ D) (hg : sx_fk sx_TGm σ φ g) (h : sx_h140 P D A B n x y g = true) : 0 ≤ sx_ev σ n ∧ (0 : Int) = tg_ex (φ A) (φ B) (sx_ev σ x) (sx_ev σ y) (sx_ev σ n).toNat := by
  unfold sx_h140 at h
  split at h
  · next A' B' n' x' y' r' =>
    rw [Bool.and_eq_true] at h
    obtain ⟨h1, h2⟩ := h
    simp only [Bool.and_eq_true] at h1
    obtain ⟨k1, k2, k4, k5, k6⟩ := h1
    have k1 := Nat.eq_of_beq_eq_true k1
    have k2 := Nat.eq_of_beq_eq_true k2
    subst k1
    subst k2
    have k4 := sx_eqp_ok hd k4
    have k5 := sx_eqp_ok hd k5
    have k6 := sx_eqp_ok hd k6
    rw [sx_ev_k] at k6
    obtain ⟨g1, g2⟩ := sx_n14.mp hg
    rw [k4, k5, k6] at g2
    rw [Bool.or_eq_true] at h2
    rcases h2 with h2 | h2
    · have k3 := sx_eqp_ok hd h2
      rw [k3]
      exact ⟨g1, g2⟩
    rw [Bool.and_eq_true] at h2
    obtain ⟨k3, h2⟩ := h2
    have k3 := sx_eqp_ok hd k3
    rw [sx_ev_pk] at k3
    refine ⟨by omega, ?_⟩
    rw [show (sx_ev σ n).toNat = (sx_ev σ n').toNat + 1 by omega]
    unfold tg_ex
    rw [if_neg]
    · exact g2
    · intro ⟨z1, z2⟩
      rw [Bool.or_eq_true] at h2
      rcases h2 with h2 | h2
      · obtain ⟨v, v1, v2⟩ := sx_o_ok h2
        exact sx_nzd_ok hd v2 ((sx_sel_ok hd v1).symm.trans z1)
      · obtain ⟨v, v1, v2⟩ := sx_o_ok h2
        exact sx_nzd_ok hd v2 ((sx_sel_ok hd v1).symm.trans z2)
  · cases h
theorem sx_h141_ok {A B : Nat} {n x y : sx_E} {g : sx_F} (hd : sx_d P sx_TGm σ φ D) (hg : sx_fk sx_TGm σ φ g) (h : sx_h141 P D A B n x y g = true) : 0 ≤ sx_ev σ n ∧ (1 : Int) = tg_ex (φ A) (φ B) (sx_ev σ x) (sx_ev σ y) (sx_ev σ n).toNat := by
  unfold sx_h141 at h
  split at h
  · next A' i v =>
    simp only [Bool.and_eq_true] at h
    obtain ⟨k1, ⟨k2, k3⟩, k4, k5⟩ := h
    have k1 := Nat.eq_of_beq_eq_true k1
    subst k1
    have k2 := sx_ge_ok hd k2
    have k3 := sx_ge_ok hd k3
    rw [sx_ev_pk, sx_ev_sb] at k3
    have k4 := sx_eqp_ok hd k4
    obtain ⟨w, w1, w2⟩ := sx_o_ok k5
    have w2 := sx_eqp_ok hd w2
    exact ⟨by omega, (tg_ex_1 (i := (sx_ev σ i).toNat) ((sx_n2.mp hg).trans k4) ((sx_sel_ok hd w1).trans w2) (by omega)).symm⟩
  · cases h
theorem sx_h150_ok {A B : Nat} {n c : sx_E} {g : sx_F} (hd : sx_d P sx_TGm σ φ D) (hg : sx_fk sx_TGm σ φ g) (h : sx_h150 P D A B n c g = true) : (0 : Int) = tg_em (φ A) (φ B) (sx_ev σ c) (sx_ev σ n).toNat := by
  unfold sx_h150 at h
  split at h
  · next A' B' n' c' =>
    simp only [Bool.and_eq_true] at h
    obtain ⟨k1, k2, k3, k4⟩ := h
    have k1 := Nat.eq_of_beq_eq_true k1
    have k2 := Nat.eq_of_beq_eq_true k2
    subst k1
    subst k2
    have k3 := sx_eqp_ok hd k3
    have k4 := sx_eqp_ok hd k4
    have g1 := sx_fk3.mp hg
    rw [k3, k4] at g1
    exact (tg_em_0 fun i hi => g1 i (by omega)).symm
  · cases h
theorem sx_h151_ok {A B : Nat} {n c : sx_E} {g : sx_F} (hd : sx_d P sx_TGm σ φ D) (hg : sx_fk sx_TGm σ φ g) (h : sx_h151 P D A B n c g = true) : (1 : Int) = tg_em (φ A) (φ B) (sx_ev σ c) (sx_ev σ n).toNat := by
  unfold sx_h151 at h
  split at h
  · next A' i v =>
    simp only [Bool.and_eq_true, Bool.or_eq_true] at h
    obtain ⟨k1, ⟨k2, k3⟩, k4⟩ := h
    have k2 := sx_ge_ok hd k2
    have k3 := sx_ge_ok hd k3
    rw [sx_ev_pk, sx_ev_sb] at k3
    have k4 := sx_eqp_ok hd k4
    have hv := (sx_n2.mp hg).trans k4
    refine (tg_em_1 (i := (sx_ev σ i).toNat) ?_ (by omega)).symm
    rcases k1 with z | z
    · have z := Nat.eq_of_beq_eq_true z
      subst z
      exact Or.inl hv
    · have z := Nat.eq_of_beq_eq_true z
      subst z
      exact Or.inr hv
  · cases h
theorem sx_n20 {S Z M Y : Nat} : sx_fk sx_TGm σ φ (1020, [S, Z, M, Y], []) ↔ ∀ s : Nat, s < 4 → φ S s = φ M s + 1 ∧ (0 ≤ φ M s → φ Z s = φ Y s) := Iff.rfl
theorem sx_up_ok {a0 a : Nat} {x : sx_E × sx_E} (hd : sx_d P sx_TGm σ φ D) (h : sx_up D a0 a = some x) : ∀ j, φ a j = if j = (sx_ev σ x.1).toNat then sx_ev σ x.2 else φ a0 j := by
  unfold sx_up at h
  split at h
  · next y hy =>
    cases hb : Nat.beq y.1 a0 with
    | false => rw [hb] at h; cases h
    | true =>
      rw [hb] at h
      have h : some y.2 = some x := h
      cases h
      have := sx_fru_ok hd hy
      rw [Nat.eq_of_beq_eq_true hb] at this
      exact this
  · cases h
theorem sx_z1_ok {a0 a : Nat} {i : sx_E} (hd : sx_d P sx_TGm σ φ D) (h : sx_z1 P D a0 a i = true) : ∀ j, ¬ j = (sx_ev σ i).toNat → φ a j = φ a0 j := by
  unfold sx_z1 at h
  rw [Bool.or_eq_true] at h
  intro j hj
  rcases h with h | h
  · rw [Nat.eq_of_beq_eq_true h]
  · obtain ⟨z, z1, z2⟩ := sx_o_ok h
    rw [sx_up_ok hd z1 j, sx_eqp_ok hd z2, if_neg hj]
theorem sx_h20_ok {S Z M Y : Nat} {g : sx_F} (hd : sx_d P sx_TGm σ φ D) (hg : sx_fk sx_TGm σ φ g) (h : sx_h20 P D S Z M Y g = true) : sx_fk sx_TGm σ φ (1020, [S, Z, M, Y], []) := by
  rw [sx_n20]
  unfold sx_h20 at h
  split at h
  · next S0 Z0 M0 Y0 =>
    have hg := sx_n20.mp hg
    obtain ⟨x, x1, h⟩ := sx_o_ok h
    obtain ⟨y, y1, h⟩ := sx_o_ok h
    rw [Bool.and_eq_true, Bool.and_eq_true, Bool.or_eq_true] at h
    obtain ⟨⟨k1, k2⟩, h⟩ := h
    have k1 := sx_eqp_ok hd k1
    have k2 := sx_eqp_ok hd k2
    rw [sx_ev_pk] at k2
    intro s hs
    have fS := sx_up_ok hd x1 s
    have fM := sx_up_ok hd y1 s
    rw [k1] at fS
    have hg := hg s hs
    by_cases hi : s = (sx_ev σ y.1).toNat
    · rw [if_pos hi] at fS fM
      refine ⟨by omega, fun hm => ?_⟩
      rcases h with h | h
      · rw [Bool.and_eq_true] at h
        have := sx_ge_ok hd h.1
        rw [sx_ev_pk, sx_ev_ng] at this
        omega
      · obtain ⟨z, z1, h⟩ := sx_o_ok h
        obtain ⟨u, u1, h⟩ := sx_o_ok h
        simp only [Bool.and_eq_true] at h
        rw [sx_up_ok hd z1 s, sx_up_ok hd u1 s, sx_eqp_ok hd h.1, sx_eqp_ok hd h.2.1, if_pos hi, if_pos hi]
        exact sx_eqp_ok hd h.2.2
    · rw [if_neg hi] at fS fM
      have hzy : φ Z s = φ Z0 s ∧ φ Y s = φ Y0 s := by
        rcases h with h | h
        · simp only [Bool.and_eq_true] at h
          exact ⟨sx_z1_ok hd h.2.1 s hi, sx_z1_ok hd h.2.2 s hi⟩
        · obtain ⟨z, z1, h⟩ := sx_o_ok h
          obtain ⟨u, u1, h⟩ := sx_o_ok h
          simp only [Bool.and_eq_true] at h
          rw [sx_up_ok hd z1 s, sx_up_ok hd u1 s, sx_eqp_ok hd h.1, sx_eqp_ok hd h.2.1, if_neg hi, if_neg hi]
          exact ⟨rfl, rfl⟩
      rw [fS, fM, hzy.1, hzy.2]
      exact hg
  · cases h
theorem sx_hN_ok {f : sx_F} (hd : sx_d P sx_TGm σ φ D) (h : sx_hN P D f = true) : sx_fk sx_TGm σ φ f := by
  unfold sx_hN at h
  split at h
  · next S Z M Y =>
    obtain ⟨g, h1, h2⟩ := sx_any_ok h
    exact sx_h20_ok hd (hd.2.2.2.2 g h1) h2
  · next a b =>
    rw [sx_n7]
    rw [Bool.or_eq_true, Bool.or_eq_true] at h
    rcases h with h | h | h
    · rw [Nat.eq_of_beq_eq_true h]
    · obtain ⟨g, h1, h2⟩ := sx_any_ok h
      have hg := hd.2.2.2.2 g h1
      unfold sx_h7 at h2
      split at h2
      · next a' b' =>
        have hg := sx_n7.mp hg
        simp only [Bool.or_eq_true, Bool.and_eq_true] at h2
        rcases h2 with ⟨z1, z2⟩ | ⟨z1, z2⟩
        · rw [← Nat.eq_of_beq_eq_true z1, ← Nat.eq_of_beq_eq_true z2]
          exact hg
        · rw [← Nat.eq_of_beq_eq_true z1, ← Nat.eq_of_beq_eq_true z2]
          exact hg.symm
      · cases h2
    · exact sx_h7u_ok hd h
  · next x y =>
    rw [sx_n8]
    exact sx_eqp_ok hd h
  · next R F n p d b =>
    rw [Bool.or_eq_true] at h
    rcases h with h | h
    · rw [Bool.and_eq_true] at h
      have e1 := sx_eqp_ok hd h.1
      have e2 := sx_eqp_ok hd h.2
      rw [sx_ev_k] at e1 e2
      rw [sx_n10, e1, e2]
      exact ⟨Int.le_refl _, rfl⟩
    · obtain ⟨g, h1, h2⟩ := sx_any_ok h
      exact sx_h10_ok hd (hd.2.2.2.2 g h1) h2
  · next R C F n p d f l =>
    rw [Bool.or_eq_true] at h
    rcases h with h | h
    · simp only [Bool.and_eq_true] at h
      have e1 := sx_eqp_ok hd h.1
      have e2 := sx_eqp_ok hd h.2.1
      have e3 := sx_eqp_ok hd h.2.2
      rw [sx_ev_k] at e1 e2 e3
      rw [sx_n11, e1, e2, e3]
      exact ⟨Int.le_refl _, rfl, rfl⟩
    · obtain ⟨g, h1, h2⟩ := sx_any_ok h
      exact sx_h11_ok hd (hd.2.2.2.2 g h1) h2
  · next R C F n p d f =>
    obtain ⟨g, h1, h2⟩ := sx_any_ok h
    exact sx_h12_ok hd (hd.2.2.2.2 g h1) h2
  · next A B n x y r =>
    rw [sx_n14]
    rw [Bool.or_eq_true] at h
    rcases h with h | h
    · rw [Bool.and_eq_true, Bool.or_eq_true] at h
      have e1 := sx_eqp_ok hd h.1
      rw [sx_ev_k] at e1
      rw [e1]
      rcases h.2 with z | z
      · have e2 := sx_eqp_ok hd z
        rw [sx_ev_k] at e2
        rw [e2]
        exact ⟨Int.le_refl _, rfl⟩
      · obtain ⟨g, h1, h2⟩ := sx_any_ok z
        exact sx_h140_ok hd (hd.2.2.2.2 g h1) h2
    · rw [Bool.and_eq_true] at h
      have e1 := sx_eqp_ok hd h.1
      rw [sx_ev_k] at e1
      rw [e1]
      obtain ⟨g, h1, h2⟩ := sx_any_ok h.2
      exact sx_h141_ok hd (hd.2.2.2.2 g h1) h2
  · next A B n c r =>
    rw [sx_n15]
    rw [Bool.or_eq_true] at h
    rcases h with h | h
    · rw [Bool.and_eq_true] at h
      have e1 := sx_eqp_ok hd h.1
      rw [sx_ev_k] at e1
      rw [e1]
      obtain ⟨g, h1, h2⟩ := sx_any_ok h.2
      exact sx_h150_ok hd (hd.2.2.2.2 g h1) h2
    · rw [Bool.and_eq_true] at h
      have e1 := sx_eqp_ok hd h.1
      rw [sx_ev_k] at e1
      rw [e1]
      obtain ⟨g, h1, h2⟩ := sx_any_ok h.2
      exact sx_h151_ok hd (hd.2.2.2.2 g h1) h2
  · cases h
end SXTN
