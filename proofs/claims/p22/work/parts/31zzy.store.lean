/-! TEXTS STORED: which of these facts can be said; they hold -/
/-- v stands in place i of row b -/
def sx_pa1 (P : sx_P) (D : sx_D) (b : Nat) (i : sx_E) (g : sx_F) : Option Nat := match g with
  | (1084, [a, b'], [k]) => bif Nat.beq b' b && sx_ge P D (sx_pk (sx_sb k i) (-1)) then some a else none
  | _ => none
def sx_pa (P : sx_P) (D : sx_D) (i v : sx_E) : Nat → Nat → Bool
  | 0, _ => false
  | n + 1, b => sx_o (sx_sel P D b i) (fun x => sx_eqp P D x v) || ((match sx_fru D b with
    | some y => sx_eqp P D y.2.1 i && sx_eqp P D y.2.2 v
    | none => false) || sx_any (sx_pa P D i v n) (tr_fm (sx_pa1 P D b i) D.2.2.2.2.1))
def sx_q88b (P : sx_P) (D : sx_D) (T V C ST EN : Nat) (p S ue b k : sx_E) (h : sx_F) : Bool := match h with
  | (1088, [T', V', C', ST', EN'], [p', f', S', u', ue']) => (sx_eN [T', V', C', ST', EN'] [T, V, C, ST, EN] && (sx_eqp P D p' (sx_pk p 1) && sx_eqp P D f' (sx_pk b 1))) && (sx_eqp P D S' S && (sx_eqp P D u' k && sx_eqp P D ue' ue))
  | _ => false
def sx_q88 (P : sx_P) (D : sx_D) (T V C ST EN : Nat) (p f S u ue : sx_E) (g : sx_F) : Bool := match g with
  | (1062, [T', V', Ca], [w, j, o, f', r, b, u', k]) => ((Nat.beq T' T && Nat.beq V' V) && ((sx_eqp P D w (sx_k 0) && (sx_eqp P D o (sx_k 0) && sx_eqp P D f' (sx_pk f 1))) && (sx_eqp P D r (sx_k 1) && sx_eqp P D u' u))) && ((sx_isT (sx_kC P D T b (sx_k 59)) && sx_frm P D Ca C k) &&
    ((sx_pa P D (sx_ad (sx_sc 4 S) p) u 6 ST && sx_pa P D (sx_ad (sx_sc 4 S) p) k 6 EN) && sx_any (sx_q88b P D T V C ST EN p S ue b k) D.2.2.2.2.1))
  | _ => false
def sx_h88 (P : sx_P) (D : sx_D) (T V C ST EN : Nat) (p f S u ue : sx_E) : Bool := (sx_ge P D f && (sx_ge P D S && sx_ge P D u)) && ((sx_eqp P D p (sx_k 4) && sx_eqp P D u ue) || ((sx_ge P D p && sx_ge P D (sx_pk (sx_ng p) 3)) && (sx_isT (sx_kC P D T f (sx_pk p 262)) && sx_any (sx_q88 P D T V C ST EN p f S u ue) D.2.2.2.2.1)))
def sx_q86b (P : sx_P) (D : sx_D) (R A W PE : Nat) (n p S le b k : sx_E) (h : sx_F) : Bool := match h with
  | (1086, [R', A', W', PE'], [n', p', f', S', l', le']) => (sx_eN [R', A', W', PE'] [R, A, W, PE] && (sx_eqp P D n' n && (sx_eqp P D p' (sx_pk p 1) && sx_xR P D R n b f'))) && ((sx_eqp P D S' S && sx_eqp P D (sx_ad (sx_sc 170 S) l') k) && (sx_eqp P D le' le && sx_pa P D (sx_ad (sx_sc 4 S) p) l' 6 PE))
  | _ => false
def sx_q86 (P : sx_P) (D : sx_D) (R A W PE : Nat) (n p f S l le : sx_E) (g : sx_F) : Bool := match g with
  | (1063, [R', Aa, Wa], [n', w, j, o, f', r, b, u', k]) => ((Nat.beq R' R && sx_eqp P D n' n) && ((sx_eqp P D w (sx_k 0) && (sx_eqp P D o (sx_k 0) && sx_xR P D R n f f')) && (sx_eqp P D r (sx_k 1) && sx_eqp P D u' (sx_ad (sx_sc 170 S) l)))) && ((sx_isT (sx_kR P D R n b (sx_k 59)) && (sx_frm P D Aa A k && sx_frm P D Wa W k)) && sx_any (sx_q86b P D R A W PE n p S le b k) D.2.2.2.2.1)
  | _ => false
def sx_h86 (P : sx_P) (D : sx_D) (R A W PE : Nat) (n p f S l le : sx_E) : Bool := (sx_ge P D f && (sx_ge P D S && sx_ge P D l)) && ((sx_eqp P D p (sx_k 4) && sx_eqp P D l le) || ((sx_ge P D p && sx_ge P D (sx_pk (sx_ng p) 3)) && (sx_isT (sx_kR P D R n f (sx_pk p 262)) && sx_any (sx_q86 P D R A W PE n p f S l le) D.2.2.2.2.1)))
def sx_q82c (P : sx_P) (D : sx_D) (C T V : Nat) (n m : sx_E) (z : sx_F) : Bool := match z with
  | (1098, [C', T', V'], [n', m']) => (Nat.beq C' C && (Nat.beq T' T && Nat.beq V' V)) && (sx_eqp P D n' n && sx_eqp P D m' m)
  | _ => false
def sx_q82b (P : sx_P) (D : sx_D) (C T V : Nat) (n : sx_E) (h : sx_F) : Bool := match h with
  | (1050, [C', T', _], [n', m]) => (Nat.beq C' C && (Nat.beq T' T && sx_eqp P D n' n)) && ((sx_ge P D (sx_pk m (-1)) && sx_o (sx_sel P D T (sx_pk m (-1))) (fun q => sx_ge P D q && sx_ge P D (sx_pk (sx_ng q) 1))) && sx_any (sx_q82c P D C T V n m) D.2.2.2.2.1)
  | _ => false
def sx_q82 (P : sx_P) (D : sx_D) (C C1 ST EN : Nat) (n S x : sx_E) (g : sx_F) : Bool := match g with
  | (1088, [T, V, C', ST', EN'], [p, f, S', u, ue]) => (sx_eN [C', ST', EN'] [C1, ST, EN] && (sx_eqp P D p (sx_k 0) && (sx_eqp P D f (sx_k 0) && (sx_eqp P D S' S && sx_eqp P D u x)))) && (sx_ge P D (sx_sb (sx_k 160) (sx_sb ue x)) && sx_any (sx_q82b P D C T V n) D.2.2.2.2.1)
  | _ => false
def sx_h82 (P : sx_P) (D : sx_D) (C C1 ST EN E0 : Nat) (n S : sx_E) : Bool := sx_o (sx_sel P D E0 (sx_pk (sx_sc 4 S) (-1))) (fun x => (sx_ge P D x && sx_ge P D S) && sx_any (sx_q82 P D C C1 ST EN n S x) D.2.2.2.2.1)
def sx_h83 (P : sx_P) (D : sx_D) (R A W PE : Nat) (n S : sx_E) (g : sx_F) : Bool := match g with
  | (1086, [R', A', W', PE'], [n', p, f, S', l, le]) => (sx_eN [R', A', W', PE'] [R, A, W, PE] && (sx_eqp P D n' n && (sx_eqp P D p (sx_k 0) && sx_eqp P D S' S))) && (sx_eqp P D l (sx_k 0) && sx_r41 P D R 0 n (sx_k 0) f)
  | _ => false
def sx_h89 (P : sx_P) (D : sx_D) (a : Nat) (S : sx_E) (g : sx_F) : Bool := match g with
  | (1089, [a'], [S']) => sx_eqp P D S' S && sx_frm P D a' a (sx_sc 4 S')
  | (1081, [_, _, e, _, _, _], [S']) => Nat.beq e a && sx_eqp P D S' S
  | _ => false
def sx_h99 (P : sx_P) (D : sx_D) (ST EN : Nat) (S : sx_E) (g : sx_F) : Bool := match g with
  | (1081, [_, s, e, _, _, _], [S']) => (Nat.beq s ST && Nat.beq e EN) && (sx_eqp P D S' S && sx_ge P D (sx_pk (sx_ng S) 6))
  | _ => false
def sx_h02 (P : sx_P) (D : sx_D) (PE : Nat) (S : sx_E) (g : sx_F) : Bool := match g with
  | (1081, [_, _, _, _, _, p], [S']) => Nat.beq p PE && sx_eqp P D S' S
  | _ => false
/-! all texts are alike, one more -/
def sx_q81a (P : sx_P) (D : sx_D) (a b e : Nat) (S : sx_E) (g : sx_F) : Bool := match g with
  | (1085, [a', b', e'], [S']) => (Nat.beq a' a && (Nat.beq b' b && Nat.beq e' e)) && sx_eqp P D S' S
  | _ => false
def sx_q81c (P : sx_P) (D : sx_D) (C A W PE : Nat) (n S : sx_E) (g : sx_F) : Bool := match g with
  | (1083, [R, A', W', PE'], [n', S']) => (sx_eN [A', W', PE'] [A, W, PE] && (sx_eqp P D n' n && sx_eqp P D S' S)) && sx_any (sx_l40 C R) D.2.2.2.2.1
  | _ => false
def sx_q81b (P : sx_P) (D : sx_D) (C ST EN E0 A W PE : Nat) (S : sx_E) (g : sx_F) : Bool := match g with
  | (1082, [Cq, C', ST', EN', E0'], [n, S']) => (sx_eN [C', ST', EN', E0'] [C, ST, EN, E0] && sx_eqp P D S' S) && sx_any (sx_q81c P D Cq A W PE n S) D.2.2.2.2.1
  | _ => false
def sx_h81 (P : sx_P) (D : sx_D) (C ST EN A W PE : Nat) (S : sx_E) (g : sx_F) : Bool := match g with
  | (1081, [C0, ST0, EN0, A0, W0, PE0], [S0]) => (((sx_frm P D ST0 ST (sx_sc 4 S0) && sx_frm P D EN0 EN (sx_sc 4 S0)) && (sx_frm P D A0 A (sx_sc 170 S0) && sx_frm P D W0 W (sx_sc 170 S0))) && (sx_frm P D PE0 PE (sx_sc 4 S0) && (Nat.beq C0 C || sx_any (sx_q81a P D C0 C EN0 S0) D.2.2.2.2.1))) &&
    (sx_eqp P D S S0 || (sx_eqp P D S (sx_pk S0 1) && sx_any (sx_q81b P D C ST EN EN0 A W PE S0) D.2.2.2.2.1))
  | _ => false
section SXST
variable {P : sx_P} {σ : Nat → Int} {φ : sx_R} {D : sx_D}
theorem sx_n81 {C ST EN A W PE : Nat} {S : sx_E} : sx_fk sx_TGm σ φ (1081, [C, ST, EN, A, W, PE], [S]) ↔ tr_rel (φ C) (φ ST) (φ EN) (φ A) (φ W) (φ PE) (sx_ev σ S) := Iff.rfl
theorem sx_n82 {C C1 ST EN E0 : Nat} {n S : sx_E} : sx_fk sx_TGm σ φ (1082, [C, C1, ST, EN, E0], [n, S]) ↔ 0 ≤ sx_ev σ S ∧ 0 ≤ φ E0 (4 * sx_ev σ S - 1).toNat ∧ ∃ ue : Nat, (ue : Int) ≤ φ E0 (4 * sx_ev σ S - 1).toNat + 160 ∧ tr_tx (tr_kd (φ C) (sx_ev σ n).toNat) (tr_vl (φ C) (sx_ev σ n).toNat) (tr_nx (φ C) (sx_ev σ n).toNat) (tr_sC (φ ST) (φ EN) (sx_ev σ S).toNat) (tr_ec (φ C1)) 4 0 (tr_e 0 (φ C) (sx_ev σ n).toNat 0) (φ E0 (4 * sx_ev σ S - 1).toNat).toNat ue := Iff.rfl
theorem sx_n83 {R A W PE : Nat} {n S : sx_E} : sx_fk sx_TGm σ φ (1083, [R, A, W, PE], [n, S]) ↔ 0 ≤ sx_ev σ S ∧ ∃ le : Nat, tr_tx (tr_kd (φ R) (sx_ev σ n).toNat) (tr_vl (φ R) (sx_ev σ n).toNat) (tr_nx (φ R) (sx_ev σ n).toNat) (tr_sR (φ PE) (sx_ev σ S).toNat) (tr_sh (φ A) (φ W) (sx_ev σ S).toNat) 4 0 (tr_e 0 (φ R) (sx_ev σ n).toNat 0) 0 le := Iff.rfl
theorem sx_n85 {a b e : Nat} {S : sx_E} : sx_fk sx_TGm σ φ (1085, [a, b, e], [S]) ↔ ∀ i : Nat, (i : Int) < φ e (4 * sx_ev σ S - 1).toNat → φ b i = φ a i := Iff.rfl
theorem sx_n86 {R A W PE : Nat} {n p f S l le : sx_E} : sx_fk sx_TGm σ φ (1086, [R, A, W, PE], [n, p, f, S, l, le]) ↔ 0 ≤ sx_ev σ p ∧ sx_ev σ p ≤ 4 ∧ 0 ≤ sx_ev σ f ∧ 0 ≤ sx_ev σ S ∧ 0 ≤ sx_ev σ l ∧ 0 ≤ sx_ev σ le ∧ tr_tx (tr_kd (φ R) (sx_ev σ n).toNat) (tr_vl (φ R) (sx_ev σ n).toNat) (tr_nx (φ R) (sx_ev σ n).toNat) (tr_sR (φ PE) (sx_ev σ S).toNat) (tr_sh (φ A) (φ W) (sx_ev σ S).toNat) (4 - sx_ev σ p).toNat (sx_ev σ p) (sx_ev σ f).toNat (sx_ev σ l).toNat (sx_ev σ le).toNat := Iff.rfl
theorem sx_n88 {T V C ST EN : Nat} {p f S u ue : sx_E} : sx_fk sx_TGm σ φ (1088, [T, V, C, ST, EN], [p, f, S, u, ue]) ↔ 0 ≤ sx_ev σ p ∧ sx_ev σ p ≤ 4 ∧ 0 ≤ sx_ev σ f ∧ 0 ≤ sx_ev σ S ∧ 0 ≤ sx_ev σ u ∧ 0 ≤ sx_ev σ ue ∧ tr_tx (φ T) (φ V) (fun i => i + 1) (tr_sC (φ ST) (φ EN) (sx_ev σ S).toNat) (tr_ec (φ C)) (4 - sx_ev σ p).toNat (sx_ev σ p) (sx_ev σ f).toNat (sx_ev σ u).toNat (sx_ev σ ue).toNat := Iff.rfl
theorem sx_n89 {e : Nat} {S : sx_E} : sx_fk sx_TGm σ φ (1089, [e], [S]) ↔ 0 ≤ φ e (4 * sx_ev σ S - 1).toNat ∧ φ e (4 * sx_ev σ S - 1).toNat ≤ 160 * sx_ev σ S := Iff.rfl
theorem sx_n99 {ST EN : Nat} {S : sx_E} : sx_fk sx_TGm σ φ (1099, [ST, EN], [S]) ↔ ∀ i : Nat, (i : Int) < 4 * sx_ev σ S → 0 ≤ φ ST i ∧ φ ST i ≤ φ EN i ∧ φ EN i - φ ST i ≤ 160 ∧ φ EN i ≤ 960 := Iff.rfl
theorem sx_n02 {PE : Nat} {S : sx_E} : sx_fk sx_TGm σ φ (1102, [PE], [S]) ↔ ∀ t p : Nat, (t : Int) < sx_ev σ S → 1 ≤ p → p < 4 → 0 ≤ φ PE (4 * t + p - 1) ∧ φ PE (4 * t + p - 1) ≤ φ PE (4 * t + p) := Iff.rfl
theorem sx_pa_ok {i v : sx_E} (hd : sx_d P sx_TGm σ φ D) (hi : 0 ≤ sx_ev σ i) : ∀ {n b : Nat}, sx_pa P D i v n b = true → φ b (sx_ev σ i).toNat = sx_ev σ v
  | 0, b, h => by
    have h : false = true := h
    cases h
  | n + 1, b, h => by
    unfold sx_pa at h
    rw [Bool.or_eq_true, Bool.or_eq_true] at h
    rcases h with h | h | h
    · obtain ⟨x, x1, x2⟩ := sx_o_ok h
      rw [sx_sel_ok hd x1]
      exact sx_eqp_ok hd x2
    · split at h
      · next y hy =>
        rw [Bool.and_eq_true] at h
        rw [sx_fru_ok hd hy, sx_eqp_ok hd h.1, if_pos rfl]
        exact sx_eqp_ok hd h.2
      · cases h
    · obtain ⟨c, h1, h2⟩ := sx_any_ok h
      obtain ⟨g, h3, h4⟩ := tr_fm_ok h1
      have hg := hd.2.2.2.2 g h3
      unfold sx_pa1 at h4
      split at h4
      · next a' b' k' =>
        cases c1 : (Nat.beq b' b && sx_ge P D (sx_pk (sx_sb k' i) (-1))) with
        | false =>
          rw [c1] at h4
          have h4 : none = some c := h4
          cases h4
        | true =>
          rw [c1] at h4
          have h4 : some a' = some c := h4
          cases h4
          rw [Bool.and_eq_true] at c1
          have hg := sx_n84.mp hg
          have e1 := sx_ge_ok hd c1.2
          rw [sx_ev_pk, sx_ev_sb] at e1
          rw [← Nat.eq_of_beq_eq_true c1.1, hg _ (by omega)]
          exact sx_pa_ok hd hi h2
      · cases h4
theorem sx_h88_ok {T V C ST EN : Nat} {p f S u ue : sx_E} (hd : sx_d P sx_TGm σ φ D) (h : sx_h88 P D T V C ST EN p f S u ue = true) : sx_fk sx_TGm σ φ (1088, [T, V, C, ST, EN], [p, f, S, u, ue]) := by
  rw [sx_n88]
  unfold sx_h88 at h
  rw [Bool.and_eq_true, Bool.and_eq_true, Bool.and_eq_true] at h
  obtain ⟨⟨k1, k2, k3⟩, h⟩ := h
  have ef := sx_ge_ok hd k1
  have eS := sx_ge_ok hd k2
  have eu := sx_ge_ok hd k3
  rw [Bool.or_eq_true] at h
  rcases h with h | h
  · rw [Bool.and_eq_true] at h
    have e1 := (sx_eqp_ok hd h.1).trans sx_ev_k
    have e2 := sx_eqp_ok hd h.2
    refine ⟨by omega, by omega, ef, eS, eu, by omega, ?_⟩
    rw [e1]
    show (sx_ev σ ue).toNat = (sx_ev σ u).toNat
    rw [e2]
  · rw [Bool.and_eq_true, Bool.and_eq_true, Bool.and_eq_true] at h
    obtain ⟨⟨k4, k5⟩, k6, h⟩ := h
    have p1 := sx_ge_ok hd k4
    have p2 := sx_ge_ok hd k5
    rw [sx_ev_pk, sx_ev_ng] at p2
    have hT := (sx_kC_ok hd (sx_isT_ok k6)).1 rfl
    rw [sx_ev_pk] at hT
    obtain ⟨g, hg, hx⟩ := sx_any_ok h
    have hG := hd.2.2.2.2 g hg
    unfold sx_q88 at hx
    split at hx
    · next T' V' Ca w j o f' r b u' k =>
      simp only [Bool.and_eq_true] at hx
      obtain ⟨⟨x1, ⟨y1, y2, y3⟩, y4, y5⟩, ⟨x3, x4⟩, ⟨x5, x6⟩, x7⟩ := hx
      have hG := sx_n62.mp hG
      rw [Nat.eq_of_beq_eq_true x1.1, Nat.eq_of_beq_eq_true x1.2, (sx_eqp_ok hd y1).trans sx_ev_k, (sx_eqp_ok hd y2).trans sx_ev_k, (sx_eqp_ok hd y3).trans sx_ev_pk, sx_eqp_ok hd y5] at hG
      obtain ⟨g1, g2, g3, m, L, g4, g5, g6⟩ := hG ((sx_eqp_ok hd y4).trans sx_ev_k)
      rw [tr_nj0 (by omega) (by omega)] at g4
      have h59 := (sx_kC_ok hd (sx_isT_ok x3)).1 rfl
      rw [sx_ev_k] at h59
      have hfr := sx_frm_ok hd x4
      have hq : sx_ev σ (sx_ad (sx_sc 4 S) p) = 4 * sx_ev σ S + sx_ev σ p := by rw [sx_ev_ad, sx_ev_sc]
      have s1 := sx_pa_ok hd (by rw [hq]; omega) x5
      have s2 := sx_pa_ok hd (by rw [hq]; omega) x6
      rw [hq] at s1 s2
      obtain ⟨h', hh, hy⟩ := sx_any_ok x7
      have hH := hd.2.2.2.2 h' hh
      unfold sx_q88b at hy
      split at hy
      · next T2 V2 C2 ST2 EN2 p2' f2 S2 u2 ue2 =>
        simp only [Bool.and_eq_true] at hy
        obtain ⟨⟨z1, z2, z3⟩, z4, z5, z6⟩ := hy
        have z1 := sx_eN_eq z1
        simp only [List.cons.injEq, and_true] at z1
        obtain ⟨rfl, rfl, rfl, rfl, rfl⟩ := z1
        have hH := sx_n88.mp hH
        rw [(sx_eqp_ok hd z2).trans sx_ev_pk, (sx_eqp_ok hd z3).trans sx_ev_pk, sx_eqp_ok hd z4, sx_eqp_ok hd z5, sx_eqp_ok hd z6] at hH
        obtain ⟨-, -, -, -, -, f6, f7⟩ := hH
        refine ⟨p1, by omega, ef, eS, eu, f6, ?_⟩
        rw [show (4 - sx_ev σ p).toNat = (4 - (sx_ev σ p + 1)).toNat + 1 by omega]
        refine ⟨m, (sx_ev σ b).toNat, L, by omega, ?_, h59, ⟨?_, ?_⟩, ?_, ?_⟩
        · have en : (fun i : Nat => i + 1) (sx_ev σ f).toNat = (sx_ev σ f + 1).toNat := by
            show (sx_ev σ f).toNat + 1 = _
            omega
          rw [en]
          exact g4
        · rw [show 4 * (sx_ev σ S).toNat + (sx_ev σ p).toNat = (4 * sx_ev σ S + sx_ev σ p).toNat by omega, s1]
          omega
        · rw [show 4 * (sx_ev σ S).toNat + (sx_ev σ p).toNat = (4 * sx_ev σ S + sx_ev σ p).toNat by omega, s2]
          omega
        · exact tr_sw_cg (fun c i q1 q2 q3 => (hfr i (by omega)).trans q3) g6
        · have en : (fun i : Nat => i + 1) (sx_ev σ b).toNat = (sx_ev σ b + 1).toNat := by
            show (sx_ev σ b).toNat + 1 = _
            omega
          rw [en, show (sx_ev σ u).toNat + L.length = (sx_ev σ k).toNat by omega]
          exact f7
      · cases hy
    · cases hx
theorem sx_h86_ok {R A W PE : Nat} {n p f S l le : sx_E} (hd : sx_d P sx_TGm σ φ D) (h : sx_h86 P D R A W PE n p f S l le = true) : sx_fk sx_TGm σ φ (1086, [R, A, W, PE], [n, p, f, S, l, le]) := by
  rw [sx_n86]
  unfold sx_h86 at h
  rw [Bool.and_eq_true, Bool.and_eq_true, Bool.and_eq_true] at h
  obtain ⟨⟨k1, k2, k3⟩, h⟩ := h
  have ef := sx_ge_ok hd k1
  have eS := sx_ge_ok hd k2
  have eu := sx_ge_ok hd k3
  rw [Bool.or_eq_true] at h
  rcases h with h | h
  · rw [Bool.and_eq_true] at h
    have e1 := (sx_eqp_ok hd h.1).trans sx_ev_k
    have e2 := sx_eqp_ok hd h.2
    refine ⟨by omega, by omega, ef, eS, eu, by omega, ?_⟩
    rw [e1]
    show (sx_ev σ le).toNat = (sx_ev σ l).toNat
    rw [e2]
  · rw [Bool.and_eq_true, Bool.and_eq_true, Bool.and_eq_true] at h
    obtain ⟨⟨k4, k5⟩, k6, h⟩ := h
    have p1 := sx_ge_ok hd k4
    have p2 := sx_ge_ok hd k5
    rw [sx_ev_pk, sx_ev_ng] at p2
    have hT := (sx_kR_ok hd (sx_isT_ok k6)).1 rfl
    rw [sx_ev_pk] at hT
    obtain ⟨g, hg, hx⟩ := sx_any_ok h
    have hG := hd.2.2.2.2 g hg
    unfold sx_q86 at hx
    split at hx
    · next R' Aa Wa n' w j o f' r b u' k =>
      simp only [Bool.and_eq_true] at hx
      obtain ⟨⟨⟨x1, x2⟩, ⟨y1, y2, y3⟩, y4, y5⟩, ⟨x3, x4, x5⟩, x7⟩ := hx
      have hG := sx_n63.mp hG
      rw [Nat.eq_of_beq_eq_true x1, sx_eqp_ok hd x2, (sx_eqp_ok hd y1).trans sx_ev_k, (sx_eqp_ok hd y2).trans sx_ev_k, sx_eqp_ok hd y5, sx_ev_ad, sx_ev_sc] at hG
      obtain ⟨g1, g2, g3, m, L, g4, g5, g6⟩ := hG ((sx_eqp_ok hd y4).trans sx_ev_k)
      rw [tr_nj0 (by omega) (by omega), sx_xR_ok hd y3, tr_nn] at g4
      have h59 := (sx_kR_ok hd (sx_isT_ok x3)).1 rfl
      rw [sx_ev_k] at h59
      have hfa := sx_frm_ok hd x4
      have hfw := sx_frm_ok hd x5
      have hq : sx_ev σ (sx_ad (sx_sc 4 S) p) = 4 * sx_ev σ S + sx_ev σ p := by rw [sx_ev_ad, sx_ev_sc]
      obtain ⟨h', hh, hy⟩ := sx_any_ok x7
      have hH := hd.2.2.2.2 h' hh
      unfold sx_q86b at hy
      split at hy
      · next R2 A2 W2 PE2 n2 p2' f2 S2 l2 le2 =>
        simp only [Bool.and_eq_true] at hy
        obtain ⟨⟨z1, z2, z3, z4⟩, ⟨z5, z6⟩, z7, z8⟩ := hy
        have z1 := sx_eN_eq z1
        simp only [List.cons.injEq, and_true] at z1
        obtain ⟨rfl, rfl, rfl, rfl⟩ := z1
        have hH := sx_n86.mp hH
        have e6 := sx_eqp_ok hd z6
        rw [sx_ev_ad, sx_ev_sc] at e6
        rw [sx_eqp_ok hd z2, (sx_eqp_ok hd z3).trans sx_ev_pk, sx_xR_ok hd z4, tr_nn, sx_eqp_ok hd z5, sx_eqp_ok hd z7] at hH
        obtain ⟨-, -, -, -, f5, f6, f7⟩ := hH
        have s2 := sx_pa_ok hd (by rw [hq]; omega) z8
        rw [hq] at s2
        refine ⟨p1, by omega, ef, eS, eu, f6, ?_⟩
        rw [show (4 - sx_ev σ p).toNat = (4 - (sx_ev σ p + 1)).toNat + 1 by omega]
        have hl : (sx_ev σ l).toNat + L.length = (sx_ev σ l2).toNat := by omega
        refine ⟨m, (sx_ev σ b).toNat, L, by omega, g4, h59, ?_, ?_, ?_⟩
        · show φ PE2 (4 * (sx_ev σ S).toNat + (sx_ev σ p).toNat) = (((sx_ev σ l).toNat + L.length : Nat) : Int)
          rw [show 4 * (sx_ev σ S).toNat + (sx_ev σ p).toNat = (4 * sx_ev σ S + sx_ev σ p).toNat by omega, s2, hl]
          omega
        · have hs : ∀ {K : List Int} {i : Nat}, tr_sw (tr_er (φ Aa) (φ Wa)) (170 * (sx_ev σ S).toNat + i) K → (170 * (sx_ev σ S).toNat + i + K.length : Nat) ≤ (sx_ev σ k).toNat → tr_sw (tr_sh (φ A2) (φ W2) (sx_ev σ S).toNat) i K := by
            intro K
            induction K with
            | nil => intro i _ _; exact trivial
            | cons c K ih =>
              intro i hs hl
              have hl : 170 * (sx_ev σ S).toNat + i + (K.length + 1) ≤ (sx_ev σ k).toNat := hl
              refine ⟨?_, ih (i := i + 1) hs.2 (by omega)⟩
              show tr_it c (φ A2 (170 * (sx_ev σ S).toNat + i)) (φ W2 (170 * (sx_ev σ S).toNat + i))
              rw [hfa _ (by omega), hfw _ (by omega)]
              exact hs.1
          refine hs (i := (sx_ev σ l).toNat) ?_ (by omega)
          rw [show 170 * (sx_ev σ S).toNat + (sx_ev σ l).toNat = (170 * sx_ev σ S + sx_ev σ l).toNat by omega]
          exact g6
        · rw [hl]
          exact f7
      · cases hy
    · cases hx
/-- parts over other tokens that are alike -/
theorem tr_tx_hm {T V T' V' : Nat → Int} {nx nx' pc : Nat → Nat} {I : Nat → Prop} {st : Int → Nat → Nat → Prop} {E : Int → Nat → Prop} (h1 : ∀ k, I k → T k = T' (pc k)) (hV : ∀ k, I k → T k = 2 → V k = V' (pc k)) (h2 : ∀ k, I k → 2 ≤ T k → I (nx k) ∧ pc (nx k) = nx' (pc k)) : ∀ {c : Nat} {p : Int} {f u ue : Nat}, 0 ≤ p → I f → tr_tx T V nx st E c p f u ue → tr_tx T' V' nx' st E c p (pc f) u ue
  | 0, _, _, _, _, _, _, h => h
  | c + 1, p, f, u, ue, hp, hf, ⟨m, b, L, c1, c2, c3, c4, c5, c6⟩ => by
    obtain ⟨i1, i2⟩ := h2 f hf (by omega)
    obtain ⟨i3, i4⟩ := tr_em_hm h1 hV h2 i1 c2
    obtain ⟨i5, i6⟩ := h2 b i3 (by omega)
    rw [i2] at i4
    refine ⟨m, pc b, L, by rw [← h1 f hf]; exact c1, i4, by rw [← h1 b i3]; exact c3, c4, c5, ?_⟩
    rw [← i6]
    exact tr_tx_hm h1 hV h2 (by omega) i5 c6
theorem sx_h82_ok {C C1 ST EN E0 : Nat} {n S : sx_E} (hd : sx_d P sx_TGm σ φ D) (h : sx_h82 P D C C1 ST EN E0 n S = true) : sx_fk sx_TGm σ φ (1082, [C, C1, ST, EN, E0], [n, S]) := by
  rw [sx_n82]
  unfold sx_h82 at h
  obtain ⟨x, x1, h⟩ := sx_o_ok h
  rw [Bool.and_eq_true, Bool.and_eq_true] at h
  obtain ⟨⟨k1, k2⟩, h⟩ := h
  have hx := sx_sel_ok hd x1
  rw [sx_ev_pk, sx_ev_sc, show 4 * sx_ev σ S + -1 = 4 * sx_ev σ S - 1 by omega] at hx
  have ex := sx_ge_ok hd k1
  have eS := sx_ge_ok hd k2
  rw [hx]
  obtain ⟨g, hg, hy⟩ := sx_any_ok h
  have hG := hd.2.2.2.2 g hg
  unfold sx_q82 at hy
  split at hy
  · next T V C' ST' EN' p f S' u ue =>
    simp only [Bool.and_eq_true] at hy
    obtain ⟨⟨z1, z2, z3, z4, z5⟩, z6, z7⟩ := hy
    have z1 := sx_eN_eq z1
    simp only [List.cons.injEq, and_true] at z1
    obtain ⟨rfl, rfl, rfl⟩ := z1
    have hG := sx_n88.mp hG
    rw [(sx_eqp_ok hd z2).trans sx_ev_k, (sx_eqp_ok hd z3).trans sx_ev_k, sx_eqp_ok hd z4, sx_eqp_ok hd z5] at hG
    obtain ⟨-, -, -, -, -, f6, f7⟩ := hG
    have e6 := sx_ge_ok hd z6
    rw [sx_ev_sb, sx_ev_sb, sx_ev_k] at e6
    refine ⟨eS, ex, (sx_ev σ ue).toNat, by omega, ?_⟩
    obtain ⟨g2, hg2, hy2⟩ := sx_any_ok z7
    have hG2 := hd.2.2.2.2 g2 hg2
    unfold sx_q82b at hy2
    split at hy2
    · next C2 T2 L2 n2 m =>
      simp only [Bool.and_eq_true] at hy2
      obtain ⟨⟨w1, w2⟩, ⟨w3, w4⟩, w5⟩ := hy2
      have hG2 := sx_n50.mp hG2
      rw [Nat.eq_of_beq_eq_true w1, Nat.eq_of_beq_eq_true w2.1, sx_eqp_ok hd w2.2] at hG2
      have e3 := sx_ge_ok hd w3
      rw [sx_ev_pk] at e3
      obtain ⟨q, q1, q2⟩ := sx_o_ok w4
      rw [Bool.and_eq_true] at q2
      have hq := sx_sel_ok hd q1
      have q3 := sx_ge_ok hd q2.1
      have q4 := sx_ge_ok hd q2.2
      rw [sx_ev_pk, sx_ev_ng] at q4
      rw [sx_ev_pk] at hq
      obtain ⟨M, hM⟩ : ∃ M : Nat, sx_ev σ m = (M : Int) := ⟨(sx_ev σ m).toNat, by omega⟩
      rw [hM, show ((M : Int) + -1).toNat = M - 1 by omega] at hq
      rw [hM] at hG2
      obtain ⟨g3, hg3, hy3⟩ := sx_any_ok w5
      have hG3 := hd.2.2.2.2 g3 hg3
      unfold sx_q82c at hy3
      split at hy3
      · next C3 T3 V3 n3 m3 =>
        simp only [Bool.and_eq_true] at hy3
        obtain ⟨⟨v1, v2, v3⟩, v4, v5⟩ := hy3
        have hG3 := sx_n98.mp hG3
        rw [Nat.eq_of_beq_eq_true v1, Nat.eq_of_beq_eq_true v2, Nat.eq_of_beq_eq_true v3, sx_eqp_ok hd v4, sx_eqp_ok hd v5, hM] at hG3
        have key := tr_tx_hm (I := fun k => k < M) (pc := tr_pc (φ C) (sx_ev σ n).toNat) (T' := tr_kd (φ C) (sx_ev σ n).toNat) (V' := tr_vl (φ C) (sx_ev σ n).toNat) (nx' := tr_nx (φ C) (sx_ev σ n).toNat) (fun k hk => (hG2 k (by omega)).1) (fun k hk h2 => hG3 k (by omega) h2) (fun k hk h2 => by
          refine ⟨?_, rfl⟩
          show k + 1 < M
          by_cases hkM : k = M - 1
          · rw [hkM] at h2
            omega
          · omega) (Int.le_refl 0) (show (0 : Int).toNat < M by
            show 0 < M
            omega) f7
        exact key
      · cases hy3
    · cases hy2
  · cases hy
theorem sx_h83_ok {R A W PE : Nat} {n S : sx_E} {g : sx_F} (hd : sx_d P sx_TGm σ φ D) (hg : sx_fk sx_TGm σ φ g) (h : sx_h83 P D R A W PE n S g = true) : sx_fk sx_TGm σ φ (1083, [R, A, W, PE], [n, S]) := by
  rw [sx_n83]
  unfold sx_h83 at h
  split at h
  · next R' A' W' PE' n' p f S' l le =>
    simp only [Bool.and_eq_true] at h
    obtain ⟨⟨z1, z2, z3, z4⟩, z5, z6⟩ := h
    have z1 := sx_eN_eq z1
    simp only [List.cons.injEq, and_true] at z1
    obtain ⟨rfl, rfl, rfl, rfl⟩ := z1
    have hG := sx_n86.mp hg
    rw [sx_eqp_ok hd z2, (sx_eqp_ok hd z3).trans sx_ev_k, sx_eqp_ok hd z4, (sx_eqp_ok hd z5).trans sx_ev_k, (sx_r41_ok hd z6).2, tr_nn, sx_ev_k] at hG
    exact ⟨hG.2.2.2.1, (sx_ev σ le).toNat, hG.2.2.2.2.2.2⟩
  · cases h
theorem sx_h89_ok {a : Nat} {S : sx_E} {g : sx_F} (hd : sx_d P sx_TGm σ φ D) (hS : 1 ≤ sx_ev σ S) (hg : sx_fk sx_TGm σ φ g) (h : sx_h89 P D a S g = true) : sx_fk sx_TGm σ φ (1089, [a], [S]) := by
  rw [sx_n89]
  unfold sx_h89 at h
  split at h
  · next a' S' =>
    rw [Bool.and_eq_true] at h
    have hG := sx_n89.mp hg
    have e1 := sx_eqp_ok hd h.1
    rw [e1] at hG
    have hf := sx_frm_ok hd h.2
    rw [sx_ev_sc, e1] at hf
    rw [hf _ (by omega)]
    exact hG
  · next x1 x2 e x3 x4 x5 S' =>
    rw [Bool.and_eq_true] at h
    have hG := sx_n81.mp hg
    rw [Nat.eq_of_beq_eq_true h.1, sx_eqp_ok hd h.2] at hG
    exact ⟨hG.2.1, hG.2.2.1⟩
  · cases h
theorem sx_h99_ok {ST EN : Nat} {S : sx_E} {g : sx_F} (hd : sx_d P sx_TGm σ φ D) (hg : sx_fk sx_TGm σ φ g) (h : sx_h99 P D ST EN S g = true) : sx_fk sx_TGm σ φ (1099, [ST, EN], [S]) := by
  rw [sx_n99]
  unfold sx_h99 at h
  split at h
  · next x1 s e x2 x3 x4 S' =>
    simp only [Bool.and_eq_true] at h
    obtain ⟨⟨k1, k2⟩, k3, k4⟩ := h
    have hG := sx_n81.mp hg
    rw [Nat.eq_of_beq_eq_true k1, Nat.eq_of_beq_eq_true k2, sx_eqp_ok hd k3] at hG
    have e4 := sx_ge_ok hd k4
    rw [sx_ev_pk, sx_ev_ng] at e4
    intro i hi
    obtain ⟨L, -, l1, l2, l3, l4, -⟩ := hG.2.2.2 (i / 4) (i % 4) (by omega) (by omega)
    rw [show 4 * (i / 4) + i % 4 = i by omega] at l1 l2 l3
    have := hG.2.2.1
    exact ⟨l1, by omega, by omega, by omega⟩
  · cases h
theorem sx_h02_ok {PE : Nat} {S : sx_E} {g : sx_F} (hd : sx_d P sx_TGm σ φ D) (hg : sx_fk sx_TGm σ φ g) (h : sx_h02 P D PE S g = true) : sx_fk sx_TGm σ φ (1102, [PE], [S]) := by
  rw [sx_n02]
  unfold sx_h02 at h
  split at h
  · next x1 x2 x3 x4 x5 p S' =>
    rw [Bool.and_eq_true] at h
    have hG := sx_n81.mp hg
    rw [Nat.eq_of_beq_eq_true h.1, sx_eqp_ok hd h.2] at hG
    intro t p ht hp1 hp
    obtain ⟨L, -, -, -, -, -, -, l1, l2, -⟩ := hG.2.2.2 t p ht hp
    unfold tr_lo at l1 l2
    rw [if_neg (by omega)] at l1 l2
    exact ⟨l1, by omega⟩
  · cases h
/-- the parts of one text: the same items in both -/
theorem tr_tx_eq {T V V' : Nat → Int} {nx : Nat → Nat} {ST EN PE C A W : Nat → Int} {S : Nat} (hV0 : ∀ k, T k = 2 → 0 ≤ V k) (hV : ∀ k, T k = 2 → V k = V' k) : ∀ {c : Nat} {p : Int} {f u ue l le : Nat}, 0 ≤ p → tr_tx T V nx (tr_sC ST EN S) (tr_ec C) c p f u ue → tr_tx T V' nx (tr_sR PE S) (tr_sh A W S) c p f l le → (p = 0 → l = 0) → (1 ≤ p → PE (4 * S + p.toNat - 1) = (l : Int)) → (ue : Int) - u = (le : Int) - l ∧ u ≤ ue ∧ (1 ≤ c → EN (4 * S + p.toNat + c - 1) = (ue : Int)) ∧ ∀ q : Nat, p.toNat ≤ q → q < p.toNat + c → ∃ L : List Int, tr_ht L 0 = 1 ∧ (u : Int) ≤ ST (4 * S + q) ∧ EN (4 * S + q) = ST (4 * S + q) + (L.length : Int) ∧ EN (4 * S + q) ≤ (ue : Int) ∧ tr_sw (tr_ec C) (ST (4 * S + q)).toNat L ∧ (l : Int) ≤ tr_lo PE S q ∧ PE (4 * S + q) = tr_lo PE S q + (L.length : Int) ∧ PE (4 * S + q) ≤ (le : Int) ∧ tr_sw (tr_er A W) (170 * S + (tr_lo PE S q).toNat) L
  | 0, p, f, u, ue, l, le, hp, h, h', _, _ => by
    have h : ue = u := h
    have h' : le = l := h'
    exact ⟨by omega, by omega, fun z => by omega, fun q z1 z2 => by omega⟩
  | c + 1, p, f, u, ue, l, le, hp, ⟨m, b, L, c1, c2, c3, ⟨c4, c4'⟩, c5, c6⟩, ⟨m', b', L', d1, d2, d3, d4, d5, d6⟩, hl0, hl1 => by
    have e := tr_em_hm (I := fun _ => True) (pc := fun k => k) (T' := T) (V' := V') (nx' := nx) (fun k _ => rfl) (fun k _ h => hV k h) (fun k _ _ => ⟨trivial, rfl⟩) trivial c2
    obtain ⟨e1, e2⟩ := tr_em_un e.2 d2
    subst e1
    subst e2
    have hht : tr_ht L' 0 = 1 := (tr_em_ht hV0 c2).1 (by omega) 0
    have d4 : PE (4 * S + p.toNat) = ((l + L'.length : Nat) : Int) := d4
    have hp1 : (p + 1).toNat = p.toNat + 1 := by omega
    obtain ⟨i1, i2, i3, i4⟩ := tr_tx_eq hV0 hV (c := c) (p := p + 1) (by omega) c6 d6 (fun z => by omega) (fun _ => by
      rw [hp1, show 4 * S + (p.toNat + 1) - 1 = 4 * S + p.toNat by omega]
      exact d4)
    have hlo : tr_lo PE S p.toNat = (l : Int) := by
      unfold tr_lo
      by_cases h0 : p.toNat = 0
      · rw [if_pos h0, hl0 (by omega)]
        rfl
      · rw [if_neg h0]
        exact hl1 (by omega)
    refine ⟨by omega, by omega, fun _ => ?_, fun q z1 z2 => ?_⟩
    · by_cases hc : c = 0
      · subst hc
        have c6 : ue = u + L'.length := c6
        rw [show 4 * S + p.toNat + (0 + 1) - 1 = 4 * S + p.toNat by omega, c4', c6]
      · have := i3 (by omega)
        rw [hp1] at this
        rw [show 4 * S + p.toNat + (c + 1) - 1 = 4 * S + (p.toNat + 1) + c - 1 by omega]
        exact this
    · by_cases hq : q = p.toNat
      · subst hq
        refine ⟨L', hht, by omega, by rw [c4, c4']; omega, by rw [c4']; omega, ?_, by omega, by rw [d4, hlo]; omega, by rw [d4]; omega, ?_⟩
        · rw [c4, tr_nn]
          exact c5
        · rw [hlo, tr_nn]
          have hs : ∀ {K : List Int} {i : Nat}, tr_sw (tr_sh A W S) i K → tr_sw (tr_er A W) (170 * S + i) K := by
            intro K
            induction K with
            | nil => intro i _; exact trivial
            | cons c K ih =>
              intro i hs
              exact ⟨hs.1, ih (i := i + 1) hs.2⟩
          exact hs d5
      · obtain ⟨K, j1, j2, j3, j4, j5, j6, j7, j8, j9⟩ := i4 q (by omega) (by omega)
        exact ⟨K, j1, by omega, j3, j4, j5, by omega, j7, j8, j9⟩
theorem tr_pe_lo {PE PE' : Nat → Int} {t p : Nat} (h : ∀ i : Nat, i < 4 * t + 4 → PE' i = PE i) (hp : p < 4) : tr_lo PE' t p = tr_lo PE t p := by
  unfold tr_lo
  split
  · rfl
  · exact h _ (by omega)
theorem sx_h81_ok {C ST EN A W PE : Nat} {S : sx_E} {g : sx_F} (hd : sx_d P sx_TGm σ φ D) (hg : sx_fk sx_TGm σ φ g) (h : sx_h81 P D C ST EN A W PE S g = true) : sx_fk sx_TGm σ φ (1081, [C, ST, EN, A, W, PE], [S]) := by
  rw [sx_n81]
  unfold sx_h81 at h
  split at h
  · next C0 ST0 EN0 A0 W0 PE0 S0 =>
    simp only [Bool.and_eq_true] at h
    obtain ⟨⟨⟨⟨k1, k2⟩, k3, k4⟩, k5, k6⟩, h⟩ := h
    obtain ⟨r1, r2, r3, r4⟩ := sx_n81.mp hg
    obtain ⟨s, hs⟩ : ∃ s : Nat, sx_ev σ S0 = (s : Int) := ⟨(sx_ev σ S0).toNat, by omega⟩
    have f1 := sx_frm_ok hd k1
    have f2 := sx_frm_ok hd k2
    have f3 := sx_frm_ok hd k3
    have f4 := sx_frm_ok hd k4
    have f5 := sx_frm_ok hd k5
    rw [sx_ev_sc, hs] at f1 f2 f3 f4 f5
    rw [hs] at r1 r2 r3 r4
    have f6 : ∀ i : Nat, (i : Int) < φ EN0 (4 * (s : Int) - 1).toNat → φ C i = φ C0 i := by
      rw [Bool.or_eq_true] at k6
      rcases k6 with k6 | k6
      · intro i _
        rw [Nat.eq_of_beq_eq_true k6]
      · obtain ⟨g', h1, h2⟩ := sx_any_ok k6
        have hg' := hd.2.2.2.2 g' h1
        unfold sx_q81a at h2
        split at h2
        · next a' b' e' S' =>
          simp only [Bool.and_eq_true] at h2
          obtain ⟨⟨m1, m2, m3⟩, m4⟩ := h2
          have hg' := sx_n85.mp hg'
          rw [Nat.eq_of_beq_eq_true m1, Nat.eq_of_beq_eq_true m2, Nat.eq_of_beq_eq_true m3, sx_eqp_ok hd m4, hs] at hg'
          exact hg'
        · cases h2
    have hEN : φ EN (4 * (s : Int) - 1).toNat = φ EN0 (4 * (s : Int) - 1).toNat := f2 _ (by omega)
    have old : ∀ t p : Nat, (t : Int) < (s : Int) → p < 4 → ∃ L : List Int, tr_ht L 0 = 1 ∧ 0 ≤ φ ST (4 * t + p) ∧ φ EN (4 * t + p) = φ ST (4 * t + p) + (L.length : Int) ∧ φ EN (4 * t + p) ≤ φ EN (4 * (s : Int) - 1).toNat ∧ L.length ≤ 160 ∧ tr_sw (tr_ec (φ C)) (φ ST (4 * t + p)).toNat L ∧ 0 ≤ tr_lo (φ PE) t p ∧ φ PE (4 * t + p) = tr_lo (φ PE) t p + (L.length : Int) ∧ φ PE (4 * t + p) ≤ 170 ∧ tr_sw (tr_er (φ A) (φ W)) (170 * t + (tr_lo (φ PE) t p).toNat) L := by
      intro t p ht hp
      obtain ⟨L, l0, l1, l2, l3, l4, l5, l6, l7, l8, l9⟩ := r4 t p ht hp
      have elo := tr_pe_lo (PE := φ PE0) (PE' := φ PE) (t := t) (fun i hi => f5 i (by omega)) hp
      rw [f1 _ (by omega), f2 _ (by omega), f5 _ (by omega), elo, hEN]
      refine ⟨L, l0, l1, l2, l3, l4, tr_sw_cg (fun c i z1 z2 z3 => (f6 i (by omega)).trans z3) l5, l6, l7, l8, tr_sw_cg (fun c i z1 z2 z3 => ?_) l9⟩
      show tr_it c (φ A i) (φ W i)
      rw [f3 i (by omega), f4 i (by omega)]
      exact z3
    rw [Bool.or_eq_true] at h
    rcases h with h | h
    · rw [sx_eqp_ok hd h, hs]
      exact ⟨r1, by rw [hEN]; exact r2, by rw [hEN]; exact r3, old⟩
    · rw [Bool.and_eq_true] at h
      rw [(sx_eqp_ok hd h.1).trans sx_ev_pk, hs]
      obtain ⟨g1, h1, h2⟩ := sx_any_ok h.2
      have hg1 := hd.2.2.2.2 g1 h1
      unfold sx_q81b at h2
      split at h2
      · next Cq C' ST' EN' E0' n S' =>
        rw [Bool.and_eq_true, Bool.and_eq_true] at h2
        obtain ⟨⟨m1, m2⟩, m3⟩ := h2
        have m1 := sx_eN_eq m1
        simp only [List.cons.injEq, and_true] at m1
        obtain ⟨rfl, rfl, rfl, rfl⟩ := m1
        have hg1 := sx_n82.mp hg1
        rw [sx_eqp_ok hd m2, hs, tr_nn] at hg1
        obtain ⟨-, q0, ue, q1, q2⟩ := hg1
        obtain ⟨g2, h3, h4⟩ := sx_any_ok m3
        have hg2 := hd.2.2.2.2 g2 h3
        unfold sx_q81c at h4
        split at h4
        · next R A' W' PE' n' S2 =>
          rw [Bool.and_eq_true, Bool.and_eq_true, Bool.and_eq_true] at h4
          obtain ⟨⟨w1, w2, w3⟩, w4⟩ := h4
          have w1 := sx_eN_eq w1
          simp only [List.cons.injEq, and_true] at w1
          obtain ⟨rfl, rfl, rfl⟩ := w1
          have hal := sx_l40_ok hd w4
          have hg2 := sx_n83.mp hg2
          rw [sx_eqp_ok hd w2, sx_eqp_ok hd w3, hs, tr_nn, ← tr_al_kd hal, ← tr_al_nx hal, ← tr_al_e hal] at hg2
          obtain ⟨-, le, q3⟩ := hg2
          obtain ⟨t1, t2, t3, t4⟩ := tr_tx_eq (fun k hk => tr_vl_nn hk) (fun k hk => tr_vl_al hal hk) (Int.le_refl 0) q2 q3 (fun _ => rfl) (fun z => by omega)
          have t3 := t3 (by omega)
          rw [show 4 * s + (0 : Int).toNat + 4 - 1 = 4 * s + 3 from rfl] at t3
          have e3 : (4 * ((s : Int) + 1) - 1).toNat = 4 * s + 3 := by omega
          unfold tr_rel
          rw [e3, t3]
          refine ⟨by omega, by omega, by omega, fun t p ht hp => ?_⟩
          by_cases htS : t = s
          · subst htS
            obtain ⟨L, l0, l1, l2, l3, l5, l6, l7, l8, l9⟩ := t4 p (by
              show 0 ≤ p
              omega) (by
              show p < 0 + 4
              omega)
            exact ⟨L, l0, by omega, l2, l3, by omega, l5, by omega, l7, by omega, l9⟩
          · obtain ⟨L, l0, l1, l2, l3, l4⟩ := old t p (by omega) hp
            exact ⟨L, l0, l1, l2, by omega, l4⟩
        · cases h4
      · cases h2
  · cases h
end SXST
