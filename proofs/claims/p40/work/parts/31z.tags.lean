/-! WHAT THE PROOF SAYS OF ROWS: the texts are well formed; the meetings' clubs are all different -/
/-- how many numbers lie on the pile behind one step -/
def tg_st (what wv : Int) (d : Nat) : Option Nat := if what = 1 then some (d + 1) else if what = 2 then (if 0 ≤ wv ∧ wv ≤ 5 then some (d + 1) else none) else if what = 3 ∨ what = 4 then (if 1 ≤ d then some d else none) else if 2 ≤ d then some (d - 1) else none
def tg_run (a w : Nat → Int) : Nat → Nat → Nat → Option Nat
  | 0, _, d => some d
  | n + 1, k, d => match tg_st (a k) (w k) d with
    | some d' => tg_run a w n (k + 1) d'
    | none => none
def tg_lo (pe : Nat → Int) (t p : Nat) : Nat := if p = 0 then 0 else (pe (4 * t + p - 1)).toNat
def tg_hi (pe : Nat → Int) (t p : Nat) : Nat := (pe (4 * t + p)).toNat
/-- part p of text t can be run -/
def tg_ok (a w pe : Nat → Int) (t p : Nat) : Prop := ∃ d, tg_run a w (tg_hi pe t p - tg_lo pe t p) (170 * t + tg_lo pe t p) 0 = some d
def tg_T0 (a w pe : Nat → Int) (t : Int) : Prop := (∀ j, 0 ≤ pe j ∧ pe j ≤ 160) ∧ ∀ (t' p : Nat), (t' : Int) < t → p < 4 → tg_ok a w pe t' p
/-- text t is in the making: parts below p are there, the next one has l steps and n numbers -/
def tg_T1 (a w pe : Nat → Int) (t p l n : Int) : Prop := tg_T0 a w pe t ∧ 0 ≤ t ∧ 0 ≤ p ∧ 0 ≤ n ∧ 0 ≤ l ∧ (∀ p' : Nat, (p' : Int) < p → p' < 4 → tg_ok a w pe t.toNat p' ∧ pe (4 * t.toNat + p') ≤ l) ∧ tg_lo pe t.toNat p.toNat ≤ l.toNat ∧ tg_run a w (l.toNat - tg_lo pe t.toNat p.toNat) (170 * t.toNat + tg_lo pe t.toNat p.toNat) 0 = some n.toNat
/-- club c is in none of the first m meetings -/
def tg_no (a b : Nat → Int) (m c : Int) : Prop := ∀ i : Nat, (i : Int) < m → ¬ a i = c ∧ ¬ b i = c
/-- no club is in two of the first m meetings -/
def tg_di (a b : Nat → Int) (m : Int) : Prop := (∀ i : Nat, (i : Int) < m → ¬ a i = b i) ∧ ∀ i j : Nat, (i : Int) < m → (j : Int) < m → ¬ i = j → ¬ a i = a j ∧ ¬ a i = b j ∧ ¬ b i = b j
/-- the word that stands from place f on, as a number -/
def tg_wd (a : Nat → Int) (f : Nat) : Nat → Int
  | 0 => 0
  | n + 1 => sx_fn 20 (sx_fn 19 (sx_fn 21 27 (tg_wd a f n)) (a (f + n))) 96
def tg_W (a : Nat → Int) (f k v : Int) : Prop := 0 ≤ f ∧ f ≤ k ∧ v = tg_wd a f.toNat (k - f).toNat
def tg_IW (a : Nat → Int) (wd r t f u : Int) : Prop := r = if t = 1 ∧ u - f ≤ 12 ∧ tg_wd a f.toNat (u - f).toNat = wd then 1 else 0
/-- part p of text t is being run: step k is next, n numbers lie on the pile -/
def tg_R (a w pe : Nat → Int) (t p k n : Int) : Prop := tg_T0 a w pe (t + 1) ∧ 0 ≤ t ∧ 0 ≤ p ∧ p < 4 ∧ 0 ≤ n ∧ 170 * t + tg_lo pe t.toNat p.toNat ≤ k ∧ tg_run a w (k.toNat - (170 * t.toNat + tg_lo pe t.toNat p.toNat)) (170 * t.toNat + tg_lo pe t.toNat p.toNat) 0 = some n.toNat
def sx_TGm : sx_TG := fun k as es => match k, as, es with
  | 1000, [a, w, pe], [t] => tg_T0 a w pe t
  | 1001, [a, w, pe], [t, p, l, n] => tg_T1 a w pe t p l n
  | 1002, [a, b], [m] => tg_di a b m
  | 1003, [a, b], [m, c] => tg_no a b m c
  | 1004, [a], [f, k, v] => tg_W a f k v
  | 1005, [a], [wd, r, t, f, u] => tg_IW a wd r t f u
  | 1006, [a, w, pe], [t, p, k, n] => tg_R a w pe t p k n
  | k, as, es => sx_TGn k as es
/-! which of them can be said of new rows -/
def sx_nzb (P : sx_P) (D : sx_D) (e : sx_E) : Bool := sx_ge P D (sx_pk e (-1)) || (sx_ge P D (sx_pk (sx_ng e) (-1)) || sx_ne D.2.2.2.2.1 e)
/-- the row b is the row a with v in place i -/
def sx_isu1 (P : sx_P) (D : sx_D) (a b : Nat) (i v : sx_E) (f : sx_F) : Bool := match f with
  | (5, [a', b'], [i', v']) => Nat.beq a' a && (Nat.beq b' b && (sx_eqp P D i' i && sx_eqp P D v' v))
  | _ => false
def sx_isu (P : sx_P) (D : sx_D) (a b : Nat) (i v : sx_E) : Bool := sx_any (sx_isu1 P D a b i v) D.2.2.2.2.1
/-- which row it comes from, at which place, what stands there -/
def sx_fru1 (b : Nat) (f : sx_F) : Option (Nat × sx_E × sx_E) := match f with
  | (5, [a', b'], [i', v']) => bif Nat.beq b' b then some (a', i', v') else none
  | _ => none
def sx_fru (D : sx_D) (b : Nat) : Option (Nat × sx_E × sx_E) := sx_first (sx_fru1 b) D.2.2.2.2.1
/-- a step of a text: how many numbers it leaves -/
def sx_stp (P : sx_P) (D : sx_D) (what v n n' : sx_E) : Bool :=
  (sx_eqp P D what (sx_k 1) && sx_eqp P D n' (sx_pk n 1)) || ((sx_eqp P D what (sx_k 2) && (sx_ge P D v && (sx_ge P D (sx_pk (sx_ng v) 5) && sx_eqp P D n' (sx_pk n 1)))) || (((sx_eqp P D what (sx_k 3) || sx_eqp P D what (sx_k 4)) && (sx_ge P D (sx_pk n (-1)) && sx_eqp P D n' n)) || (sx_ge P D (sx_pk what (-5)) && (sx_ge P D (sx_pk n (-2)) && sx_eqp P D n' (sx_pk n (-1))))))
def sx_hT1 (P : sx_P) (D : sx_D) (a w pe : Nat) (t p l n : sx_E) (g : sx_F) : Bool := match g with
  | (1000, [a', w', pe'], [t']) => (Nat.beq a' a && (Nat.beq w' w && Nat.beq pe' pe)) && (sx_eqp P D t' t && (sx_ge P D t && (sx_eqp P D p (sx_k 0) && (sx_eqp P D l (sx_k 0) && sx_eqp P D n (sx_k 0)))))
  | (1001, [a', w', pe'], [t', p', l', n']) => sx_eqp P D t' t && (((Nat.beq a' a && (Nat.beq w' w && sx_isu P D pe' pe (sx_ad (sx_sc 4 t) p') l')) && (sx_eqp P D p (sx_pk p' 1) && (sx_eqp P D l l' && (sx_eqp P D n (sx_k 0) && (sx_ge P D (sx_pk (sx_ng p') 3) && sx_ge P D (sx_pk (sx_ng l) 160)))))) || (Nat.beq pe' pe && (sx_eqp P D p p' && (sx_eqp P D l (sx_pk l' 1) && (sx_ge P D (sx_pk (sx_ng l) 169) && (match sx_fru D a, sx_fru D w with
      | some x, some y => (Nat.beq x.1 a' && Nat.beq y.1 w') && ((sx_eqp P D x.2.1 (sx_ad (sx_sc 170 t) l') && sx_eqp P D y.2.1 (sx_ad (sx_sc 170 t) l')) && sx_stp P D x.2.2 y.2.2 n' n)
      | _, _ => false))))))
  | _ => false
/-- steps were put behind the texts below t -/
def sx_hT0w (P : sx_P) (D : sx_D) (a w a' w' : Nat) (t : sx_E) : Bool := match sx_fru D a, sx_fru D w with
  | some x, some y => (Nat.beq x.1 a' && Nat.beq y.1 w') && (sx_ge P D (sx_sb x.2.1 (sx_sc 170 t)) && sx_ge P D (sx_sb y.2.1 (sx_sc 170 t)))
  | _, _ => false
def sx_hT0 (P : sx_P) (D : sx_D) (a w pe : Nat) (t : sx_E) (g : sx_F) : Bool := match g with
  | (1000, [a', w', pe'], [t']) => (Nat.beq pe' pe && sx_eqp P D t' t) && ((Nat.beq a' a && Nat.beq w' w) || sx_hT0w P D a w a' w' t)
  | (1001, [a', w', pe'], [t', p', l', n']) => ((Nat.beq a' a && (Nat.beq w' w && Nat.beq pe' pe)) && (sx_eqp P D t' t || (sx_eqp P D t (sx_pk t' 1) && sx_ge P D (sx_pk p' (-4))))) || sx_hT1 P D a w pe t (sx_pk p' 1) l' (sx_k 0) (1001, [a', w', pe'], [t', p', l', n'])
  | _ => false
def sx_no1 (P : sx_P) (D : sx_D) (a b : Nat) (m c : sx_E) (g : sx_F) : Bool := match g with
  | (1003, [a', b'], [m', c']) => (Nat.beq a' a && Nat.beq b' b) && (sx_eqp P D c' c && (sx_eqp P D m' m || (sx_eqp P D m (sx_pk m' 1) && (sx_ge P D m' && (match sx_sel P D a m', sx_sel P D b m' with
      | some x, some y => sx_nzb P D (sx_sb x c) && sx_nzb P D (sx_sb y c)
      | _, _ => false)))))
  | _ => false
def sx_di1 (P : sx_P) (D : sx_D) (a b : Nat) (m : sx_E) (g : sx_F) : Bool := match g with
  | (1002, [a', b'], [m']) => (Nat.beq a' a && (Nat.beq b' b && sx_eqp P D m' m)) || ((sx_eqp P D m (sx_pk m' 1) && sx_ge P D m') && (match sx_fru D a, sx_fru D b with
      | some x, some y => (Nat.beq x.1 a' && Nat.beq y.1 b') && ((sx_eqp P D x.2.1 m' && sx_eqp P D y.2.1 m') && (sx_nzb P D (sx_sb x.2.2 y.2.2) && (sx_any (sx_no1 P D a' b' m' x.2.2) D.2.2.2.2.1 && sx_any (sx_no1 P D a' b' m' y.2.2) D.2.2.2.2.1)))
      | _, _ => false))
  | _ => false
def sx_rs1 (o : Nat) (z : sx_E) (f : sx_F) : Option (sx_E × sx_E) := match f with
  | (o', [], [x, y, r]) => bif Nat.beq o' o && sx_eq r z then some (x, y) else none
  | _ => none
/-- what z is the answer of -/
def sx_rs (D : sx_D) (o : Nat) (z : sx_E) : Option (sx_E × sx_E) := sx_first (sx_rs1 o z) D.2.2.2.2.1
def sx_hW (P : sx_P) (D : sx_D) (a : Nat) (f k z : sx_E) (g : sx_F) : Bool := match g with
  | (1004, [a'], [f', k', v']) => (Nat.beq a' a && (sx_eqp P D f' f && (sx_eqp P D k (sx_pk k' 1) && sx_ge P D k'))) && (match sx_rs D 120 z with
    | some y => sx_eq y.2 (sx_k 96) && (match sx_rs D 119 y.1 with
      | some x => (match sx_rs D 121 x.1, sx_sel P D a k' with
        | some q, some t => sx_eq q.1 (sx_k 27) && (sx_eqp P D q.2 v' && sx_eqp P D x.2 t)
        | _, _ => false)
      | none => false)
    | none => false)
  | _ => false
def sx_hI (P : sx_P) (D : sx_D) (a : Nat) (wd r t f u : sx_E) (g : sx_F) : Bool := match g with
  | (1004, [a'], [f', k', v']) => (Nat.beq a' a && (sx_eqp P D f' f && sx_eqp P D k' u)) && ((sx_eqp P D t (sx_k 1) && sx_ge P D (sx_pk (sx_sb f u) 12)) && ((sx_eqp P D r (sx_k 1) && sx_eqp P D v' wd) || (sx_eqp P D r (sx_k 0) && sx_nzb P D (sx_sb v' wd))))
  | _ => false
/-- a text's part begins: its first step -/
def sx_hR0 (P : sx_P) (D : sx_D) (a w pe : Nat) (t p k n : sx_E) (g : sx_F) : Bool := match g with
  | (1000, [a', w', pe'], [T]) => (Nat.beq a' a && (Nat.beq w' w && Nat.beq pe' pe)) && ((sx_ge P D t && (sx_ge P D (sx_pk (sx_sb T t) (-1)) && (sx_ge P D (sx_pk (sx_ng p) 3) && sx_eqp P D n (sx_k 0)))) && ((sx_eqp P D p (sx_k 0) && sx_eqp P D k (sx_sc 170 t)) || (sx_ge P D (sx_pk p (-1)) && (match sx_sel P D pe (sx_pk (sx_ad (sx_sc 4 t) p) (-1)) with
    | some x => sx_eqp P D k (sx_ad (sx_sc 170 t) x)
    | none => false))))
  | _ => false
/-- a step that was run -/
def sx_stR (P : sx_P) (D : sx_D) (what : sx_E) (wv : Option sx_E) (n n' : sx_E) : Bool :=
  (sx_eqp P D what (sx_k 1) && sx_eqp P D n' (sx_pk n 1)) || ((sx_eqp P D what (sx_k 2) && (match wv with
    | some v => sx_ge P D v && (sx_ge P D (sx_pk (sx_ng v) 5) && sx_eqp P D n' (sx_pk n 1))
    | none => false)) || (((sx_eqp P D what (sx_k 3) || sx_eqp P D what (sx_k 4)) && (sx_ge P D (sx_pk n (-1)) && sx_eqp P D n' n)) || ((sx_nzb P D (sx_pk what (-1)) && (sx_nzb P D (sx_pk what (-2)) && (sx_nzb P D (sx_pk what (-3)) && sx_nzb P D (sx_pk what (-4))))) && (sx_ge P D (sx_pk n (-2)) && sx_eqp P D n' (sx_pk n (-1))))))
def sx_hR1 (P : sx_P) (D : sx_D) (a w pe : Nat) (t p k n : sx_E) (g : sx_F) : Bool := match g with
  | (1006, [a', w', pe'], [t', p', k', n']) => (Nat.beq a' a && (Nat.beq w' w && Nat.beq pe' pe)) && ((sx_eqp P D t' t && (sx_eqp P D p' p && sx_eqp P D k (sx_pk k' 1))) && (match sx_sel P D a k' with
    | some what => sx_stR P D what (sx_sel P D w k') n' n
    | none => false))
  | _ => false
def sx_hT (P : sx_P) (D : sx_D) (f : sx_F) : Bool := match f with
  | (1004, [a], [f, k, v]) => (sx_eqp P D f k && (sx_ge P D f && sx_eqp P D v (sx_k 0))) || sx_any (sx_hW P D a f k v) D.2.2.2.2.1
  | (1005, [a], [wd, r, t, f, u]) => (sx_eqp P D r (sx_k 0) && (sx_nzb P D (sx_pk t (-1)) || sx_ge P D (sx_pk (sx_sb u f) (-13)))) || sx_any (sx_hI P D a wd r t f u) D.2.2.2.2.1
  | (1006, [a, w, pe], [t, p, k, n]) => sx_any (sx_hR0 P D a w pe t p k n) D.2.2.2.2.1 || sx_any (sx_hR1 P D a w pe t p k n) D.2.2.2.2.1
  | (1000, [a, w, pe], [t]) => sx_any (sx_hT0 P D a w pe t) D.2.2.2.2.1
  | (1001, [a, w, pe], [t, p, l, n]) => sx_any (sx_hT1 P D a w pe t p l n) D.2.2.2.2.1
  | (1002, [a, b], [m]) => sx_eqp P D m (sx_k 0) || sx_any (sx_di1 P D a b m) D.2.2.2.2.1
  | (1003, [a, b], [m, c]) => sx_eqp P D m (sx_k 0) || sx_any (sx_no1 P D a b m c) D.2.2.2.2.1
  | _ => false
section SXTG
variable {P : sx_P} {σ : Nat → Int} {φ : sx_R} {D : sx_D}
theorem tg_run_cg {a w a' w' : Nat → Int} : ∀ {n k d : Nat}, (∀ j, k ≤ j → j < k + n → a' j = a j ∧ w' j = w j) → tg_run a' w' n k d = tg_run a w n k d
  | 0, _, _, _ => rfl
  | n + 1, k, d, h => by
    have h0 := h k (Nat.le_refl _) (by omega)
    unfold tg_run
    rw [h0.1, h0.2]
    cases tg_st (a k) (w k) d with
    | none => rfl
    | some d' => exact tg_run_cg fun j h1 h2 => h j (by omega) (by omega)
theorem tg_run_snoc {a w : Nat → Int} : ∀ {n k d e : Nat}, tg_run a w n k d = some e → tg_run a w (n + 1) k d = tg_st (a (k + n)) (w (k + n)) e
  | 0, k, d, e, h => by
    cases h
    show (match tg_st (a k) (w k) d with
      | some d' => some d'
      | none => none) = _
    cases tg_st (a k) (w k) d <;> rfl
  | n + 1, k, d, e, h => by
    unfold tg_run at h
    show (match tg_st (a k) (w k) d with
      | some d' => tg_run a w (n + 1) (k + 1) d'
      | none => none) = _
    cases hs : tg_st (a k) (w k) d with
    | none => rw [hs] at h; cases h
    | some d' =>
      rw [hs] at h
      have := tg_run_snoc h
      rw [show k + 1 + n = k + (n + 1) by omega] at this
      exact this
theorem tg_ok_cg {a w pe a' w' : Nat → Int} {t p N : Nat} (hN : ∀ j, j < N → a' j = a j ∧ w' j = w j) (h1 : 170 * t + tg_hi pe t p ≤ N) (h : tg_ok a w pe t p) : tg_ok a' w' pe t p := by
  obtain ⟨d, hd⟩ := h
  refine ⟨d, ?_⟩
  rw [tg_run_cg (a := a) (w := w) fun j h2 h3 => hN j (by omega)]
  exact hd
theorem sx_fk0 {a w pe : Nat} {t : sx_E} : sx_fk sx_TGm σ φ (1000, [a, w, pe], [t]) ↔ tg_T0 (φ a) (φ w) (φ pe) (sx_ev σ t) := Iff.rfl
theorem sx_fk1 {a w pe : Nat} {t p l n : sx_E} : sx_fk sx_TGm σ φ (1001, [a, w, pe], [t, p, l, n]) ↔ tg_T1 (φ a) (φ w) (φ pe) (sx_ev σ t) (sx_ev σ p) (sx_ev σ l) (sx_ev σ n) := Iff.rfl
theorem sx_fk2 {a b : Nat} {m : sx_E} : sx_fk sx_TGm σ φ (1002, [a, b], [m]) ↔ tg_di (φ a) (φ b) (sx_ev σ m) := Iff.rfl
theorem sx_fk3 {a b : Nat} {m c : sx_E} : sx_fk sx_TGm σ φ (1003, [a, b], [m, c]) ↔ tg_no (φ a) (φ b) (sx_ev σ m) (sx_ev σ c) := Iff.rfl
theorem sx_fk5 {a b : Nat} {i v : sx_E} : sx_fk sx_TGm σ φ (5, [a, b], [i, v]) ↔ ∀ j, φ b j = if j = (sx_ev σ i).toNat then sx_ev σ v else φ a j := Iff.rfl
theorem sx_isu_ok {a b : Nat} {i v : sx_E} (hd : sx_d P sx_TGm σ φ D) (h : sx_isu P D a b i v = true) : ∀ j, φ b j = if j = (sx_ev σ i).toNat then sx_ev σ v else φ a j := by
  obtain ⟨f, h1, h2⟩ := sx_any_ok h
  have hf := hd.2.2.2.2 f h1
  unfold sx_isu1 at h2
  split at h2
  · next a' b' i' v' =>
    simp only [Bool.and_eq_true] at h2
    obtain ⟨k1, k2, k3, k4⟩ := h2
    have hf := sx_fk5.mp hf
    rw [Nat.eq_of_beq_eq_true k1, Nat.eq_of_beq_eq_true k2, sx_eqp_ok hd k3, sx_eqp_ok hd k4] at hf
    exact hf
  · cases h2
theorem sx_fru_ok {b : Nat} {x : Nat × sx_E × sx_E} (hd : sx_d P sx_TGm σ φ D) (h : sx_fru D b = some x) : ∀ j, φ b j = if j = (sx_ev σ x.2.1).toNat then sx_ev σ x.2.2 else φ x.1 j := by
  obtain ⟨f, h1, h2⟩ := sx_first_ok h
  have hf := hd.2.2.2.2 f h1
  unfold sx_fru1 at h2
  split at h2
  · next a' b' i' v' =>
    cases hb : Nat.beq b' b with
    | false => rw [hb] at h2; cases h2
    | true =>
      rw [hb] at h2
      cases h2
      have hf := sx_fk5.mp hf
      rw [Nat.eq_of_beq_eq_true hb] at hf
      exact hf
  · cases h2
theorem sx_nzb_ok {e : sx_E} (hd : sx_d P sx_TGm σ φ D) (h : sx_nzb P D e = true) : ¬ sx_ev σ e = 0 := sx_nz hd h
theorem sx_stp_ok {what v n n' : sx_E} (hd : sx_d P sx_TGm σ φ D) (hn : 0 ≤ sx_ev σ n) (h : sx_stp P D what v n n' = true) : 0 ≤ sx_ev σ n' ∧ tg_st (sx_ev σ what) (sx_ev σ v) (sx_ev σ n).toNat = some (sx_ev σ n').toNat := by
  unfold sx_stp at h
  simp only [Bool.or_eq_true, Bool.and_eq_true] at h
  unfold tg_st
  rcases h with ⟨h1, h2⟩ | ⟨h1, h2, h3, h4⟩ | ⟨h1, h2, h3⟩ | ⟨h1, h2, h3⟩
  · have e1 := sx_eqp_ok hd h1
    have e2 := sx_eqp_ok hd h2
    rw [sx_ev_k] at e1
    rw [sx_ev_pk] at e2
    refine ⟨by omega, ?_⟩
    rw [if_pos e1]
    congr 1
    omega
  · have e1 := sx_eqp_ok hd h1
    have e2 := sx_ge_ok hd h2
    have e3 := sx_ge_ok hd h3
    have e4 := sx_eqp_ok hd h4
    rw [sx_ev_k] at e1
    rw [sx_ev_pk, sx_ev_ng] at e3
    rw [sx_ev_pk] at e4
    refine ⟨by omega, ?_⟩
    rw [if_neg (by omega), if_pos e1, if_pos ⟨e2, by omega⟩]
    congr 1
    omega
  · have e1 : sx_ev σ what = 3 ∨ sx_ev σ what = 4 := by
      rcases h1 with h1 | h1
      · exact Or.inl (by have := sx_eqp_ok hd h1; rw [sx_ev_k] at this; exact this)
      · exact Or.inr (by have := sx_eqp_ok hd h1; rw [sx_ev_k] at this; exact this)
    have e2 := sx_ge_ok hd h2
    have e3 := sx_eqp_ok hd h3
    rw [sx_ev_pk] at e2
    refine ⟨by omega, ?_⟩
    rw [if_neg (by omega), if_neg (by omega), if_pos e1, if_pos (by omega), e3]
  · have e1 := sx_ge_ok hd h1
    have e2 := sx_ge_ok hd h2
    have e3 := sx_eqp_ok hd h3
    rw [sx_ev_pk] at e1 e2 e3
    refine ⟨by omega, ?_⟩
    rw [if_neg (by omega), if_neg (by omega), if_neg (by omega), if_pos (by omega)]
    congr 1
    omega
theorem tg_T0_cg {a w pe a' w' : Nat → Int} {t : Int} (hN : ∀ j : Nat, (j : Int) < 170 * t → a' j = a j ∧ w' j = w j) (h : tg_T0 a w pe t) : tg_T0 a' w' pe t := by
  refine ⟨h.1, fun t' p h1 h2 => ?_⟩
  have h3 := h.1 (4 * t' + p)
  refine tg_ok_cg (N := 170 * t' + 170) (fun j hj => hN j (by omega)) ?_ (h.2 t' p h1 h2)
  unfold tg_hi
  omega
theorem sx_hT1_ok {a w pe : Nat} {t p l n : sx_E} {g : sx_F} (hd : sx_d P sx_TGm σ φ D) (hg : sx_fk sx_TGm σ φ g) (h : sx_hT1 P D a w pe t p l n g = true) : sx_fk sx_TGm σ φ (1001, [a, w, pe], [t, p, l, n]) := by
  rw [sx_fk1]
  unfold sx_hT1 at h
  split at h
  · next a' w' pe' t' =>
    simp only [Bool.and_eq_true] at h
    obtain ⟨⟨k1, k2, k3⟩, k4, k5, k6, k7, k8⟩ := h
    have hg := sx_fk0.mp hg
    rw [Nat.eq_of_beq_eq_true k1, Nat.eq_of_beq_eq_true k2, Nat.eq_of_beq_eq_true k3, sx_eqp_ok hd k4] at hg
    have e5 := sx_ge_ok hd k5
    have e6 := sx_eqp_ok hd k6
    have e7 := sx_eqp_ok hd k7
    have e8 := sx_eqp_ok hd k8
    rw [sx_ev_k] at e6 e7 e8
    rw [e6, e7, e8]
    exact ⟨hg, e5, Int.le_refl _, Int.le_refl _, Int.le_refl _, fun p' z => by omega, Nat.le_refl _, rfl⟩
  · next a' w' pe' t' p' l' n' =>
    simp only [Bool.and_eq_true, Bool.or_eq_true] at h
    obtain ⟨k0, h⟩ := h
    have hg := sx_fk1.mp hg
    rw [sx_eqp_ok hd k0] at hg
    obtain ⟨g1, g2, g3, g4, g5, g6, g7, g8⟩ := hg
    rcases h with ⟨⟨k1, k2, k3⟩, k4, k5, k6, k7, k8⟩ | ⟨k1, k2, k3, k4, k5⟩
    · have hu := sx_isu_ok hd k3
      have e4 := sx_eqp_ok hd k4
      have e5 := sx_eqp_ok hd k5
      have e6 := sx_eqp_ok hd k6
      have e7 := sx_ge_ok hd k7
      have e8 := sx_ge_ok hd k8
      rw [sx_ev_pk] at e4 e7 e8
      rw [sx_ev_ng] at e7 e8
      rw [sx_ev_k] at e6
      rw [sx_ev_ad, sx_ev_sc] at hu
      rw [Nat.eq_of_beq_eq_true k1, Nat.eq_of_beq_eq_true k2] at g1 g6 g8
      rw [← e5] at hu g5 g6 g7 g8
      rw [e6]
      have hp : ∃ q : Nat, sx_ev σ p' = q ∧ q ≤ 3 := ⟨(sx_ev σ p').toNat, by omega, by omega⟩
      obtain ⟨q, hq, hq3⟩ := hp
      have ht : ∃ s : Nat, sx_ev σ t = s := ⟨(sx_ev σ t).toNat, by omega⟩
      obtain ⟨s, hs⟩ := ht
      rw [hq, hs] at hu
      rw [show (4 * (s : Int) + (q : Int)).toNat = 4 * s + q by omega] at hu
      have hpe : ∀ j, ¬ j = 4 * s + q → φ pe j = φ pe' j := fun j hj => by rw [hu, if_neg hj]
      have hpeq : φ pe (4 * s + q) = sx_ev σ l := by rw [hu, if_pos rfl]
      have hlo : ∀ (s' p'' : Nat), (4 * s' + p'' < 4 * s + q ∨ 4 * s + q < 4 * s' + p'') → tg_hi (φ pe) s' p'' = tg_hi (φ pe') s' p'' := fun s' p'' hz => by
        unfold tg_hi
        rw [hpe _ (by omega)]
      have hsame : ∀ (s' p'' : Nat), p'' < 4 → 4 * s' + p'' < 4 * s + q → tg_ok (φ a) (φ w) (φ pe') s' p'' → tg_ok (φ a) (φ w) (φ pe) s' p'' := fun s' p'' h0 hz ⟨d, hk⟩ => by
        refine ⟨d, ?_⟩
        have e1 : tg_lo (φ pe) s' p'' = tg_lo (φ pe') s' p'' := by
          unfold tg_lo
          split
          · rfl
          · rw [hpe _ (by omega)]
        rw [e1, hlo s' p'' (Or.inl hz)]
        exact hk
      rw [hq, hs] at g6 g7 g8
      rw [show ((s : Int)).toNat = s by omega] at g6 g7 g8
      rw [show ((q : Int)).toNat = q by omega] at g7 g8
      rw [hs] at g1
      have hl2 : (sx_ev σ l).toNat = tg_hi (φ pe) s q := by
        unfold tg_hi
        rw [hpeq]
      have hlo2 : tg_lo (φ pe) s q = tg_lo (φ pe') s q := by
        unfold tg_lo
        split
        · rfl
        · rw [hpe _ (by omega)]
      have hnow : tg_ok (φ a) (φ w) (φ pe) s q := by
        refine ⟨(sx_ev σ n').toNat, ?_⟩
        rw [hlo2, ← hl2]
        exact g8
      rw [hs, e4, hq]
      refine ⟨⟨fun j => ?_, fun t'' p'' z1 z2 => hsame t'' p'' z2 (by omega) (g1.2 t'' p'' z1 z2)⟩, by omega, by omega, Int.le_refl _, g5, fun p'' z1 z2 => ?_, ?_, ?_⟩
      · by_cases hj : j = 4 * s + q
        · rw [hj, hpeq]
          omega
        · rw [hpe j hj]
          exact g1.1 j
      · rw [show ((s : Int)).toNat = s by omega]
        by_cases hz : p'' = q
        · subst hz
          exact ⟨hnow, by rw [hpeq]; exact Int.le_refl _⟩
        · obtain ⟨m1, m2⟩ := g6 p'' (by omega) z2
          exact ⟨hsame s p'' z2 (by omega) m1, by rw [hpe _ (by omega)]; exact m2⟩
      · rw [show ((s : Int)).toNat = s by omega, show ((q : Int) + 1).toNat = q + 1 by omega]
        unfold tg_lo
        rw [if_neg (by omega), show 4 * s + (q + 1) - 1 = 4 * s + q by omega, hpeq]
        exact Nat.le_refl _
      · rw [show ((s : Int)).toNat = s by omega, show ((q : Int) + 1).toNat = q + 1 by omega]
        have e9 : tg_lo (φ pe) s (q + 1) = (sx_ev σ l).toNat := by
          unfold tg_lo
          rw [if_neg (by omega), show 4 * s + (q + 1) - 1 = 4 * s + q by omega, hpeq]
        rw [e9, Nat.sub_self]
        rfl
    · split at k5
      · next x y hx hy =>
        simp only [Bool.and_eq_true] at k5
        obtain ⟨⟨m1, m2⟩, ⟨m3, m4⟩, m5⟩ := k5
        have ux := sx_fru_ok hd hx
        have uy := sx_fru_ok hd hy
        rw [Nat.eq_of_beq_eq_true m1, sx_eqp_ok hd m3, sx_ev_ad, sx_ev_sc] at ux
        rw [Nat.eq_of_beq_eq_true m2, sx_eqp_ok hd m4, sx_ev_ad, sx_ev_sc] at uy
        rw [Nat.eq_of_beq_eq_true k1] at g1 g6 g7 g8
        have e2 := sx_eqp_ok hd k2
        have e3 := sx_eqp_ok hd k3
        have e4 := sx_ge_ok hd k4
        rw [sx_ev_pk] at e3 e4
        rw [sx_ev_ng] at e4
        obtain ⟨n1, n2⟩ := sx_stp_ok hd g4 m5
        have ht : ∃ s : Nat, sx_ev σ t = s := ⟨(sx_ev σ t).toNat, by omega⟩
        obtain ⟨s, hs⟩ := ht
        have hl' : ∃ z : Nat, sx_ev σ l' = z := ⟨(sx_ev σ l').toNat, by omega⟩
        obtain ⟨z, hz⟩ := hl'
        rw [hs, hz, show (170 * (s : Int) + (z : Int)).toNat = 170 * s + z by omega] at ux uy
        have hN : ∀ j : Nat, j < 170 * s + z → φ a j = φ a' j ∧ φ w j = φ w' j := fun j hj => ⟨by rw [ux, if_neg (by omega)], by rw [uy, if_neg (by omega)]⟩
        rw [hs, hz] at g8 g7 g6
        rw [hs] at g1
        rw [show ((s : Int)).toNat = s by omega] at g6 g7 g8
        rw [show ((z : Int)).toNat = z by omega] at g7 g8
        rw [e2, hs, e3, hz]
        refine ⟨tg_T0_cg (fun j hj => hN j (by omega)) g1, by omega, g3, n1, by omega, fun p'' z1 z2 => ?_, ?_, ?_⟩
        · rw [show ((s : Int)).toNat = s by omega]
          obtain ⟨q1, q2⟩ := g6 p'' z1 z2
          refine ⟨tg_ok_cg (N := 170 * s + z) hN ?_ q1, by omega⟩
          unfold tg_hi
          omega
        · rw [show ((s : Int)).toNat = s by omega, show ((z : Int) + 1).toNat = z + 1 by omega]
          omega
        · rw [show ((s : Int)).toNat = s by omega, show ((z : Int) + 1).toNat = z + 1 by omega]
          rw [show z + 1 - tg_lo (φ pe) s (sx_ev σ p').toNat = (z - tg_lo (φ pe) s (sx_ev σ p').toNat) + 1 by omega]
          have g9 : tg_run (φ a) (φ w) (z - tg_lo (φ pe) s (sx_ev σ p').toNat) (170 * s + tg_lo (φ pe) s (sx_ev σ p').toNat) 0 = some (sx_ev σ n').toNat := by
            rw [tg_run_cg (a := φ a') (w := φ w') fun j q1 q2 => hN j (by omega)]
            exact g8
          rw [tg_run_snoc g9]
          rw [show 170 * s + tg_lo (φ pe) s (sx_ev σ p').toNat + (z - tg_lo (φ pe) s (sx_ev σ p').toNat) = 170 * s + z by omega]
          rw [ux, uy, if_pos rfl, if_pos rfl]
          exact n2
      · cases k5
  · cases h
theorem sx_hT0_ok {a w pe : Nat} {t : sx_E} {g : sx_F} (hd : sx_d P sx_TGm σ φ D) (hg : sx_fk sx_TGm σ φ g) (h : sx_hT0 P D a w pe t g = true) : sx_fk sx_TGm σ φ (1000, [a, w, pe], [t]) := by
  rw [sx_fk0]
  unfold sx_hT0 at h
  split at h
  · next a' w' pe' t' =>
    simp only [Bool.and_eq_true, Bool.or_eq_true] at h
    obtain ⟨⟨k3, k4⟩, h⟩ := h
    have hg := sx_fk0.mp hg
    rw [Nat.eq_of_beq_eq_true k3, sx_eqp_ok hd k4] at hg
    rcases h with ⟨k1, k2⟩ | h
    · rw [Nat.eq_of_beq_eq_true k1, Nat.eq_of_beq_eq_true k2] at hg
      exact hg
    · unfold sx_hT0w at h
      split at h
      · next x y hx hy =>
        simp only [Bool.and_eq_true] at h
        obtain ⟨⟨m1, m2⟩, m3, m4⟩ := h
        have ux := sx_fru_ok hd hx
        have uy := sx_fru_ok hd hy
        have e3 := sx_ge_ok hd m3
        have e4 := sx_ge_ok hd m4
        rw [sx_ev_sb, sx_ev_sc] at e3 e4
        rw [Nat.eq_of_beq_eq_true m1] at ux
        rw [Nat.eq_of_beq_eq_true m2] at uy
        refine tg_T0_cg (fun j hj => ⟨?_, ?_⟩) hg
        · rw [ux, if_neg (by omega)]
        · rw [uy, if_neg (by omega)]
      · cases h
  · next a' w' pe' t' p' l' n' =>
    rw [Bool.or_eq_true] at h
    rcases h with h | h
    case inr => exact (sx_fk1.mp (sx_hT1_ok hd hg h)).1
    simp only [Bool.and_eq_true, Bool.or_eq_true] at h
    obtain ⟨⟨k1, k2, k3⟩, h⟩ := h
    have hg := sx_fk1.mp hg
    rw [Nat.eq_of_beq_eq_true k1, Nat.eq_of_beq_eq_true k2, Nat.eq_of_beq_eq_true k3] at hg
    obtain ⟨g1, g2, g3, g4, g5, g6, g7, g8⟩ := hg
    rcases h with k4 | ⟨k4, k5⟩
    · rw [sx_eqp_ok hd k4] at g1
      exact g1
    · have e4 := sx_eqp_ok hd k4
      have e5 := sx_ge_ok hd k5
      rw [sx_ev_pk] at e4 e5
      refine ⟨g1.1, fun t'' p'' z1 z2 => ?_⟩
      by_cases hz : (t'' : Int) < sx_ev σ t'
      · exact g1.2 t'' p'' hz z2
      · have := (g6 p'' (by omega) z2).1
        rw [show (sx_ev σ t').toNat = t'' by omega] at this
        exact this
  · cases h
theorem sx_no1_ok {a b : Nat} {m c : sx_E} {g : sx_F} (hd : sx_d P sx_TGm σ φ D) (hg : sx_fk sx_TGm σ φ g) (h : sx_no1 P D a b m c g = true) : sx_fk sx_TGm σ φ (1003, [a, b], [m, c]) := by
  rw [sx_fk3]
  unfold sx_no1 at h
  split at h
  · next a' b' m' c' =>
    simp only [Bool.and_eq_true, Bool.or_eq_true] at h
    obtain ⟨⟨k1, k2⟩, k3, h⟩ := h
    have hg := sx_fk3.mp hg
    rw [Nat.eq_of_beq_eq_true k1, Nat.eq_of_beq_eq_true k2, sx_eqp_ok hd k3] at hg
    rcases h with k4 | ⟨k4, k5, k6⟩
    · rw [sx_eqp_ok hd k4] at hg
      exact hg
    · have e4 := sx_eqp_ok hd k4
      have e5 := sx_ge_ok hd k5
      rw [sx_ev_pk] at e4
      split at k6
      · next x y hx hy =>
        rw [Bool.and_eq_true] at k6
        have x1 := sx_nzb_ok hd k6.1
        have y1 := sx_nzb_ok hd k6.2
        rw [sx_ev_sb] at x1 y1
        have x2 := sx_sel_ok hd hx
        have y2 := sx_sel_ok hd hy
        intro i hi
        by_cases hz : (i : Int) < sx_ev σ m'
        · exact hg i hz
        · have e : i = (sx_ev σ m').toNat := by omega
          rw [e, x2, y2]
          exact ⟨fun z => x1 (by omega), fun z => y1 (by omega)⟩
      · cases k6
  · cases h
theorem sx_di1_ok {a b : Nat} {m : sx_E} {g : sx_F} (hd : sx_d P sx_TGm σ φ D) (hg : sx_fk sx_TGm σ φ g) (h : sx_di1 P D a b m g = true) : sx_fk sx_TGm σ φ (1002, [a, b], [m]) := by
  rw [sx_fk2]
  unfold sx_di1 at h
  split at h
  · next a' b' m' =>
    simp only [Bool.and_eq_true, Bool.or_eq_true] at h
    have hg := sx_fk2.mp hg
    rcases h with ⟨k1, k2, k3⟩ | ⟨⟨k1, k2⟩, k3⟩
    · rw [Nat.eq_of_beq_eq_true k1, Nat.eq_of_beq_eq_true k2, sx_eqp_ok hd k3] at hg
      exact hg
    · have e1 := sx_eqp_ok hd k1
      have e2 := sx_ge_ok hd k2
      rw [sx_ev_pk] at e1
      split at k3
      · next x y hx hy =>
        simp only [Bool.and_eq_true] at k3
        obtain ⟨⟨m1, m2⟩, ⟨m3, m4⟩, m5, m6, m7⟩ := k3
        have ux := sx_fru_ok hd hx
        have uy := sx_fru_ok hd hy
        rw [Nat.eq_of_beq_eq_true m1, sx_eqp_ok hd m3] at ux
        rw [Nat.eq_of_beq_eq_true m2, sx_eqp_ok hd m4] at uy
        have e5 := sx_nzb_ok hd m5
        rw [sx_ev_sb] at e5
        obtain ⟨f6, f61, f62⟩ := sx_any_ok m6
        obtain ⟨f7, f71, f72⟩ := sx_any_ok m7
        have n6 := sx_fk3.mp (sx_no1_ok hd (hd.2.2.2.2 f6 f61) f62)
        have n7 := sx_fk3.mp (sx_no1_ok hd (hd.2.2.2.2 f7 f71) f72)
        obtain ⟨z, hz⟩ : ∃ z : Nat, sx_ev σ m' = z := ⟨(sx_ev σ m').toNat, by omega⟩
        rw [hz] at ux uy n6 n7 hg
        rw [show ((z : Int)).toNat = z by omega] at ux uy
        rw [e1, hz]
        have old : ∀ i : Nat, i < z → φ a i = φ a' i ∧ φ b i = φ b' i := fun i hi => ⟨by rw [ux, if_neg (by omega)], by rw [uy, if_neg (by omega)]⟩
        have na : φ a z = sx_ev σ x.2.2 := by rw [ux, if_pos rfl]
        have nb : φ b z = sx_ev σ y.2.2 := by rw [uy, if_pos rfl]
        constructor
        · intro i hi
          by_cases h1 : i < z
          · obtain ⟨o1, o2⟩ := old i h1
            rw [o1, o2]
            exact hg.1 i (by omega)
          · have : i = z := by omega
            subst this
            rw [na, nb]
            exact fun q => e5 (by omega)
        · intro i j hi hj hij
          by_cases h1 : i < z
          · obtain ⟨o1, o2⟩ := old i h1
            by_cases h2 : j < z
            · obtain ⟨p1, p2⟩ := old j h2
              rw [o1, o2, p1, p2]
              exact hg.2 i j (by omega) (by omega) hij
            · have : j = z := by omega
              subst this
              rw [o1, o2, na, nb]
              have q6 := n6 i (by omega)
              have q7 := n7 i (by omega)
              exact ⟨q6.1, q7.1, q7.2⟩
          · have : i = z := by omega
            subst this
            obtain ⟨p1, p2⟩ := old j (by omega)
            rw [p1, p2, na, nb]
            have q6 := n6 j (by omega)
            have q7 := n7 j (by omega)
            exact ⟨fun q => q6.1 q.symm, fun q => q6.2 q.symm, fun q => q7.2 q.symm⟩
      · cases k3
  · cases h
theorem sx_fk4 {a : Nat} {f k v : sx_E} : sx_fk sx_TGm σ φ (1004, [a], [f, k, v]) ↔ tg_W (φ a) (sx_ev σ f) (sx_ev σ k) (sx_ev σ v) := Iff.rfl
theorem sx_fk45 {a : Nat} {wd r t f u : sx_E} : sx_fk sx_TGm σ φ (1005, [a], [wd, r, t, f, u]) ↔ tg_IW (φ a) (sx_ev σ wd) (sx_ev σ r) (sx_ev σ t) (sx_ev σ f) (sx_ev σ u) := Iff.rfl
theorem sx_fk6 {a w pe : Nat} {t p k n : sx_E} : sx_fk sx_TGm σ φ (1006, [a, w, pe], [t, p, k, n]) ↔ tg_R (φ a) (φ w) (φ pe) (sx_ev σ t) (sx_ev σ p) (sx_ev σ k) (sx_ev σ n) := Iff.rfl
theorem sx_rs_ok {o : Nat} {z : sx_E} {x : sx_E × sx_E} (hd : sx_d P sx_TGm σ φ D) (ho : o = 119 ∨ o = 120 ∨ o = 121) (h : sx_rs D o z = some x) : sx_fn (o - 100) (sx_ev σ x.1) (sx_ev σ x.2) = sx_ev σ z := by
  obtain ⟨f, h1, h2⟩ := sx_first_ok h
  have hf := hd.2.2.2.2 f h1
  unfold sx_rs1 at h2
  split at h2
  · next o' x' y' r' =>
    cases hb : Nat.beq o' o && sx_eq r' z with
    | false => rw [hb] at h2; cases h2
    | true =>
      rw [hb] at h2
      cases h2
      rw [Bool.and_eq_true] at hb
      rw [Nat.eq_of_beq_eq_true hb.1, sx_eq_eq hb.2] at hf
      rcases ho with rfl | rfl | rfl
      · exact hf
      · exact hf
      · exact hf
  · cases h2
theorem sx_hW_ok {a : Nat} {f k z : sx_E} {g : sx_F} (hd : sx_d P sx_TGm σ φ D) (hg : sx_fk sx_TGm σ φ g) (h : sx_hW P D a f k z g = true) : sx_fk sx_TGm σ φ (1004, [a], [f, k, z]) := by
  rw [sx_fk4]
  unfold sx_hW at h
  split at h
  · next a' f' k' v' =>
    rw [Bool.and_eq_true] at h
    obtain ⟨h1, h2⟩ := h
    simp only [Bool.and_eq_true] at h1
    obtain ⟨k1, k2, k3, k4⟩ := h1
    have hg := sx_fk4.mp hg
    rw [Nat.eq_of_beq_eq_true k1, sx_eqp_ok hd k2] at hg
    have e3 := sx_eqp_ok hd k3
    have e4 := sx_ge_ok hd k4
    rw [sx_ev_pk] at e3
    split at h2
    · next y hy =>
      rw [Bool.and_eq_true] at h2
      obtain ⟨m1, h2⟩ := h2
      split at h2
      · next x hx =>
        split at h2
        · next q t hq ht =>
          simp only [Bool.and_eq_true] at h2
          obtain ⟨m2, m3, m4⟩ := h2
          have r1 := sx_rs_ok hd (Or.inr (Or.inl rfl)) hy
          have r2 := sx_rs_ok hd (Or.inl rfl) hx
          have r3 := sx_rs_ok hd (Or.inr (Or.inr rfl)) hq
          have r4 := sx_sel_ok hd ht
          rw [sx_eq_eq m1, sx_ev_k] at r1
          rw [sx_eq_eq m2, sx_ev_k, sx_eqp_ok hd m3] at r3
          rw [sx_eqp_ok hd m4] at r2
          obtain ⟨g1, g2, g3⟩ := hg
          refine ⟨g1, by omega, ?_⟩
          rw [show (sx_ev σ k - sx_ev σ f).toNat = (sx_ev σ k' - sx_ev σ f).toNat + 1 by omega]
          show _ = sx_fn 20 (sx_fn 19 (sx_fn 21 27 (tg_wd (φ a) (sx_ev σ f).toNat (sx_ev σ k' - sx_ev σ f).toNat)) (φ a ((sx_ev σ f).toNat + (sx_ev σ k' - sx_ev σ f).toNat))) 96
          rw [← g3, show (sx_ev σ f).toNat + (sx_ev σ k' - sx_ev σ f).toNat = (sx_ev σ k').toNat by omega, r4]
          rw [← r1, ← r2, ← r3]
        · cases h2
      · cases h2
    · cases h2
  · cases h
theorem sx_hI_ok {a : Nat} {wd r t f u : sx_E} {g : sx_F} (hd : sx_d P sx_TGm σ φ D) (hg : sx_fk sx_TGm σ φ g) (h : sx_hI P D a wd r t f u g = true) : sx_fk sx_TGm σ φ (1005, [a], [wd, r, t, f, u]) := by
  rw [sx_fk45]
  unfold sx_hI at h
  split at h
  · next a' f' k' v' =>
    simp only [Bool.and_eq_true, Bool.or_eq_true] at h
    obtain ⟨⟨k1, k2, k3⟩, ⟨k4, k5⟩, h⟩ := h
    have hg := sx_fk4.mp hg
    rw [Nat.eq_of_beq_eq_true k1, sx_eqp_ok hd k2, sx_eqp_ok hd k3] at hg
    have e4 := sx_eqp_ok hd k4
    have e5 := sx_ge_ok hd k5
    rw [sx_ev_k] at e4
    rw [sx_ev_pk, sx_ev_sb] at e5
    obtain ⟨g1, g2, g3⟩ := hg
    unfold tg_IW
    rw [← g3]
    rcases h with ⟨h1, h2⟩ | ⟨h1, h2⟩
    · rw [if_pos ⟨e4, by omega, sx_eqp_ok hd h2⟩, sx_eqp_ok hd h1, sx_ev_k]
    · have n2 := sx_nzb_ok hd h2
      rw [sx_ev_sb] at n2
      rw [if_neg (fun q => n2 (by omega)), sx_eqp_ok hd h1, sx_ev_k]
  · cases h
theorem sx_hR0_ok {a w pe : Nat} {t p k n : sx_E} {g : sx_F} (hd : sx_d P sx_TGm σ φ D) (hp0 : 0 ≤ sx_ev σ p ∨ True) (hg : sx_fk sx_TGm σ φ g) (h : sx_hR0 P D a w pe t p k n g = true) : sx_fk sx_TGm σ φ (1006, [a, w, pe], [t, p, k, n]) := by
  rw [sx_fk6]
  unfold sx_hR0 at h
  split at h
  · next a' w' pe' T =>
    obtain ⟨h1, h4⟩ := (Bool.and_eq_true _ _).mp h
    obtain ⟨h2, h3⟩ := (Bool.and_eq_true _ _).mp h4
    simp only [Bool.and_eq_true] at h1 h2
    obtain ⟨k1, k2, k3⟩ := h1
    obtain ⟨k4, k5, k6, k7⟩ := h2
    have hg := sx_fk0.mp hg
    rw [Nat.eq_of_beq_eq_true k1, Nat.eq_of_beq_eq_true k2, Nat.eq_of_beq_eq_true k3] at hg
    have e4 := sx_ge_ok hd k4
    have e5 := sx_ge_ok hd k5
    have e6 := sx_ge_ok hd k6
    have e7 := sx_eqp_ok hd k7
    rw [sx_ev_pk, sx_ev_sb] at e5
    rw [sx_ev_pk, sx_ev_ng] at e6
    rw [sx_ev_k] at e7
    have hT : tg_T0 (φ a) (φ w) (φ pe) (sx_ev σ t + 1) := ⟨hg.1, fun t' p' z1 z2 => hg.2 t' p' (by omega) z2⟩
    rw [Bool.or_eq_true, Bool.and_eq_true, Bool.and_eq_true] at h3
    have key : 0 ≤ sx_ev σ p ∧ sx_ev σ k = 170 * sx_ev σ t + tg_lo (φ pe) (sx_ev σ t).toNat (sx_ev σ p).toNat := by
      rcases h3 with ⟨m1, m2⟩ | ⟨m1, m2⟩
      · have f1 := sx_eqp_ok hd m1
        have f2 := sx_eqp_ok hd m2
        rw [sx_ev_k] at f1
        rw [sx_ev_sc] at f2
        refine ⟨by omega, ?_⟩
        unfold tg_lo
        rw [if_pos (by omega), f2]
        simp
      · have f1 := sx_ge_ok hd m1
        rw [sx_ev_pk] at f1
        split at m2
        · next x hx =>
          have f2 := sx_eqp_ok hd m2
          have f3 := sx_sel_ok hd hx
          rw [sx_ev_pk, sx_ev_ad, sx_ev_sc] at f3
          rw [sx_ev_ad, sx_ev_sc] at f2
          refine ⟨by omega, ?_⟩
          unfold tg_lo
          rw [if_neg (by omega), f2]
          have e : 4 * (sx_ev σ t).toNat + (sx_ev σ p).toNat - 1 = (4 * sx_ev σ t + sx_ev σ p + -1).toNat := by omega
          rw [e, f3]
          have := (hg.1 ((4 * sx_ev σ t + sx_ev σ p + -1).toNat)).1
          rw [f3] at this
          omega
        · cases m2
    refine ⟨hT, e4, key.1, by omega, by omega, by rw [key.2]; exact Int.le_refl _, ?_⟩
    rw [key.2, e7]
    have : (170 * sx_ev σ t + (tg_lo (φ pe) (sx_ev σ t).toNat (sx_ev σ p).toNat : Int)).toNat - (170 * (sx_ev σ t).toNat + tg_lo (φ pe) (sx_ev σ t).toNat (sx_ev σ p).toNat) = 0 := by omega
    rw [this]
    rfl
  · cases h
theorem sx_stR_ok {what n n' : sx_E} {wv : Option sx_E} {v0 : Int} (hd : sx_d P sx_TGm σ φ D) (hv : ∀ v, wv = some v → v0 = sx_ev σ v) (hn : 0 ≤ sx_ev σ n) (h : sx_stR P D what wv n n' = true) : 0 ≤ sx_ev σ n' ∧ tg_st (sx_ev σ what) v0 (sx_ev σ n).toNat = some (sx_ev σ n').toNat := by
  unfold sx_stR at h
  simp only [Bool.or_eq_true, Bool.and_eq_true] at h
  unfold tg_st
  rcases h with ⟨h1, h2⟩ | ⟨h1, h2⟩ | ⟨h1, h2, h3⟩ | ⟨⟨q1, q2, q3, q4⟩, h2, h3⟩
  · have e1 := sx_eqp_ok hd h1
    have e2 := sx_eqp_ok hd h2
    rw [sx_ev_k] at e1
    rw [sx_ev_pk] at e2
    refine ⟨by omega, ?_⟩
    rw [if_pos e1]
    congr 1
    omega
  · have e1 := sx_eqp_ok hd h1
    rw [sx_ev_k] at e1
    split at h2
    · next v =>
      simp only [Bool.and_eq_true] at h2
      obtain ⟨h2, h3, h4⟩ := h2
      have e2 := sx_ge_ok hd h2
      have e3 := sx_ge_ok hd h3
      have e4 := sx_eqp_ok hd h4
      rw [sx_ev_pk, sx_ev_ng] at e3
      rw [sx_ev_pk] at e4
      rw [hv v rfl]
      refine ⟨by omega, ?_⟩
      rw [if_neg (by omega), if_pos e1, if_pos ⟨e2, by omega⟩]
      congr 1
      omega
    · cases h2
  · have e1 : sx_ev σ what = 3 ∨ sx_ev σ what = 4 := by
      rcases h1 with h1 | h1
      · exact Or.inl (by have := sx_eqp_ok hd h1; rw [sx_ev_k] at this; exact this)
      · exact Or.inr (by have := sx_eqp_ok hd h1; rw [sx_ev_k] at this; exact this)
    have e2 := sx_ge_ok hd h2
    have e3 := sx_eqp_ok hd h3
    rw [sx_ev_pk] at e2
    refine ⟨by omega, ?_⟩
    rw [if_neg (by omega), if_neg (by omega), if_pos e1, if_pos (by omega), e3]
  · have e1 := sx_nzb_ok hd q1
    have e2 := sx_nzb_ok hd q2
    have e3 := sx_nzb_ok hd q3
    have e4 := sx_nzb_ok hd q4
    have e5 := sx_ge_ok hd h2
    have e6 := sx_eqp_ok hd h3
    rw [sx_ev_pk] at e1 e2 e3 e4 e5 e6
    refine ⟨by omega, ?_⟩
    rw [if_neg (by omega), if_neg (by omega), if_neg (by omega), if_pos (by omega)]
    congr 1
    omega
theorem sx_hR1_ok {a w pe : Nat} {t p k n : sx_E} {g : sx_F} (hd : sx_d P sx_TGm σ φ D) (hg : sx_fk sx_TGm σ φ g) (h : sx_hR1 P D a w pe t p k n g = true) : sx_fk sx_TGm σ φ (1006, [a, w, pe], [t, p, k, n]) := by
  rw [sx_fk6]
  unfold sx_hR1 at h
  split at h
  · next a' w' pe' t' p' k' n' =>
    obtain ⟨h1, h4⟩ := (Bool.and_eq_true _ _).mp h
    obtain ⟨h2, h3⟩ := (Bool.and_eq_true _ _).mp h4
    simp only [Bool.and_eq_true] at h1 h2
    obtain ⟨k1, k2, k3⟩ := h1
    obtain ⟨k4, k5, k6⟩ := h2
    have hg := sx_fk6.mp hg
    rw [Nat.eq_of_beq_eq_true k1, Nat.eq_of_beq_eq_true k2, Nat.eq_of_beq_eq_true k3, sx_eqp_ok hd k4, sx_eqp_ok hd k5] at hg
    have e6 := sx_eqp_ok hd k6
    rw [sx_ev_pk] at e6
    obtain ⟨g1, g2, g3, g4, g5, g6, g7⟩ := hg
    split at h3
    · next what hw =>
      have s1 := sx_sel_ok hd hw
      obtain ⟨s2, s3⟩ := sx_stR_ok (v0 := φ w (sx_ev σ k').toNat) hd (fun v hv => sx_sel_ok hd hv) g5 h3
      refine ⟨g1, g2, g3, g4, s2, by omega, ?_⟩
      rw [show (sx_ev σ k).toNat - (170 * (sx_ev σ t).toNat + tg_lo (φ pe) (sx_ev σ t).toNat (sx_ev σ p).toNat) = ((sx_ev σ k').toNat - (170 * (sx_ev σ t).toNat + tg_lo (φ pe) (sx_ev σ t).toNat (sx_ev σ p).toNat)) + 1 by omega]
      rw [tg_run_snoc g7]
      rw [show 170 * (sx_ev σ t).toNat + tg_lo (φ pe) (sx_ev σ t).toNat (sx_ev σ p).toNat + ((sx_ev σ k').toNat - (170 * (sx_ev σ t).toNat + tg_lo (φ pe) (sx_ev σ t).toNat (sx_ev σ p).toNat)) = (sx_ev σ k').toNat by omega]
      rw [s1]
      exact s3
    · cases h3
  · cases h
theorem sx_hT_ok {f : sx_F} (hd : sx_d P sx_TGm σ φ D) (h : sx_hT P D f = true) : sx_fk sx_TGm σ φ f := by
  unfold sx_hT at h
  split at h
  · next a f k v =>
    rw [Bool.or_eq_true] at h
    rcases h with h | h
    · simp only [Bool.and_eq_true] at h
      obtain ⟨h1, h2, h3⟩ := h
      have e1 := sx_eqp_ok hd h1
      have e2 := sx_ge_ok hd h2
      have e3 := sx_eqp_ok hd h3
      rw [sx_ev_k] at e3
      rw [sx_fk4]
      refine ⟨e2, by omega, ?_⟩
      rw [show (sx_ev σ k - sx_ev σ f).toNat = 0 by omega]
      exact e3
    · obtain ⟨g, h1, h2⟩ := sx_any_ok h
      exact sx_hW_ok hd (hd.2.2.2.2 g h1) h2
  · next a wd r t f u =>
    rw [Bool.or_eq_true] at h
    rcases h with h | h
    · rw [Bool.and_eq_true, Bool.or_eq_true] at h
      have e1 := sx_eqp_ok hd h.1
      rw [sx_ev_k] at e1
      rw [sx_fk45]
      unfold tg_IW
      rw [e1, if_neg]
      intro z
      rcases h.2 with h2 | h2
      · have := sx_nzb_ok hd h2
        rw [sx_ev_pk] at this
        omega
      · have := sx_ge_ok hd h2
        rw [sx_ev_pk, sx_ev_sb] at this
        omega
    · obtain ⟨g, h1, h2⟩ := sx_any_ok h
      exact sx_hI_ok hd (hd.2.2.2.2 g h1) h2
  · next a w pe t p k n =>
    rw [Bool.or_eq_true] at h
    rcases h with h | h
    · obtain ⟨g, h1, h2⟩ := sx_any_ok h
      exact sx_hR0_ok hd (Or.inr trivial) (hd.2.2.2.2 g h1) h2
    · obtain ⟨g, h1, h2⟩ := sx_any_ok h
      exact sx_hR1_ok hd (hd.2.2.2.2 g h1) h2
  · next a w pe t =>
    obtain ⟨g, h1, h2⟩ := sx_any_ok h
    exact sx_hT0_ok hd (hd.2.2.2.2 g h1) h2
  · next a w pe t p l n =>
    obtain ⟨g, h1, h2⟩ := sx_any_ok h
    exact sx_hT1_ok hd (hd.2.2.2.2 g h1) h2
  · next a b m =>
    rw [Bool.or_eq_true] at h
    rcases h with h | h
    · have e := sx_eqp_ok hd h
      rw [sx_ev_k] at e
      rw [sx_fk2, e]
      exact ⟨fun i hi => by omega, fun i j hi => by omega⟩
    · obtain ⟨g, h1, h2⟩ := sx_any_ok h
      exact sx_di1_ok hd (hd.2.2.2.2 g h1) h2
  · next a b m c =>
    rw [Bool.or_eq_true] at h
    rcases h with h | h
    · have e := sx_eqp_ok hd h
      rw [sx_ev_k] at e
      rw [sx_fk3, e]
      exact fun i hi => by omega
    · obtain ⟨g, h1, h2⟩ := sx_any_ok h
      exact sx_no1_ok hd (hd.2.2.2.2 g h1) h2
  · cases h
theorem tg_run_add {a w : Nat → Int} {r : Nat} : ∀ {m k d e : Nat}, tg_run a w m k d = some e → tg_run a w (m + r) k d = tg_run a w r (k + m) e
  | 0, k, d, e, h => by
    cases h
    rw [Nat.zero_add, Nat.add_zero]
  | m + 1, k, d, e, h => by
    rw [show m + 1 + r = (m + r) + 1 by omega]
    unfold tg_run at h
    show (match tg_st (a k) (w k) d with
      | some d' => tg_run a w (m + r) (k + 1) d'
      | none => none) = _
    cases hs : tg_st (a k) (w k) d with
    | none => rw [hs] at h; cases h
    | some d' =>
      rw [hs] at h
      have := tg_run_add (r := r) h
      rw [show k + 1 + m = k + (m + 1) by omega] at this
      exact this
theorem tg_st_le {x y : Int} {d e : Nat} (h : tg_st x y d = some e) : e ≤ d + 1 := by
  unfold tg_st at h
  split at h
  · cases h; omega
  · split at h
    · split at h
      · cases h; omega
      · cases h
    · split at h
      · split at h
        · cases h; omega
        · cases h
      · split at h
        · cases h; omega
        · cases h
theorem tg_run_le {a w : Nat → Int} : ∀ {m k d e : Nat}, tg_run a w m k d = some e → e ≤ d + m
  | 0, _, _, _, h => by cases h; omega
  | m + 1, k, d, e, h => by
    unfold tg_run at h
    cases hs : tg_st (a k) (w k) d with
    | none => rw [hs] at h; cases h
    | some d' =>
      rw [hs] at h
      have h1 := tg_st_le hs
      have h2 := tg_run_le (m := m) h
      omega
/-- the next step of a part that is being run -/
theorem tg_R_next {a w pe : Nat → Int} {t p k n : Int} (h : tg_R a w pe t p k n) (hk : k < 170 * t + pe (4 * t + p).toNat) : n ≤ 169 ∧ 0 ≤ n ∧ (a k.toNat = 1 ∨ (a k.toNat = 2 ∧ 0 ≤ w k.toNat ∧ w k.toNat ≤ 5) ∨ ((a k.toNat = 3 ∨ a k.toNat = 4) ∧ 1 ≤ n) ∨ (¬ a k.toNat = 1 ∧ ¬ a k.toNat = 2 ∧ ¬ a k.toNat = 3 ∧ ¬ a k.toNat = 4 ∧ 2 ≤ n)) := by
  obtain ⟨g1, g2, g3, g4, g5, g6, g7⟩ := h
  obtain ⟨d, hd⟩ := g1.2 t.toNat p.toNat (by omega) (by omega)
  have hpe := g1.1 (4 * t + p).toNat
  have e1 : (4 * t + p).toNat = 4 * t.toNat + p.toNat := by omega
  rw [e1] at hpe hk
  have hh : tg_hi pe t.toNat p.toNat = (pe (4 * t.toNat + p.toNat)).toNat := rfl
  generalize tg_lo pe t.toNat p.toNat = lo at *
  have h2 := tg_run_le g7
  obtain ⟨r, hr⟩ : ∃ r, tg_hi pe t.toNat p.toNat - lo = (k.toNat - (170 * t.toNat + lo)) + (r + 1) := ⟨tg_hi pe t.toNat p.toNat - lo - (k.toNat - (170 * t.toNat + lo)) - 1, by omega⟩
  rw [hr, tg_run_add g7, show 170 * t.toNat + lo + (k.toNat - (170 * t.toNat + lo)) = k.toNat by omega] at hd
  refine ⟨by omega, g5, ?_⟩
  unfold tg_run at hd
  cases hs : tg_st (a k.toNat) (w k.toNat) n.toNat with
  | none => rw [hs] at hd; cases hd
  | some d' =>
    unfold tg_st at hs
    split at hs
    · next c1 => exact Or.inl c1
    · next c1 =>
      split at hs
      · next c2 =>
        split at hs
        · next c3 => exact Or.inr (Or.inl ⟨c2, c3⟩)
        · cases hs
      · next c2 =>
        split at hs
        · next c3 =>
          split at hs
          · next c4 => exact Or.inr (Or.inr (Or.inl ⟨c3, by omega⟩))
          · cases hs
        · next c3 =>
          split at hs
          · next c4 => exact Or.inr (Or.inr (Or.inr ⟨c1, c2, fun z => c3 (Or.inl z), fun z => c3 (Or.inr z), by omega⟩))
          · cases hs
theorem tg_php : ∀ (N n : Nat) (f : Nat → Int), (∀ i, i < n → 0 ≤ f i ∧ f i < N) → (∀ i j, i < n → j < n → ¬ i = j → ¬ f i = f j) → n ≤ N
  | 0, n, f, h1, _ => by
    cases n with
    | zero => exact Nat.le_refl _
    | succ n =>
      have := h1 0 (by omega)
      omega
  | N + 1, n, f, h1, h2 => by
    by_cases hx : ∃ i, i < n ∧ f i = N
    · obtain ⟨i, hi, hN⟩ := hx
      have hf : ∀ j, j < n → ¬ j = i → f j < N := fun j hj hji => by
        have a1 := h1 j hj
        have a2 := h2 j i hj hi hji
        rw [hN] at a2
        omega
      have ih := tg_php N (n - 1) (fun j => if j = i then f (n - 1) else f j) (fun j hj => ?_) (fun j k hj hk hjk => ?_)
      · omega
      · show 0 ≤ (if j = i then f (n - 1) else f j) ∧ (if j = i then f (n - 1) else f j) < N
        split
        · next e => exact ⟨(h1 (n - 1) (by omega)).1, hf (n - 1) (by omega) (by omega)⟩
        · next e => exact ⟨(h1 j (by omega)).1, hf j (by omega) e⟩
      · show ¬ (if j = i then f (n - 1) else f j) = (if k = i then f (n - 1) else f k)
        split
        · next e =>
          rw [if_neg (by omega)]
          exact h2 (n - 1) k (by omega) (by omega) (by omega)
        · next e =>
          split
          · next e2 => exact h2 j (n - 1) (by omega) (by omega) (by omega)
          · next e2 => exact h2 j k (by omega) (by omega) hjk
    · have ih := tg_php N n f (fun i hi => ?_) h2
      · omega
      · have a1 := h1 i hi
        have a2 : ¬ f i = N := fun z => hx ⟨i, hi, z⟩
        omega
/-- twelve clubs: six meetings leave no club -/
theorem tg_five {a b : Nat → Int} {m c : Int} (h1 : tg_di a b m) (h2 : tg_no a b m c) (ha : ∀ j, 0 ≤ a j ∧ a j ≤ 11) (hb : ∀ j, 0 ≤ b j ∧ b j ≤ 11) (hc : 0 ≤ c ∧ c ≤ 11) : m ≤ 5 := by
  rcases Int.lt_or_le 5 m with hm | hm
  · exfalso
    have := tg_php 12 13 (fun k => if k = 12 then c else if k % 2 = 0 then a (k / 2) else b (k / 2)) (fun i hi => ?_) (fun i j hi hj hij => ?_)
    · omega
    · show 0 ≤ (if i = 12 then c else if i % 2 = 0 then a (i / 2) else b (i / 2)) ∧ (if i = 12 then c else if i % 2 = 0 then a (i / 2) else b (i / 2)) < 12
      have := ha (i / 2)
      have := hb (i / 2)
      split
      · omega
      · split <;> omega
    · show ¬ (if i = 12 then c else if i % 2 = 0 then a (i / 2) else b (i / 2)) = (if j = 12 then c else if j % 2 = 0 then a (j / 2) else b (j / 2))
      by_cases e1 : i = 12
      · rw [if_pos e1, if_neg (by omega)]
        have q := h2 (j / 2) (by omega)
        split
        · exact fun z => q.1 z.symm
        · exact fun z => q.2 z.symm
      · rw [if_neg e1]
        by_cases e2 : j = 12
        · rw [if_pos e2]
          have q := h2 (i / 2) (by omega)
          split
          · exact q.1
          · exact q.2
        · rw [if_neg e2]
          by_cases e3 : i / 2 = j / 2
          · have q := h1.1 (i / 2) (by omega)
            rw [← e3]
            by_cases e4 : i % 2 = 0
            · rw [if_pos e4, if_neg (by omega)]
              exact q
            · rw [if_neg e4, if_pos (by omega)]
              exact fun z => q z.symm
          · have q := h1.2 (i / 2) (j / 2) (by omega) (by omega) e3
            have q2 := h1.2 (j / 2) (i / 2) (by omega) (by omega) (fun z => e3 z.symm)
            split
            · split
              · exact q.1
              · exact q.2.1
            · split
              · exact fun z => q2.2.1 z.symm
              · exact q.2.2
  · exact hm
end SXTG
