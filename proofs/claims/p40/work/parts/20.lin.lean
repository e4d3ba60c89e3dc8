/-! SUMS WITH UNKNOWN NUMBERS; WHAT IS KNOWN OF THEM -/
abbrev sx_T : Type := List (Nat × Int)
abbrev sx_E : Type := Int × sx_T
def sx_le (a b : Int) : Bool := match b - a with
  | .ofNat _ => true
  | .negSucc _ => false
theorem sx_le_iff {a b : Int} : sx_le a b = true ↔ a ≤ b := by
  unfold sx_le
  cases h : b - a with
  | ofNat n =>
    have h : b - a = (n : Int) := h
    simp only [true_iff]
    omega
  | negSucc n =>
    have h := h
    rw [Int.negSucc_eq] at h
    simp only [reduceCtorEq, false_iff]
    omega
def sx_et (σ : Nat → Int) : sx_T → Int
  | [] => 0
  | p :: l => p.2 * σ p.1 + sx_et σ l
def sx_ev (σ : Nat → Int) (e : sx_E) : Int := e.1 + sx_et σ e.2
def sx_in (x : Nat) (c : Int) : sx_T → sx_T
  | [] => [(x, c)]
  | p :: l => bif Nat.blt x p.1 then (x, c) :: p :: l else bif Nat.beq x p.1 then (bif c + p.2 == 0 then l else (x, c + p.2) :: l) else p :: sx_in x c l
def sx_adT : sx_T → sx_T → sx_T
  | [], b => b
  | p :: a, b => sx_in p.1 p.2 (sx_adT a b)
def sx_ad (a b : sx_E) : sx_E := (a.1 + b.1, sx_adT a.2 b.2)
def sx_scT (k : Int) : sx_T → sx_T
  | [] => []
  | p :: l => (p.1, k * p.2) :: sx_scT k l
def sx_sc (k : Int) (e : sx_E) : sx_E := bif k == 0 then (0, []) else (k * e.1, sx_scT k e.2)
def sx_sb (a b : sx_E) : sx_E := sx_ad a (sx_sc (-1) b)
def sx_ng (a : sx_E) : sx_E := sx_sc (-1) a
def sx_k (c : Int) : sx_E := (c, [])
def sx_v (x : Nat) : sx_E := (0, [(x, 1)])
def sx_pk (e : sx_E) (c : Int) : sx_E := (e.1 + c, e.2)
theorem sx_et_in {σ : Nat → Int} {x : Nat} {c : Int} : ∀ {l : sx_T}, sx_et σ (sx_in x c l) = c * σ x + sx_et σ l
  | [] => rfl
  | p :: l => by
    unfold sx_in
    cases h1 : Nat.blt x p.1 with
    | true => rfl
    | false =>
      simp only [cond_false]
      cases h2 : Nat.beq x p.1 with
      | true =>
        have e := Nat.eq_of_beq_eq_true h2
        simp only [cond_true]
        cases h3 : c + p.2 == 0 with
        | true =>
          have e3 : c + p.2 = 0 := eq_of_beq h3
          show sx_et σ l = c * σ x + (p.2 * σ p.1 + sx_et σ l)
          rw [e, ← Int.add_assoc, ← Int.add_mul, e3]
          simp
        | false =>
          show (c + p.2) * σ x + sx_et σ l = c * σ x + (p.2 * σ p.1 + sx_et σ l)
          rw [e, ← Int.add_assoc, ← Int.add_mul]
      | false =>
        simp only [cond_false]
        show p.2 * σ p.1 + sx_et σ (sx_in x c l) = c * σ x + (p.2 * σ p.1 + sx_et σ l)
        rw [sx_et_in]
        omega
theorem sx_et_adT {σ : Nat → Int} {b : sx_T} : ∀ {a : sx_T}, sx_et σ (sx_adT a b) = sx_et σ a + sx_et σ b
  | [] => by
    show sx_et σ b = 0 + sx_et σ b
    omega
  | p :: a => by
    show sx_et σ (sx_in p.1 p.2 (sx_adT a b)) = (p.2 * σ p.1 + sx_et σ a) + sx_et σ b
    rw [sx_et_in, sx_et_adT]
    omega
theorem sx_ev_ad {σ : Nat → Int} {a b : sx_E} : sx_ev σ (sx_ad a b) = sx_ev σ a + sx_ev σ b := by
  show a.1 + b.1 + sx_et σ (sx_adT a.2 b.2) = (a.1 + sx_et σ a.2) + (b.1 + sx_et σ b.2)
  rw [sx_et_adT]
  omega
theorem sx_et_scT {σ : Nat → Int} {k : Int} : ∀ {l : sx_T}, sx_et σ (sx_scT k l) = k * sx_et σ l
  | [] => by
    show (0 : Int) = k * 0
    simp
  | p :: l => by
    show k * p.2 * σ p.1 + sx_et σ (sx_scT k l) = k * (p.2 * σ p.1 + sx_et σ l)
    rw [sx_et_scT, Int.mul_add, Int.mul_assoc]
theorem sx_ev_sc {σ : Nat → Int} {k : Int} {e : sx_E} : sx_ev σ (sx_sc k e) = k * sx_ev σ e := by
  unfold sx_sc
  cases h : k == 0 with
  | true =>
    have e0 : k = 0 := eq_of_beq h
    rw [e0]
    show (0 : Int) + 0 = 0 * _
    simp
  | false =>
    show k * e.1 + sx_et σ (sx_scT k e.2) = k * (e.1 + sx_et σ e.2)
    rw [sx_et_scT, Int.mul_add]
theorem sx_ev_sb {σ : Nat → Int} {a b : sx_E} : sx_ev σ (sx_sb a b) = sx_ev σ a - sx_ev σ b := by
  show sx_ev σ (sx_ad a (sx_sc (-1) b)) = _
  rw [sx_ev_ad, sx_ev_sc]
  omega
theorem sx_ev_ng {σ : Nat → Int} {a : sx_E} : sx_ev σ (sx_ng a) = - sx_ev σ a := by
  show sx_ev σ (sx_sc (-1) a) = _
  rw [sx_ev_sc]
  omega
theorem sx_ev_k {σ : Nat → Int} {c : Int} : sx_ev σ (sx_k c) = c := by
  show c + 0 = c
  omega
theorem sx_ev_v {σ : Nat → Int} {x : Nat} : sx_ev σ (sx_v x) = σ x := by
  show 0 + (1 * σ x + 0) = σ x
  omega
theorem sx_ev_pk {σ : Nat → Int} {e : sx_E} {c : Int} : sx_ev σ (sx_pk e c) = sx_ev σ e + c := by
  show e.1 + c + sx_et σ e.2 = e.1 + sx_et σ e.2 + c
  omega
def sx_eqT : sx_T → sx_T → Bool
  | [], [] => true
  | p :: a, q :: b => Nat.beq p.1 q.1 && (p.2 == q.2 && sx_eqT a b)
  | _, _ => false
def sx_eq (a b : sx_E) : Bool := a.1 == b.1 && sx_eqT a.2 b.2
theorem sx_eqT_eq : ∀ {a b : sx_T}, sx_eqT a b = true → a = b
  | [], [], _ => rfl
  | [], _ :: _, h => by cases h
  | _ :: _, [], h => by cases h
  | p :: a, q :: b, h => by
    have h : (Nat.beq p.1 q.1 && (p.2 == q.2 && sx_eqT a b)) = true := h
    rw [Bool.and_eq_true, Bool.and_eq_true] at h
    obtain ⟨h1, h2, h3⟩ := h
    rw [sx_eqT_eq h3]
    have e1 := Nat.eq_of_beq_eq_true h1
    have e2 : p.2 = q.2 := eq_of_beq h2
    rw [show p = q from Prod.ext e1 e2]
theorem sx_eq_eq {a b : sx_E} (h : sx_eq a b = true) : a = b := by
  unfold sx_eq at h
  rw [Bool.and_eq_true] at h
  exact Prod.ext (eq_of_beq h.1) (sx_eqT_eq h.2)
/-! bounds -/
abbrev sx_B : Type := List (Nat × Int × Int)
abbrev sx_J : Type := Nat → Option (Int × Int)
def sx_lk : Nat → sx_B → Option (Int × Int)
  | _, [] => none
  | x, p :: l => bif Nat.beq p.1 x then some p.2 else sx_lk x l
def sx_bd (J : sx_J) (B : sx_B) (x : Nat) : Option (Int × Int) := match sx_lk x B with
  | some p => some p
  | none => J x
def sx_Jok (J : sx_J) (σ : Nat → Int) : Prop := ∀ (x : Nat) (p : Int × Int), J x = some p → p.1 ≤ σ x ∧ σ x ≤ p.2
def sx_Bok (B : sx_B) (σ : Nat → Int) : Prop := ∀ (x : Nat) (p : Int × Int), sx_lk x B = some p → p.1 ≤ σ x ∧ σ x ≤ p.2
def sx_Lok (L : List sx_E) (σ : Nat → Int) : Prop := ∀ e ∈ L, 0 ≤ sx_ev σ e
theorem sx_bd_ok {J : sx_J} {B : sx_B} {σ : Nat → Int} (hJ : sx_Jok J σ) (hB : sx_Bok B σ) {x : Nat} {p : Int × Int} (h : sx_bd J B x = some p) : p.1 ≤ σ x ∧ σ x ≤ p.2 := by
  unfold sx_bd at h
  split at h
  · next q hq =>
    cases h
    exact hB x _ hq
  · exact hJ x p h
theorem sx_Bok_cons {B : sx_B} {σ : Nat → Int} {x : Nat} {p : Int × Int} (hB : sx_Bok B σ) (h : p.1 ≤ σ x ∧ σ x ≤ p.2) : sx_Bok ((x, p) :: B) σ := by
  intro y q hq
  unfold sx_lk at hq
  cases hb : Nat.beq x y with
  | true =>
    have e := Nat.eq_of_beq_eq_true hb
    rw [hb] at hq
    cases hq
    rw [← e]
    exact h
  | false =>
    rw [hb] at hq
    exact hB y q hq
/-- the least that a sum can be -/
def sx_lbT (J : sx_J) (B : sx_B) : sx_T → Option Int
  | [] => some 0
  | p :: l => match sx_bd J B p.1 with
    | some b => (match sx_lbT J B l with
      | some r => some ((bif sx_le 0 p.2 then p.2 * b.1 else p.2 * b.2) + r)
      | none => none)
    | none => none
theorem sx_lbT_ok {J : sx_J} {B : sx_B} {σ : Nat → Int} (hJ : sx_Jok J σ) (hB : sx_Bok B σ) : ∀ {l : sx_T} {r : Int}, sx_lbT J B l = some r → r ≤ sx_et σ l
  | [], r, h => by
    cases h
    exact Int.le_refl _
  | p :: l, r, h => by
    unfold sx_lbT at h
    split at h
    · next b hb =>
      split at h
      · next r2 hr =>
        cases h
        have h1 := sx_bd_ok hJ hB hb
        have h2 := sx_lbT_ok hJ hB hr
        show _ ≤ p.2 * σ p.1 + sx_et σ l
        cases hc : sx_le 0 p.2 with
        | true =>
          have h3 := sx_le_iff.mp hc
          have h4 := Int.mul_le_mul_of_nonneg_left h1.1 h3
          show p.2 * b.1 + r2 ≤ _
          omega
        | false =>
          have h3 : ¬ (0 ≤ p.2) := fun z => by rw [sx_le_iff.mpr z] at hc; cases hc
          have h4 := Int.mul_le_mul_of_nonpos_left (a := p.2) (by omega) h1.2
          show p.2 * b.2 + r2 ≤ _
          omega
      · cases h
    · cases h
def sx_lb (J : sx_J) (B : sx_B) (e : sx_E) : Option Int := match sx_lbT J B e.2 with
  | some r => some (e.1 + r)
  | none => none
def sx_ub (J : sx_J) (B : sx_B) (e : sx_E) : Option Int := match sx_lb J B (sx_ng e) with
  | some r => some (-r)
  | none => none
theorem sx_lb_ok {J : sx_J} {B : sx_B} {σ : Nat → Int} (hJ : sx_Jok J σ) (hB : sx_Bok B σ) {e : sx_E} {r : Int} (h : sx_lb J B e = some r) : r ≤ sx_ev σ e := by
  unfold sx_lb at h
  split at h
  · next r2 hr =>
    cases h
    have := sx_lbT_ok hJ hB hr
    show e.1 + r2 ≤ e.1 + sx_et σ e.2
    omega
  · cases h
theorem sx_ub_ok {J : sx_J} {B : sx_B} {σ : Nat → Int} (hJ : sx_Jok J σ) (hB : sx_Bok B σ) {e : sx_E} {r : Int} (h : sx_ub J B e = some r) : sx_ev σ e ≤ r := by
  unfold sx_ub at h
  split at h
  · next r2 hr =>
    cases h
    have := sx_lb_ok hJ hB hr
    rw [sx_ev_ng] at this
    omega
  · cases h
def sx_nn (J : sx_J) (B : sx_B) (e : sx_E) : Bool := match sx_lb J B e with
  | some r => sx_le 0 r
  | none => false
theorem sx_nn_ok {J : sx_J} {B : sx_B} {σ : Nat → Int} (hJ : sx_Jok J σ) (hB : sx_Bok B σ) {e : sx_E} (h : sx_nn J B e = true) : 0 ≤ sx_ev σ e := by
  unfold sx_nn at h
  split at h
  · next r hr =>
    have h1 := sx_lb_ok hJ hB hr
    have h2 := sx_le_iff.mp h
    omega
  · cases h
def sx_any {α : Type} (f : α → Bool) : List α → Bool
  | [] => false
  | a :: l => bif f a then true else sx_any f l
theorem sx_any_ok {α : Type} {f : α → Bool} : ∀ {l : List α}, sx_any f l = true → ∃ a ∈ l, f a = true
  | [], h => by cases h
  | a :: l, h => by
    unfold sx_any at h
    cases hf : f a with
    | true => exact ⟨a, List.mem_cons_self, hf⟩
    | false =>
      rw [hf] at h
      obtain ⟨b, h1, h2⟩ := sx_any_ok (l := l) h
      exact ⟨b, List.mem_cons_of_mem _ h1, h2⟩
/-- a number stands in both, with the same sign -/
def sx_tch (f e : sx_E) : Bool := sx_any (fun p => sx_any (fun q => Nat.beq p.1 q.1 && sx_le 1 (p.2 * q.2)) e.2) f.2
/-- the sum is 0 or more: by bounds, and by some of the known sums that are -/
def sx_pv (J : sx_J) (B : sx_B) (L : List sx_E) : Nat → sx_E → Bool
  | 0, e => sx_nn J B e
  | n + 1, e => bif sx_nn J B e then true else sx_any (fun f => sx_tch f e && sx_pv J B L n (sx_sb e f)) L
theorem sx_pv_ok {J : sx_J} {B : sx_B} {L : List sx_E} {σ : Nat → Int} (hJ : sx_Jok J σ) (hB : sx_Bok B σ) (hL : sx_Lok L σ) : ∀ {n : Nat} {e : sx_E}, sx_pv J B L n e = true → 0 ≤ sx_ev σ e
  | 0, e, h => sx_nn_ok hJ hB h
  | n + 1, e, h => by
    unfold sx_pv at h
    cases hn : sx_nn J B e with
    | true => exact sx_nn_ok hJ hB hn
    | false =>
      rw [hn] at h
      obtain ⟨f, h1, h2⟩ := sx_any_ok h
      have h3 := sx_pv_ok hJ hB hL ((Bool.and_eq_true _ _).mp h2).2
      have h4 := hL f h1
      rw [sx_ev_sb] at h3
      omega
/-- unknown numbers that are known by now -/
def sx_nrT (J : sx_J) (B : sx_B) : sx_T → Int × sx_T
  | [] => (0, [])
  | p :: l => match sx_nrT J B l with
    | (c, r) => (match sx_bd J B p.1 with
      | some b => (bif b.1 == b.2 then (c + p.2 * b.1, r) else (c, p :: r))
      | none => (c, p :: r))
def sx_nr (J : sx_J) (B : sx_B) (e : sx_E) : sx_E := match e.2 with
  | [] => e
  | t => (match sx_nrT J B t with
    | (c, r) => (e.1 + c, r))
theorem sx_nrT_ok {J : sx_J} {B : sx_B} {σ : Nat → Int} (hJ : sx_Jok J σ) (hB : sx_Bok B σ) : ∀ {l : sx_T}, (sx_nrT J B l).1 + sx_et σ (sx_nrT J B l).2 = sx_et σ l
  | [] => rfl
  | p :: l => by
    have ih := sx_nrT_ok hJ hB (l := l)
    unfold sx_nrT
    show _ = p.2 * σ p.1 + sx_et σ l
    cases h : sx_bd J B p.1 with
    | none =>
      show (sx_nrT J B l).1 + (p.2 * σ p.1 + sx_et σ (sx_nrT J B l).2) = _
      omega
    | some b =>
      have h1 := sx_bd_ok hJ hB h
      cases hb : b.1 == b.2 with
      | true =>
        have e1 : b.1 = b.2 := eq_of_beq hb
        have e2 : σ p.1 = b.1 := by omega
        simp only [hb, cond_true]
        rw [e2]
        omega
      | false =>
        simp only [hb, cond_false]
        show (sx_nrT J B l).1 + (p.2 * σ p.1 + sx_et σ (sx_nrT J B l).2) = _
        omega
theorem sx_nr_ok {J : sx_J} {B : sx_B} {σ : Nat → Int} (hJ : sx_Jok J σ) (hB : sx_Bok B σ) {e : sx_E} : sx_ev σ (sx_nr J B e) = sx_ev σ e := by
  have h := sx_nrT_ok hJ hB (l := e.2)
  unfold sx_nr
  split
  · rfl
  · show e.1 + (sx_nrT J B e.2).1 + sx_et σ (sx_nrT J B e.2).2 = e.1 + sx_et σ e.2
    omega
