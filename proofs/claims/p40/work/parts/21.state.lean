/-! STATES WITH UNKNOWN NUMBERS: places of memory hold sums, rows of numbers have names -/
abbrev sx_V : Type := Value ⊕ (Bool × sx_E)
abbrev sx_L : Type := List (Nat × sx_V)
/-- a fact: its sort, the rows and the sums that it speaks of -/
abbrev sx_F : Type := Nat × List Nat × List sx_E
abbrev sx_D : Type := List (Nat × sx_E) × List (Nat × Nat) × sx_B × List sx_E × List sx_F × Nat × Nat
abbrev sx_C : Type := Nat × sx_L × List sx_V × sx_D
/-- a cell of the memory: an object (class; fields: known, or a place), or a row (kind, how many, place) -/
abbrev sx_cl : Type := (Nat × List (Value ⊕ Nat)) ⊕ (Nat × Nat × Nat)
abbrev sx_tp : Type := Nat → Option sx_cl
def sx_lkE (j : Nat) : List (Nat × sx_E) → Option sx_E
  | [] => none
  | p :: l => bif Nat.beq p.1 j then some p.2 else sx_lkE j l
def sx_lkN (j : Nat) : List (Nat × Nat) → Option Nat
  | [] => none
  | p :: l => bif Nat.beq p.1 j then some p.2 else sx_lkN j l
def sx_lkV (j : Nat) : sx_L → Option sx_V
  | [] => none
  | p :: l => bif Nat.beq p.1 j then some p.2 else sx_lkV j l
def sx_sg (D : sx_D) (j : Nat) : sx_E := match sx_lkE j D.1 with
  | some e => e
  | none => sx_v j
def sx_ag (D : sx_D) (j : Nat) : Nat := match sx_lkN j D.2.1 with
  | some a => a
  | none => j
def sx_setE (j : Nat) (e : sx_E) (l : List (Nat × sx_E)) : List (Nat × sx_E) := (j, e) :: l.filter (fun p => !(Nat.beq p.1 j))
def sx_setN (j : Nat) (a : Nat) (l : List (Nat × Nat)) : List (Nat × Nat) := (j, a) :: l.filter (fun p => !(Nat.beq p.1 j))
theorem sx_lkE_filter {j i : Nat} (h : ¬ i = j) : ∀ {l : List (Nat × sx_E)}, sx_lkE i (l.filter (fun p => !(Nat.beq p.1 j))) = sx_lkE i l
  | [] => rfl
  | p :: l => by
    rw [List.filter_cons]
    cases hb : Nat.beq p.1 j with
    | true =>
      have e := Nat.eq_of_beq_eq_true hb
      show sx_lkE i (l.filter _) = (bif Nat.beq p.1 i then some p.2 else sx_lkE i l)
      have : Nat.beq p.1 i = false := by
        cases hc : Nat.beq p.1 i with
        | false => rfl
        | true => exact absurd ((Nat.eq_of_beq_eq_true hc).symm.trans e) h
      rw [this]
      exact sx_lkE_filter h
    | false =>
      show (bif Nat.beq p.1 i then some p.2 else sx_lkE i (l.filter _)) = (bif Nat.beq p.1 i then some p.2 else sx_lkE i l)
      rw [sx_lkE_filter h]
theorem sx_lkN_filter {j i : Nat} (h : ¬ i = j) : ∀ {l : List (Nat × Nat)}, sx_lkN i (l.filter (fun p => !(Nat.beq p.1 j))) = sx_lkN i l
  | [] => rfl
  | p :: l => by
    rw [List.filter_cons]
    cases hb : Nat.beq p.1 j with
    | true =>
      have e := Nat.eq_of_beq_eq_true hb
      show sx_lkN i (l.filter _) = (bif Nat.beq p.1 i then some p.2 else sx_lkN i l)
      have : Nat.beq p.1 i = false := by
        cases hc : Nat.beq p.1 i with
        | false => rfl
        | true => exact absurd ((Nat.eq_of_beq_eq_true hc).symm.trans e) h
      rw [this]
      exact sx_lkN_filter h
    | false =>
      show (bif Nat.beq p.1 i then some p.2 else sx_lkN i (l.filter _)) = (bif Nat.beq p.1 i then some p.2 else sx_lkN i l)
      rw [sx_lkN_filter h]
theorem sx_beq_rf (j : Nat) : Nat.beq j j = true := by simp [Nat.beq_refl]
theorem sx_beq_ne {i j : Nat} (h : ¬ i = j) : Nat.beq i j = false := by
  cases hb : Nat.beq i j with
  | false => rfl
  | true => exact absurd (Nat.eq_of_beq_eq_true hb) h
theorem sx_lkE_set {i j : Nat} {e : sx_E} {l : List (Nat × sx_E)} : sx_lkE i (sx_setE j e l) = if i = j then some e else sx_lkE i l := by
  unfold sx_setE
  show (bif Nat.beq j i then some e else sx_lkE i (l.filter _)) = _
  by_cases h : i = j
  · subst h
    rw [sx_beq_rf, if_pos rfl]
    rfl
  · rw [sx_beq_ne (fun z => h z.symm), if_neg h]
    exact sx_lkE_filter h
theorem sx_lkN_set {i j : Nat} {e : Nat} {l : List (Nat × Nat)} : sx_lkN i (sx_setN j e l) = if i = j then some e else sx_lkN i l := by
  unfold sx_setN
  show (bif Nat.beq j i then some e else sx_lkN i (l.filter _)) = _
  by_cases h : i = j
  · subst h
    rw [sx_beq_rf, if_pos rfl]
    rfl
  · rw [sx_beq_ne (fun z => h z.symm), if_neg h]
    exact sx_lkN_filter h
def sx_putE (D : sx_D) (j : Nat) (e : sx_E) : sx_D := (sx_setE j e D.1, D.2)
def sx_putN (D : sx_D) (j : Nat) (a : Nat) : sx_D := (D.1, sx_setN j a D.2.1, D.2.2)
theorem sx_sg_put {D : sx_D} {i j : Nat} {e : sx_E} : sx_sg (sx_putE D j e) i = if i = j then e else sx_sg D i := by
  unfold sx_sg sx_putE
  simp only [sx_lkE_set]
  by_cases h : i = j
  · simp [h]
  · simp [h]
theorem sx_ag_put {D : sx_D} {i j a : Nat} : sx_ag (sx_putN D j a) i = if i = j then a else sx_ag D i := by
  unfold sx_ag sx_putN
  simp only [sx_lkN_set]
  by_cases h : i = j
  · simp [h]
  · simp [h]
/-- static arrays as the claim has them -/
def mx_SAx (j : Nat) : Option (Nat × vp_A) := match mx_SAL.find? (fun q => Nat.beq q.1 j) with
  | some (_, t, l) => some (t, l.length, bif Nat.beq t 3 then .inr (.inl fun i => Int64.ofInt (l.getD i 0)) else .inl fun i => Int32.ofInt (l.getD i 0))
  | none => none
/-! what they stand for -/
abbrev sx_R : Type := Nat → Nat → Int
def sx_iv : Value → Int
  | .int x => x.toInt
  | .long x => x.toInt
  | _ => 0
def sx_vr (σ : Nat → Int) (a : sx_V) (v : Value) : Prop := match a with
  | .inl w => v = w
  | .inr (true, e) => ∃ x : Int32, v = .int x ∧ x.toInt = sx_ev σ e
  | .inr (false, e) => ∃ x : Int64, v = .long x ∧ x.toInt = sx_ev σ e
def sx_vs (σ : Nat → Int) : List sx_V → List Value → Prop
  | [], [] => True
  | a :: as, v :: vs => sx_vr σ a v ∧ sx_vs σ as vs
  | _, _ => False
def sx_lr (σ : Nat → Int) (l : sx_L) (r : mx_L) : Prop := ∀ (i : Nat) (a : sx_V), sx_lkV i l = some a → ∃ v, mx_lk i r = some v ∧ sx_vr σ a v
def sx_fr (σ : Nat → Int) (D : sx_D) (f : Value ⊕ Nat) (v : Value) : Prop := match f with
  | .inl w => v = w
  | .inr j => ∃ x : Int32, v = .int x ∧ x.toInt = sx_ev σ (sx_sg D j)
def sx_fm (σ : Nat → Int) (D : sx_D) : List (Value ⊕ Nat) → List Value → Prop
  | [], [] => True
  | f :: fs, v :: vs => sx_fr σ D f v ∧ sx_fm σ D fs vs
  | _, _ => False
def sx_cm (σ : Nat → Int) (φ : sx_R) (D : sx_D) (c : sx_cl) (e : mx_E) : Prop := match c with
  | .inl (ci, fs) => ∃ gs, e = .inl (ci, gs) ∧ sx_fm σ D fs gs
  | .inr (t, n, j) => ∃ x : vp_A, e = .inr (t, x) ∧ x.1 = n ∧ mx_kd t x = true ∧ ∀ i, i < n → sx_iv (mx_con x i) = φ (sx_ag D j) i
def sx_mm (tp : sx_tp) (nc : Nat) (σ : Nat → Int) (φ : sx_R) (D : sx_D) (M : mx_M) : Prop := M.length = nc ∧ ∀ (q : Nat) (c : sx_cl), tp q = some c → ∃ e, M[q]? = some e ∧ sx_cm σ φ D c e
/-- each place is one of one cell alone -/
def sx_own (tp : sx_tp) : Prop :=
  (∀ (q q' ci ci' : Nat) (fs fs' : List (Value ⊕ Nat)) (k k' j : Nat), tp q = some (.inl (ci, fs)) → tp q' = some (.inl (ci', fs')) → fs[k]? = some (.inr j) → fs'[k']? = some (.inr j) → q = q' ∧ k = k') ∧
  (∀ (q q' t t' n n' j : Nat), tp q = some (.inr (t, n, j)) → tp q' = some (.inr (t', n', j)) → q = q') ∧
  (∀ (q ci : Nat) (fs : List (Value ⊕ Nat)) (k j : Nat), tp q = some (.inl (ci, fs)) → fs[k]? = some (.inr j) → j < 250) ∧
  (∀ (q t n j : Nat), tp q = some (.inr (t, n, j)) → j < 250 ∧ n < 2000 ∧ t < 4) ∧ ∀ (q : Nat) (c : sx_cl), tp q = some c → q < 1000
/-- an operation's answer, as a number: 9 to 18, 30 to 32 of ints, 19 to 26, 29 of longs -/
def sx_fn (o : Nat) (x y : Int) : Int := match o with
  | 9 => (Int32.ofInt x + Int32.ofInt y).toInt
  | 10 => (Int32.ofInt x - Int32.ofInt y).toInt
  | 11 => (Int32.ofInt x * Int32.ofInt y).toInt
  | 12 => (Int32.ofInt x &&& Int32.ofInt y).toInt
  | 13 => (Int32.ofInt x ||| Int32.ofInt y).toInt
  | 14 => (Int32.ofInt x / Int32.ofInt y).toInt
  | 15 => (Int32.ofInt x - Int32.ofInt x / Int32.ofInt y * Int32.ofInt y).toInt
  | 16 => (-Int32.ofInt x).toInt
  | 17 => (Int32.ofInt x <<< (Int32.ofInt y &&& 31)).toInt
  | 18 => (Int32.ofInt x >>> (Int32.ofInt y &&& 31)).toInt
  | 19 => (Int64.ofInt x + Int64.ofInt y).toInt
  | 20 => (Int64.ofInt x - Int64.ofInt y).toInt
  | 21 => (Int64.ofInt x * Int64.ofInt y).toInt
  | 22 => (Int64.ofInt x / Int64.ofInt y).toInt
  | 23 => (Int64.ofInt x &&& Int64.ofInt y).toInt
  | 24 => (Int64.ofInt x ||| Int64.ofInt y).toInt
  | 25 => (Int64.ofInt x <<< ((Int32.ofInt y).toInt64 &&& 63)).toInt
  | 26 => (Int64.ofInt x >>> ((Int32.ofInt y).toInt64 &&& 63)).toInt
  | 29 => (Int64.ofInt x).toInt32.toInt
  | 30 => (Int32.ofInt x).toInt8.toInt32.toInt
  | 31 => (Int32.ofInt x).toInt16.toInt32.toInt
  | _ => ((Int32.ofInt x).toUInt32 % 65536).toInt32.toInt
/-- the facts' meanings: 1 not 0; 2 an element; 3, 4 bounds of all elements; 5 a row with one element put; 100 + o an operation's answer; from 1000 on what the proof says -/
abbrev sx_TG : Type := Nat → List (Nat → Int) → List Int → Prop
def sx_fs (TG : sx_TG) (k : Nat) (as : List (Nat → Int)) (es : List Int) : Prop := match k, as, es with
  | 1, [], [e] => ¬ e = 0
  | 2, [a], [i, v] => a i.toNat = v
  | 3, [a], [u] => ∀ j, a j ≤ u
  | 4, [a], [u] => ∀ j, u ≤ a j
  | 5, [a, b], [i, v] => ∀ j, b j = if j = i.toNat then v else a j
  | 6, [a], [i, l, h] => l ≤ a i.toNat ∧ a i.toNat ≤ h
  | 7, [a, c, b], [sp, dp, n] => ∀ j, b j = if dp.toNat ≤ j ∧ j < dp.toNat + n.toNat then a (sp.toNat + (j - dp.toNat)) else c j
  | k, as, es => if 1000 ≤ k then TG k as es else match as, es with
    | [], [x, y, r] => if 100 ≤ k then sx_fn (k - 100) x y = r else True
    | _, _ => True
def sx_fk (TG : sx_TG) (σ : Nat → Int) (φ : sx_R) (f : sx_F) : Prop := sx_fs TG f.1 (f.2.1.map φ) (f.2.2.map (sx_ev σ))
def sx_dr (J JA : sx_J) (TG : sx_TG) (σ : Nat → Int) (φ : sx_R) (D : sx_D) : Prop :=
  sx_Jok J σ ∧ (∀ (a : Nat) (p : Int × Int), JA a = some p → ∀ j, p.1 ≤ φ a j ∧ φ a j ≤ p.2) ∧ sx_Bok D.2.2.1 σ ∧ sx_Lok D.2.2.2.1 σ ∧ ∀ f ∈ D.2.2.2.2.1, sx_fk TG σ φ f
/-- the script: static row 300, its length number 255, its elements row 255 -/
def sx_sr (SA : mx_S) (σ : Nat → Int) (φ : sx_R) (D : sx_D) : Prop :=
  (∀ j, ¬ j = 300 → SA j = mx_SAx j) ∧ (∃ x : vp_A, SA 300 = some (0, x) ∧ mx_kd 0 x = true ∧ ((x.1 : Int) = σ 255 ∧ x.1 < 2147483648) ∧ ∀ i, i < x.1 → sx_iv (mx_con x i) = φ 255 i) ∧ 256 ≤ D.2.2.2.2.2.1 ∧ 256 ≤ D.2.2.2.2.2.2 ∧ ∀ j, j < 256 → sx_ag D j < D.2.2.2.2.2.2
/-- everything that the checks go by: bounds of places, of rows; the memory's make; the static rows as they are; the facts' meanings -/
abbrev sx_P : Type := sx_J × sx_J × sx_tp × Nat
def sx_ok (P : sx_P) (SA : mx_S) (TG : sx_TG) (σ : Nat → Int) (φ : sx_R) (D : sx_D) (M : mx_M) : Prop :=
  sx_mm P.2.2.1 P.2.2.2 σ φ D M ∧ sx_dr P.1 P.2.1 TG σ φ D ∧ sx_sr SA σ φ D
def sx_rel (P : sx_P) (SA : mx_S) (TG : sx_TG) (σ : Nat → Int) (φ : sx_R) (c : sx_C) (d : mx_C) : Prop :=
  c.1 = d.1 ∧ sx_lr σ c.2.1 d.2.1 ∧ sx_vs σ c.2.2.1 d.2.2.1 ∧ sx_ok P SA TG σ φ c.2.2.2 d.2.2.2
def sx_nx (D : sx_D) : Nat := D.2.2.2.2.2.1
def sx_nm (D : sx_D) : Nat := D.2.2.2.2.2.2
/-- the same for all unknown numbers from nx on, all rows from nm on -/
def sx_ag2 (n m : Nat) (σ σ' : Nat → Int) (φ φ' : sx_R) : Prop := (∀ i, i < n → σ' i = σ i) ∧ ∀ a, a < m → φ' a = φ a
def sx_st (n m : Nat) (σ : Nat → Int) (φ : sx_R) (p : (Nat → Int) → sx_R → Prop) : Prop := ∀ σ' φ', sx_ag2 n m σ σ' φ φ' → p σ' φ'
theorem sx_ag2.rf {n m : Nat} {σ : Nat → Int} {φ : sx_R} : sx_ag2 n m σ σ φ φ := ⟨fun _ _ => rfl, fun _ _ => rfl⟩
theorem sx_ag2.tr {n m n' m' : Nat} {σ σ' σ'' : Nat → Int} {φ φ' φ'' : sx_R} (hn : n ≤ n') (hm : m ≤ m') (h1 : sx_ag2 n m σ σ' φ φ') (h2 : sx_ag2 n' m' σ' σ'' φ' φ'') : sx_ag2 n m σ σ'' φ φ'' :=
  ⟨fun i hi => (h2.1 i (by omega)).trans (h1.1 i hi), fun a ha => (h2.2 a (by omega)).trans (h1.2 a ha)⟩
/-- new numbers and rows: chosen once, for all that come behind -/
theorem sx_lift2 {p : (Nat → Int) → sx_R → Prop} {α : Type} {op : Option α} {q : α → (Nat → Int) → sx_R → Prop} {n m n' m' : Nat} {σ : Nat → Int} {φ : sx_R} (hn : n ≤ n') (hm : m ≤ m') (v : Nat → Int) (w : sx_R) (h : sx_st n m σ φ p)
    (hs : ∀ σ' φ', sx_ag2 n m σ σ' φ φ' → p σ' φ' → (∀ i, n ≤ i → i < n' → σ' i = v i) → (∀ a, m ≤ a → a < m' → φ' a = w a) → ∃ d', op = some d' ∧ q d' σ' φ') :
    ∃ d', op = some d' ∧ ∃ σ' φ', sx_ag2 n m σ σ' φ φ' ∧ sx_st n' m' σ' φ' (q d') := by
  have key : ∀ σ2 φ2, sx_ag2 n' m' (fun i => if i < n then σ i else v i) σ2 (fun a => if a < m then φ a else w a) φ2 → ∃ d', op = some d' ∧ q d' σ2 φ2 := by
    intro σ2 φ2 ha
    have hag : sx_ag2 n m σ σ2 φ φ2 := ⟨fun i hi => (ha.1 i (by omega)).trans (if_pos hi), fun a hi => (ha.2 a (by omega)).trans (if_pos hi)⟩
    refine hs σ2 φ2 hag (h σ2 φ2 hag) (fun i h1 h2 => ?_) (fun a h1 h2 => ?_)
    · exact (ha.1 i h2).trans (if_neg (by omega))
    · exact (ha.2 a h2).trans (if_neg (by omega))
  obtain ⟨d', e1, e2⟩ := key _ _ sx_ag2.rf
  refine ⟨d', e1, (fun i => if i < n then σ i else v i), (fun a => if a < m then φ a else w a), ⟨fun i hi => if_pos hi, fun a hi => if_pos hi⟩, fun σ2 φ2 ha => ?_⟩
  obtain ⟨d2, f1, f2⟩ := key σ2 φ2 ha
  rw [e1] at f1
  cases f1
  exact f2
