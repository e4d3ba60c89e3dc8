/-! INSTRUCTIONS: WHAT MAY COME COMES -/
section SXO
variable {P : sx_P} {SA : mx_S} {TG : sx_TG} {σ : Nat → Int} {φ : sx_R} {D D' : sx_D} {c c' : sx_C} {d : mx_C} {os : List sx_C} {r : Option mx_C}
def sx_suc (P : sx_P) (SA : mx_S) (TG : sx_TG) (c : sx_C) (d : mx_C) (r : Option mx_C) (os : List sx_C) (σ : Nat → Int) (φ : sx_R) : Prop :=
  ∃ d', r = some d' ∧ ∃ c' ∈ os, sx_nx c.2.2.2 ≤ sx_nx c'.2.2.2 ∧ sx_nm c.2.2.2 ≤ sx_nm c'.2.2.2 ∧ ∃ σ' φ', sx_ag2 (sx_nx c.2.2.2) (sx_nm c.2.2.2) σ σ' φ φ' ∧ sx_st (sx_nx c'.2.2.2) (sx_nm c'.2.2.2) σ' φ' (fun σ φ => sx_rel P SA TG σ φ c' d')
abbrev sx_str (P : sx_P) (SA : mx_S) (TG : sx_TG) (c : sx_C) (d : mx_C) (σ : Nat → Int) (φ : sx_R) : Prop := sx_st (sx_nx c.2.2.2) (sx_nm c.2.2.2) σ φ (fun σ φ => sx_rel P SA TG σ φ c d)
theorem sx_str.here (h : sx_str P SA TG c d σ φ) : sx_rel P SA TG σ φ c d := h σ φ sx_ag2.rf
theorem sp_go2 (hc : c' ∈ os) (hn : sx_nx c.2.2.2 ≤ sx_nx c'.2.2.2) (hm : sx_nm c.2.2.2 ≤ sx_nm c'.2.2.2) (v : Nat → Int) (w : sx_R) (hst : sx_str P SA TG c d σ φ)
    (h : ∀ σ' φ', sx_ag2 (sx_nx c.2.2.2) (sx_nm c.2.2.2) σ σ' φ φ' → sx_rel P SA TG σ' φ' c d → (∀ i, sx_nx c.2.2.2 ≤ i → i < sx_nx c'.2.2.2 → σ' i = v i) → (∀ a, sx_nm c.2.2.2 ≤ a → a < sx_nm c'.2.2.2 → φ' a = w a) → ∃ d', r = some d' ∧ sx_rel P SA TG σ' φ' c' d') : sx_suc P SA TG c d r os σ φ := by
  obtain ⟨d', e1, σ', φ', e2, e3⟩ := sx_lift2 (q := fun d' σ φ => sx_rel P SA TG σ φ c' d') hn hm v w hst h
  exact ⟨d', e1, c', hc, hn, hm, σ', φ', e2, e3⟩
theorem sp_go (hc : c' ∈ os) (hn : sx_nx c.2.2.2 ≤ sx_nx c'.2.2.2) (hm : sx_nm c.2.2.2 ≤ sx_nm c'.2.2.2) (v : Nat → Int) (w : sx_R) (hst : sx_str P SA TG c d σ φ)
    (h : ∀ σ φ, sx_rel P SA TG σ φ c d → (∀ i, sx_nx c.2.2.2 ≤ i → i < sx_nx c'.2.2.2 → σ i = v i) → (∀ a, sx_nm c.2.2.2 ≤ a → a < sx_nm c'.2.2.2 → φ a = w a) → ∃ d', r = some d' ∧ sx_rel P SA TG σ φ c' d') : sx_suc P SA TG c d r os σ φ := sp_go2 hc hn hm v w hst fun σ' φ' _ => h σ' φ'
/-- nothing new -/
theorem sp_no (hc : c' ∈ os) (hn : sx_nx c'.2.2.2 = sx_nx c.2.2.2) (hm : sx_nm c'.2.2.2 = sx_nm c.2.2.2) (hst : sx_str P SA TG c d σ φ) (h : ∀ σ φ, sx_rel P SA TG σ φ c d → ∃ d', r = some d' ∧ sx_rel P SA TG σ φ c' d') : sx_suc P SA TG c d r os σ φ :=
  sp_go hc (Nat.le_of_eq hn.symm) (Nat.le_of_eq hm.symm) (fun _ => 0) (fun _ _ => 0) hst fun σ φ h1 _ _ => h σ φ h1
theorem sx_vr_i {e : sx_E} {x : Int32} : sx_vr σ (.inr (true, e)) (.int x) ↔ x.toInt = sx_ev σ e := ⟨fun ⟨y, h1, h2⟩ => by cases h1; exact h2, fun h => ⟨x, rfl, h⟩⟩
theorem sx_vr_l {e : sx_E} {x : Int64} : sx_vr σ (.inr (false, e)) (.long x) ↔ x.toInt = sx_ev σ e := ⟨fun ⟨y, h1, h2⟩ => by cases h1; exact h2, fun h => ⟨x, rfl, h⟩⟩
theorem sx_vs_c {a : sx_V} {st : List sx_V} {vs : List Value} (h : sx_vs σ (a :: st) vs) : ∃ v rs, vs = v :: rs ∧ sx_vr σ a v ∧ sx_vs σ st rs := by
  match vs, h with
  | v :: rs, h => exact ⟨v, rs, rfl, h.1, h.2⟩
theorem sx_vs_i {e : sx_E} {st : List sx_V} {vs : List Value} (h : sx_vs σ (.inr (true, e) :: st) vs) : ∃ x rs, vs = .int x :: rs ∧ x.toInt = sx_ev σ e ∧ sx_vs σ st rs := by
  obtain ⟨v, rs, rfl, ⟨x, rfl, h2⟩, h3⟩ := sx_vs_c h
  exact ⟨x, rs, rfl, h2, h3⟩
theorem sx_vs_l {e : sx_E} {st : List sx_V} {vs : List Value} (h : sx_vs σ (.inr (false, e) :: st) vs) : ∃ x rs, vs = .long x :: rs ∧ x.toInt = sx_ev σ e ∧ sx_vs σ st rs := by
  obtain ⟨v, rs, rfl, ⟨x, rfl, h2⟩, h3⟩ := sx_vs_c h
  exact ⟨x, rs, rfl, h2, h3⟩
theorem sx_vs_r {w : Value} {st : List sx_V} {vs : List Value} (h : sx_vs σ (.inl w :: st) vs) : ∃ rs, vs = w :: rs ∧ sx_vs σ st rs := by
  obtain ⟨v, rs, rfl, h2, h3⟩ := sx_vs_c h
  have h2 : v = w := h2
  exact ⟨rs, by rw [h2], h3⟩
theorem so_v_ok {w : Value} : sx_vr σ (so_v w) w := by
  cases w <;> first
    | rfl
    | exact ⟨_, rfl, sx_ev_k.symm⟩
theorem sx_vr_is2 {a : sx_V} {v : Value} (h : sx_vr σ a v) : sx_is2 a = mx_is2 v := by
  match a, h with
  | .inl w, h =>
    have h : v = w := h
    rw [h]
    rfl
  | .inr (true, e), ⟨x, h, _⟩ => rw [h]; rfl
  | .inr (false, e), ⟨x, h, _⟩ => rw [h]; rfl
/-- the same memory under more facts, more numbers -/
theorem sx_fm_cg {D D' : sx_D} (h1 : D'.1 = D.1) : ∀ {fs : List (Value ⊕ Nat)} {vs : List Value}, sx_fm σ D fs vs → sx_fm σ D' fs vs
  | [], [], _ => trivial
  | [], _ :: _, h => h.elim
  | _ :: _, [], h => h.elim
  | f :: fs, v :: vs, h => by
    refine ⟨?_, sx_fm_cg h1 h.2⟩
    have := h.1
    match f, this with
    | .inl w, h => exact h
    | .inr j, ⟨x, e1, e2⟩ =>
      refine ⟨x, e1, ?_⟩
      rw [e2]
      unfold sx_sg
      rw [h1]
theorem sx_mm_cg {M : mx_M} (h1 : D'.1 = D.1) (h2 : D'.2.1 = D.2.1) (h : sx_mm P.2.2.1 P.2.2.2 σ φ D M) : sx_mm P.2.2.1 P.2.2.2 σ φ D' M := by
  refine ⟨h.1, fun q c hq => ?_⟩
  obtain ⟨e, e1, e2⟩ := h.2 q c hq
  refine ⟨e, e1, ?_⟩
  match c, e2 with
  | .inl (ci, fs), ⟨gs, a1, a2⟩ => exact ⟨gs, a1, sx_fm_cg h1 a2⟩
  | .inr (t, n, j), ⟨x, a1, a2, a3, a4⟩ =>
    refine ⟨x, a1, a2, a3, fun i hi => ?_⟩
    rw [a4 i hi]
    unfold sx_ag
    rw [h2]
theorem sx_ok_kp {M : mx_M} (hk : sx_kp D D') (h : sx_ok P SA TG σ φ D M) (hd : sx_d P TG σ φ D') : sx_ok P SA TG σ φ D' M :=
  ⟨sx_mm_cg hk.1 hk.2.1 h.1, hd, h.2.2.1, h.2.2.2.1, Nat.le_trans h.2.2.2.2.1 hk.2.2.1, by rw [hk.2.2.2]; exact h.2.2.2.2.2.1, fun j hj => by rw [hk.2.2.2]; unfold sx_ag; rw [hk.2.1]; exact h.2.2.2.2.2.2 j hj⟩
/-- an answer on the stack -/
theorem sp_an {pc n : Nat} {lv : sx_L} {st st' : List sx_V} {b : Bool} {p : sx_E × sx_D} {H : (Nat → Int) → Prop} {v : Int} {w : Value} {rs : List Value} (hc : (pc + n, lv, .inr (b, p.1) :: st', p.2) ∈ os) (ha : sx_an P TG D p v H) (hst : sx_str P SA TG (pc, lv, st, D) d σ φ)
    (hH : ∀ σ φ, sx_rel P SA TG σ φ (pc, lv, st, D) d → H σ ∧ sx_vs σ st' rs) (hw : ∀ σ e, sx_ev σ e = v → sx_vr σ (.inr (b, e)) w) (hr : r = some (d.1 + n, d.2.1, w :: rs, d.2.2.2)) : sx_suc P SA TG (pc, lv, st, D) d r os σ φ := by
  refine sp_go hc ha.1.2.2.1 (Nat.le_of_eq ha.1.2.2.2.symm) (fun _ => v) (fun _ _ => 0) hst fun σ φ h1 h2 _ => ⟨_, hr, ?_⟩
  obtain ⟨z1, z2⟩ := hH σ φ h1
  obtain ⟨a1, a2⟩ := ha.2 σ φ h1.2.2.2.2.1 z1 h2
  have e1 : pc = d.1 := h1.1
  exact ⟨by show pc + n = d.1 + n; rw [e1], h1.2.1, ⟨hw σ _ a2, z2⟩, sx_ok_kp ha.1 h1.2.2.2 a1⟩
/-- pushes and loads -/
theorem so_push_ok {a : sx_V} {n : Nat} {v : Value} (hst : sx_str P SA TG c d σ φ) (hv : ∀ σ φ, sx_rel P SA TG σ φ c d → sx_vr σ a v) (h : so_push a n c = some os) : sx_suc P SA TG c d (some (d.1 + n, d.2.1, v :: d.2.2.1, d.2.2.2)) os σ φ := by
  cases h
  refine sp_no List.mem_cons_self rfl rfl hst fun σ φ h1 => ⟨_, rfl, ?_⟩
  have e1 : c.1 = d.1 := h1.1
  exact ⟨by show c.1 + n = d.1 + n; rw [e1], h1.2.1, ⟨hv σ φ h1, h1.2.2.1⟩, h1.2.2.2⟩
def so_ld (kd a n : Nat) (d : mx_C) : Option mx_C := bif Nat.beq kd 0 then mx_ldi a n d else bif Nat.beq kd 1 then mx_ldl a n d else mx_lda a n d
theorem so_load_ok {kd a n : Nat} (hst : sx_str P SA TG c d σ φ) (h : so_load P kd a n c = some os) : sx_suc P SA TG c d (so_ld kd a n d) os σ φ := by
  unfold so_load at h
  split at h
  · next b e hl =>
    cases hk : (bif b then Nat.beq kd 0 else Nat.beq kd 1) with
    | false => rw [hk] at h; cases h
    | true =>
      rw [hk] at h
      simp only [cond_true] at h
      obtain ⟨v, l1, l2⟩ := hst.here.2.1 a _ hl
      have hv : ∀ σ φ, sx_rel P SA TG σ φ c d → sx_vr σ (.inr (b, sx_nr P.1 c.2.2.2.2.2.1 e)) v := fun σ φ h1 => by
        obtain ⟨v', m1, m2⟩ := h1.2.1 a _ hl
        rw [l1] at m1
        cases m1
        have hd := h1.2.2.2.2.1
        cases b with
        | true =>
          obtain ⟨x, rfl, m3⟩ := m2
          exact ⟨x, rfl, by rw [sx_nr_ok hd.1 hd.2.2.1]; exact m3⟩
        | false =>
          obtain ⟨x, rfl, m3⟩ := m2
          exact ⟨x, rfl, by rw [sx_nr_ok hd.1 hd.2.2.1]; exact m3⟩
      have e : so_ld kd a n d = some (d.1 + n, d.2.1, v :: d.2.2.1, d.2.2.2) := by
        cases b with
        | true =>
          obtain ⟨x, rfl, -⟩ := l2
          have hk : Nat.beq kd 0 = true := hk
          unfold so_ld mx_ldi
          rw [hk, l1]
          rfl
        | false =>
          obtain ⟨x, rfl, -⟩ := l2
          have hk : Nat.beq kd 1 = true := hk
          have e := Nat.eq_of_beq_eq_true hk
          subst e
          unfold so_ld mx_ldl
          rw [l1]
          rfl
      rw [e]
      exact so_push_ok hst hv h
  · next q hl =>
    cases hk : Nat.beq kd 2 with
    | false => rw [hk] at h; cases h
    | true =>
      rw [hk] at h
      have e := Nat.eq_of_beq_eq_true hk
      subst e
      simp only [cond_true] at h
      obtain ⟨v, l1, l2⟩ := hst.here.2.1 a _ hl
      have l2 : v = .ref q := l2
      subst l2
      have e : so_ld 2 a n d = some (d.1 + n, d.2.1, .ref q :: d.2.2.1, d.2.2.2) := by
        unfold so_ld mx_lda
        rw [l1]
        rfl
      rw [e]
      exact so_push_ok (a := .inl (.ref q)) (v := .ref q) hst (fun σ φ _ => rfl) h
  · cases h
theorem mx_is2_eq (v : Value) : (v.category == 2) = mx_is2 v := by cases v <;> rfl
theorem sx_drop_lk {f : Nat → Bool} {j : Nat} {a : sx_V} : ∀ {l : sx_L}, sx_lkV j (sx_drop f l) = some a → f j = true ∧ sx_lkV j l = some a
  | [], h => by cases h
  | q :: l, h => by
    unfold sx_drop at h
    rw [List.filter_cons] at h
    show f j = true ∧ (bif Nat.beq q.1 j then some q.2 else sx_lkV j l) = some a
    cases hb : Nat.beq q.1 j with
    | true =>
      have e := Nat.eq_of_beq_eq_true hb
      cases hf : f q.1 with
      | true =>
        rw [hf] at h
        simp only [if_true] at h
        unfold sx_lkV at h
        rw [hb] at h
        exact ⟨by rw [← e]; exact hf, h⟩
      | false =>
        rw [hf] at h
        have h2 := sx_drop_lk (l := l) h
        rw [← e, hf] at h2
        cases h2.1
    | false =>
      cases hf : f q.1 with
      | true =>
        rw [hf] at h
        simp only [if_true] at h
        unfold sx_lkV at h
        rw [hb] at h
        exact sx_drop_lk (l := l) h
      | false =>
        rw [hf] at h
        exact sx_drop_lk (l := l) h
theorem mx_lk_filter {j : Nat} {w : Value} {p : Nat × Value → Bool} (hp : p (j, w) = true) : ∀ {l : mx_L}, mx_lk j l = some w → mx_lk j (l.filter p) = some w
  | [], h => h
  | q :: l, h => by
    rw [List.filter_cons]
    obtain ⟨k, v⟩ := q
    unfold mx_lk at h
    cases hb : Nat.beq k j with
    | true =>
      have e := Nat.eq_of_beq_eq_true hb
      rw [hb] at h
      simp only [cond_true, Option.some.injEq] at h
      subst e
      subst h
      rw [if_pos hp]
      unfold mx_lk
      rw [hb]
      rfl
    | false =>
      rw [hb] at h
      simp only [cond_false] at h
      have ih := mx_lk_filter hp h
      split
      · unfold mx_lk
        rw [hb]
        exact ih
      · exact ih
theorem sx_lr_sto {i : Nat} {a : sx_V} {v : Value} {l : sx_L} {r : mx_L} (h : sx_lr σ l r) (ha : sx_vr σ a v) : sx_lr σ (sx_sto i a l) (mx_sto i v r) := by
  intro j b hb
  unfold sx_sto at hb
  unfold sx_lkV at hb
  cases hj : Nat.beq i j with
  | true =>
    rw [hj] at hb
    simp only [cond_true, Option.some.injEq] at hb
    subst hb
    refine ⟨v, ?_, ha⟩
    unfold mx_sto mx_lk
    rw [hj]
    rfl
  | false =>
    rw [hj] at hb
    simp only [cond_false] at hb
    have key : sx_lkV j l = some b ∧ ¬ j = i ∧ (j + 1 = i → sx_is2 b = false) := by
      have hji : ¬ j = i := fun z => by rw [z, sx_beq_rf] at hj; cases hj
      cases h2 : sx_i2o (sx_lkV (i - 1) l) with
      | true =>
        rw [h2] at hb
        simp only [cond_true, cond_false] at hb
        obtain ⟨z1, z2⟩ := sx_drop_lk hb
        simp only [Bool.and_eq_true, Bool.not_eq_true'] at z1
        exact ⟨z2, hji, fun z => by rw [z, sx_beq_rf] at z1; cases z1.2⟩
      | false =>
        rw [h2] at hb
        simp only [cond_true, cond_false] at hb
        obtain ⟨z1, z2⟩ := sx_drop_lk hb
        refine ⟨z2, hji, fun z => ?_⟩
        have e : i - 1 = j := by omega
        rw [e, z2] at h2
        exact h2
    obtain ⟨k1, k2, k3⟩ := key
    obtain ⟨w, w1, w2⟩ := h j b k1
    refine ⟨w, ?_, w2⟩
    unfold mx_sto mx_lk
    rw [hj]
    simp only [cond_false]
    refine mx_lk_filter ?_ w1
    show (!(j == i) && !(j + 1 == i && w.category == 2)) = true
    rw [mx_is2_eq, ← sx_vr_is2 w2]
    by_cases z : j + 1 = i
    · rw [k3 z]
      simp [k2]
    · simp [k2, z]
theorem sx_lr_sto2 {i : Nat} {a : sx_V} {v : Value} {l : sx_L} {r : mx_L} (h : sx_lr σ l r) (ha : sx_vr σ a v) : sx_lr σ (sx_sto2 i a l) (mx_sto2 i v r) := by
  intro j b hb
  unfold sx_sto2 at hb
  unfold sx_lkV at hb
  cases hj : Nat.beq i j with
  | true =>
    rw [hj] at hb
    simp only [cond_true, Option.some.injEq] at hb
    subst hb
    refine ⟨v, ?_, ha⟩
    unfold mx_sto2 mx_lk
    rw [hj]
    rfl
  | false =>
    rw [hj] at hb
    simp only [cond_false] at hb
    have key : sx_lkV j l = some b ∧ ¬ j = i ∧ ¬ j = i + 1 ∧ (j + 1 = i → sx_is2 b = false) := by
      have hji : ¬ j = i := fun z => by rw [z, sx_beq_rf] at hj; cases hj
      cases h2 : sx_i2o (sx_lkV (i - 1) l) with
      | true =>
        rw [h2] at hb
        simp only [cond_true, cond_false] at hb
        obtain ⟨z1, z2⟩ := sx_drop_lk hb
        simp only [Bool.and_eq_true, Bool.not_eq_true'] at z1
        exact ⟨z2, hji, fun z => (by rw [z, sx_beq_rf] at z1; cases z1.2.1), fun z => by rw [z, sx_beq_rf] at z1; cases z1.2.2⟩
      | false =>
        rw [h2] at hb
        simp only [cond_true, cond_false] at hb
        obtain ⟨z1, z2⟩ := sx_drop_lk hb
        simp only [Bool.and_eq_true, Bool.not_eq_true'] at z1
        refine ⟨z2, hji, fun z => (by rw [z, sx_beq_rf] at z1; cases z1.2), fun z => ?_⟩
        have e : i - 1 = j := by omega
        rw [e, z2] at h2
        exact h2
    obtain ⟨k1, k2, k4, k3⟩ := key
    obtain ⟨w, w1, w2⟩ := h j b k1
    refine ⟨w, ?_, w2⟩
    unfold mx_sto2 mx_lk
    rw [hj]
    simp only [cond_false]
    refine mx_lk_filter ?_ w1
    show (!(j == i) && (!(j == i + 1) && !(j + 1 == i && w.category == 2))) = true
    rw [mx_is2_eq, ← sx_vr_is2 w2]
    by_cases z : j + 1 = i
    · rw [k3 z]
      simp [k2, k4]
    · simp [k2, k4, z]
def so_st (kd a n : Nat) (d : mx_C) : Option mx_C := bif Nat.beq kd 0 then mx_sti a n d else bif Nat.beq kd 1 then mx_stl a n d else mx_sta a n d
theorem so_store_ok {kd a n : Nat} (hst : sx_str P SA TG c d σ φ) (h : so_store kd a n c = some os) : sx_suc P SA TG c d (so_st kd a n d) os σ φ := by
  obtain ⟨pc, lv, st, D⟩ := c
  obtain ⟨pc', lv', st', M⟩ := d
  unfold so_store at h
  have hh := hst.here
  match st, hst, hh, h with
  | .inr (true, e) :: st, hst, hh, h =>
    obtain ⟨x, rs, rfl, -, -⟩ := sx_vs_i hh.2.2.1
    cases hk : Nat.beq kd 0 with
    | false => simp only [hk, cond_false] at h; cases h
    | true =>
      simp only [hk, cond_true] at h
      cases h
      refine sp_no List.mem_cons_self rfl rfl hst fun σ φ h1 => ⟨(pc' + n, mx_sto a (.int x) lv', rs, M), by unfold so_st mx_sti; rw [hk]; rfl, ?_⟩
      have e1 : pc = pc' := h1.1
      exact ⟨by show pc + n = pc' + n; rw [e1], sx_lr_sto h1.2.1 h1.2.2.1.1, h1.2.2.1.2, h1.2.2.2⟩
  | .inr (false, e) :: st, hst, hh, h =>
    obtain ⟨x, rs, rfl, -, -⟩ := sx_vs_l hh.2.2.1
    cases hk : Nat.beq kd 1 with
    | false => simp only [hk, cond_false] at h; cases h
    | true =>
      simp only [hk, cond_true] at h
      cases h
      have e := Nat.eq_of_beq_eq_true hk
      subst e
      refine sp_no List.mem_cons_self rfl rfl hst fun σ φ h1 => ⟨(pc' + n, mx_sto2 a (.long x) lv', rs, M), rfl, ?_⟩
      have e1 : pc = pc' := h1.1
      exact ⟨by show pc + n = pc' + n; rw [e1], sx_lr_sto2 h1.2.1 h1.2.2.1.1, h1.2.2.1.2, h1.2.2.2⟩
  | .inl (.ref q) :: st, hst, hh, h =>
    obtain ⟨rs, rfl, -⟩ := sx_vs_r hh.2.2.1
    cases hk : Nat.beq kd 2 with
    | false => simp only [hk, cond_false] at h; cases h
    | true =>
      simp only [hk, cond_true] at h
      cases h
      have e := Nat.eq_of_beq_eq_true hk
      subst e
      refine sp_no List.mem_cons_self rfl rfl hst fun σ φ h1 => ⟨(pc' + n, mx_sto a (.ref q) lv', rs, M), rfl, ?_⟩
      have e1 : pc = pc' := h1.1
      exact ⟨by show pc + n = pc' + n; rw [e1], sx_lr_sto h1.2.1 h1.2.2.1.1, h1.2.2.1.2, h1.2.2.2⟩
end SXO
