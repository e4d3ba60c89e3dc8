section ABX
variable {σ : Nat → Int} {SA SA' : mx_S} {P : ax_P} {DT : ax_T} {n0 : Nat} {c : ax_C} {c' : mx_C} {ds : List ax_C}
/-! writing into arrays, new things -/
theorem ac_M_keep {a : ax_E} {e : mx_E} (he : ac_E σ a e) {M : ax_M} {N : mx_M} {q : Nat} (hq : ax_mg M q = some a) (h : ac_M σ M N) : ac_M σ M (N.set q e) := by
  obtain ⟨h1, h2⟩ := ax_mg_some hq
  refine ⟨by rw [List.length_set]; exact h.1, h.2.1, fun q' hq' => ?_⟩
  by_cases z : q' = q
  · refine ⟨a, e, by rw [z]; exact h2, ?_, he⟩
    rw [z, List.getElem?_set_self (by rw [← h.1]; exact h1)]
  · obtain ⟨a', e', e1, e2, e3⟩ := h.2.2 q' hq'
    exact ⟨a', e', e1, by rw [List.getElem?_set_ne (Ne.symm z)]; exact e2, e3⟩
theorem ac_ag_int {n : Nat} {f : Nat → Int32} {y : vp_A} (h : ac_ag (n, .inl f) y) : ∃ g, y = (n, .inl g) ∧ ∀ j, j < n → f j = g j := by
  obtain ⟨m, g | g | g | g | g⟩ := y
  · obtain ⟨h1, h2⟩ := h
    have h1 : n = m := h1
    subst h1
    exact ⟨g, rfl, h2⟩
  · exact h.2.elim
  · exact h.2.elim
  · exact h.2.elim
  · exact h.2.elim
theorem ac_ag_long {n : Nat} {f : Nat → Int64} {y : vp_A} (h : ac_ag (n, .inr (.inl f)) y) : ∃ g, y = (n, .inr (.inl g)) ∧ ∀ j, j < n → f j = g j := by
  obtain ⟨m, g | g | g | g | g⟩ := y
  · exact h.2.elim
  · obtain ⟨h1, h2⟩ := h
    have h1 : n = m := h1
    subst h1
    exact ⟨g, rfl, h2⟩
  · exact h.2.elim
  · exact h.2.elim
  · exact h.2.elim
theorem mx_kd_int {u : Nat} {y : vp_A} (hu : u < 3) (h : mx_kd u y = true) : ∃ g, y = (y.1, .inl g) := by
  have hn : Nat.beq u 3 = false := by
    cases hz : Nat.beq u 3 with
    | false => rfl
    | true => have := Nat.eq_of_beq_eq_true hz; omega
  obtain ⟨m, g | g | g | g | g⟩ := y
  · exact ⟨g, rfl⟩
  · have h : Nat.beq u 3 = true := h
    rw [hn] at h
    cases h
  · cases h
  · cases h
  · cases h
theorem mx_kd_long {y : vp_A} (h : mx_kd 3 y = true) : ∃ g, y = (y.1, .inr (.inl g)) := by
  obtain ⟨m, g | g | g | g | g⟩ := y
  · cases h
  · exact ⟨g, rfl⟩
  · cases h
  · cases h
  · cases h
theorem upd_ag {f g : Nat → Int32} {n k : Nat} {x : Int32} (h : ∀ j, j < n → f j = g j) (j : Nat) (hj : j < n) : upd f k x j = upd g k x j := by
  unfold upd
  split
  · rfl
  · exact h j hj
theorem updL_ag {f g : Nat → Int64} {n k : Nat} {x : Int64} (h : ∀ j, j < n → f j = g j) (j : Nat) (hj : j < n) : vp_updL f k x j = vp_updL g k x j := by
  unfold vp_updL
  split
  · rfl
  · exact h j hj
theorem ax_ast_sound {t : Nat} {M M2 : ax_M} {N : mx_M} {q : Nat} {i : Int32} {v : ax_V} {v' : Value} (hM : ac_M σ M N) (h : ax_ast t M q i v = some M2) (hv : ac_V σ v v') : ∃ (w : Int32) (n : Nat) (f : Nat → Int32), v' = .int w ∧ mx_nth N q = some (.inr (t, n, .inl f)) ∧ mx_inb i n = true ∧ ac_M σ M2 (N.set q (.inr (t, n, .inl (upd f i.toNatClampNeg (mx_nar t w))))) := by
  unfold ax_ast at h
  split at h
  · next u n f hg =>
    cases hk : (Nat.beq u t && (Nat.blt u 3 && mx_inb i n)) with
    | false => rw [hk] at h; cases h
    | true =>
      rw [hk] at h
      simp only [cond_true] at h
      simp only [Bool.and_eq_true] at hk
      obtain ⟨k1, k2, k3⟩ := hk
      have := Nat.eq_of_beq_eq_true k1
      subst this
      obtain ⟨e, e1, e2⟩ := ac_M_nth hM hg
      obtain ⟨y, rfl, e4⟩ := e2
      obtain ⟨g, rfl, e5⟩ := ac_ag_int e4
      have hq := (ax_mg_some hg).1
      split at h
      · next x =>
        cases h
        have hv : v' = .int x := hv
        subst hv
        exact ⟨x, n, g, rfl, e1, k3, ac_M_set (a := .inr (.inl (u, n, .inl (upd f i.toNatClampNeg (mx_nar u x))))) ⟨(n, .inl (upd g i.toNatClampNeg (mx_nar u x))), rfl, rfl, fun j hj => upd_ag e5 j hj⟩ hq hM⟩
      · next p =>
        cases h
        obtain ⟨x, rfl, -⟩ := hv
        exact ⟨x, n, g, rfl, e1, k3, ac_M_set (a := .inr (.inr (u, n))) ⟨(n, .inl (upd g i.toNatClampNeg (mx_nar u x))), rfl, rfl, k2⟩ hq hM⟩
      · cases h
        obtain ⟨x, rfl⟩ := hv
        exact ⟨x, n, g, rfl, e1, k3, ac_M_set (a := .inr (.inr (u, n))) ⟨(n, .inl (upd g i.toNatClampNeg (mx_nar u x))), rfl, rfl, k2⟩ hq hM⟩
      · cases h
  · next u n hg =>
    cases hk : (Nat.beq u t && (Nat.blt u 3 && (mx_inb i n && Nat.beq (ax_kind v) 0))) with
    | false => rw [hk] at h; cases h
    | true =>
      rw [hk] at h
      cases h
      simp only [Bool.and_eq_true] at hk
      obtain ⟨k1, k2, k3, k4⟩ := hk
      have := Nat.eq_of_beq_eq_true k1
      subst this
      obtain ⟨x, rfl⟩ := ac_V_int hv (Nat.eq_of_beq_eq_true k4)
      obtain ⟨e, e1, e2⟩ := ac_M_nth hM hg
      obtain ⟨y, rfl, e4, e5⟩ := e2
      obtain ⟨g, e6⟩ := mx_kd_int (Nat.le_of_ble_eq_true k2) e5
      rw [e4] at e6
      subst e6
      exact ⟨x, n, g, rfl, e1, k3, ac_M_keep (a := .inr (.inr (u, n))) ⟨(n, .inl (upd g i.toNatClampNeg (mx_nar u x))), rfl, rfl, k2⟩ hg hM⟩
  · cases h
theorem as_ast {t b : Nat} {L : List Nat} (h : ao_ast t c = some ds) (hB : ac_B σ c.2.2.2.2) (hC : ac_C σ c c') : ac_St σ SA' (59, t, b, L) c' ds := by
  unfold ao_ast at h
  split at h
  · next v x q st hst =>
    have hV := hC.2.2.1
    rw [hst] at hV
    obtain ⟨v', r0, rfl', v1, hV2⟩ := ac_Vs_cons hV
    obtain ⟨x', q', r', e1, v2, v3, v4⟩ := ac_Vs_2 hV2
    have v3 : q' = .ref q := v3
    subst v3
    subst e1
    have v2 := ac_nrm hB v2
    have v1 := ac_nrm hB v1
    split at h
    · next j hj =>
      rw [hj] at v2
      have v2 : x' = .int j := v2
      subst v2
      split at h
      · next M hM =>
        cases h
        obtain ⟨w, n, f, rfl, h1, h2, h3⟩ := ax_ast_sound hC.2.2.2 hM v1
        refine ac_one hB (d' := (c'.1 + 1, c'.2.1, r', c'.2.2.2.set q (.inr (t, n, .inl (upd f j.toNatClampNeg (mx_nar t w)))))) ?_ ⟨?_, hC.2.1, v4, h3⟩
        · show mx_ast t c' = _
          unfold mx_ast
          rw [rfl']
          simp only
          rw [h1]
          simp only
          rw [h2, Nat.beq_refl]
          rfl
        · show c.1 + 1 = c'.1 + 1
          rw [hC.1]
      · cases h
    · cases h
  · cases h
theorem ax_last_sound {M M2 : ax_M} {N : mx_M} {q : Nat} {i : Int32} {v : ax_V} {v' : Value} (hM : ac_M σ M N) (h : ax_last M q i v = some M2) (hv : ac_V σ v v') : ∃ (w : Int64) (n : Nat) (f : Nat → Int64), v' = .long w ∧ mx_nth N q = some (.inr (3, n, .inr (.inl f))) ∧ mx_inb i n = true ∧ ac_M σ M2 (N.set q (.inr (3, n, .inr (.inl (vp_updL f i.toNatClampNeg w))))) := by
  unfold ax_last at h
  split at h
  · next u n f hg =>
    cases hk : (Nat.beq u 3 && mx_inb i n) with
    | false => rw [hk] at h; cases h
    | true =>
      rw [hk] at h
      simp only [cond_true] at h
      simp only [Bool.and_eq_true] at hk
      obtain ⟨k1, k3⟩ := hk
      have := Nat.eq_of_beq_eq_true k1
      subst this
      obtain ⟨e, e1, e2⟩ := ac_M_nth hM hg
      obtain ⟨y, rfl, e4⟩ := e2
      obtain ⟨g, rfl, e5⟩ := ac_ag_long e4
      have hq := (ax_mg_some hg).1
      split at h
      · next x =>
        cases h
        have hv : v' = .long x := hv
        subst hv
        exact ⟨x, n, g, rfl, e1, k3, ac_M_set (a := .inr (.inl (3, n, .inr (.inl (vp_updL f i.toNatClampNeg x))))) ⟨(n, .inr (.inl (vp_updL g i.toNatClampNeg x))), rfl, rfl, fun j hj => updL_ag e5 j hj⟩ hq hM⟩
      · cases h
        obtain ⟨x, rfl⟩ := hv
        exact ⟨x, n, g, rfl, e1, k3, ac_M_set (a := .inr (.inr (3, n))) ⟨(n, .inr (.inl (vp_updL g i.toNatClampNeg x))), rfl, rfl, rfl⟩ hq hM⟩
      · cases h
  · next u n hg =>
    cases hk : (Nat.beq u 3 && (mx_inb i n && Nat.beq (ax_kind v) 1)) with
    | false => rw [hk] at h; cases h
    | true =>
      rw [hk] at h
      cases h
      simp only [Bool.and_eq_true] at hk
      obtain ⟨k1, k3, k4⟩ := hk
      have := Nat.eq_of_beq_eq_true k1
      subst this
      obtain ⟨x, rfl⟩ := ac_V_long hv (Nat.eq_of_beq_eq_true k4)
      obtain ⟨e, e1, e2⟩ := ac_M_nth hM hg
      obtain ⟨y, rfl, e4, e5⟩ := e2
      obtain ⟨g, e6⟩ := mx_kd_long e5
      rw [e4] at e6
      subst e6
      exact ⟨x, n, g, rfl, e1, k3, ac_M_keep (a := .inr (.inr (3, n))) ⟨(n, .inr (.inl (vp_updL g i.toNatClampNeg x))), rfl, rfl, rfl⟩ hg hM⟩
  · cases h
theorem as_last {a b : Nat} {L : List Nat} (h : ao_last c = some ds) (hB : ac_B σ c.2.2.2.2) (hC : ac_C σ c c') : ac_St σ SA' (60, a, b, L) c' ds := by
  unfold ao_last at h
  split at h
  · next v j q st hst =>
    have hV := hC.2.2.1
    rw [hst] at hV
    obtain ⟨v', r0, rfl', v1, hV2⟩ := ac_Vs_cons hV
    obtain ⟨x', q', r', e1, v2, v3, v4⟩ := ac_Vs_2 hV2
    have v3 : q' = .ref q := v3
    subst v3
    subst e1
    have v2 : x' = .int j := v2
    subst v2
    split at h
    · next M hM =>
      cases h
      obtain ⟨w, n, f, rfl, h1, h2, h3⟩ := ax_last_sound hC.2.2.2 hM v1
      refine ac_one hB (d' := (c'.1 + 1, c'.2.1, r', c'.2.2.2.set q (.inr (3, n, .inr (.inl (vp_updL f j.toNatClampNeg w)))))) ?_ ⟨?_, hC.2.1, v4, h3⟩
      · show mx_last c' = _
        unfold mx_last
        rw [rfl']
        simp only
        rw [h1]
        simp only
        rw [h2, Nat.beq_refl]
        rfl
      · show c.1 + 1 = c'.1 + 1
        rw [hC.1]
    · cases h
  · cases h
theorem as_new {a b : Nat} {L : List Nat} (h : ao_new a c = some ds) (hB : ac_B σ c.2.2.2.2) (hC : ac_C σ c c') : ac_St σ SA' (61, a, b, L) c' ds := by
  unfold ao_new at h
  split at h
  · next fs hfs =>
    cases hk : Nat.blt c.2.2.2.1.1 250 with
    | false => rw [hk] at h; cases h
    | true =>
      rw [hk] at h
      cases h
      have hl := Nat.le_of_ble_eq_true hk
      have hn := hC.2.2.2.1
      refine ac_one hB (d' := (c'.1 + 3, c'.2.1, .ref c'.2.2.2.length :: c'.2.2.1, c'.2.2.2 ++ [.inl (a, fs)])) ?_ ⟨?_, hC.2.1, ⟨?_, hC.2.2.1⟩, ac_M_app (a := .inl (a, ax_emb fs)) ⟨fs, rfl, ac_Vs_emb fs⟩ (by omega) hC.2.2.2⟩
      · show (match mx_nth mx_DF a with
          | some fs => mx_new a fs c'
          | none => none) = _
        rw [hfs]
        show mx_new a fs c' = _
        unfold mx_new
        have : Nat.blt c'.2.2.2.length 999 = true := Nat.ble_eq_true_of_le (by rw [← hn]; omega)
        rw [this]
        rfl
      · show c.1 + 3 = c'.1 + 3
        rw [hC.1]
      · show Value.ref _ = Value.ref _
        rw [hn]
  · cases h
theorem mx_zero_kd {t n : Nat} (ht : t < 4) : mx_kd t (mx_zero t n) = true := by
  match t, ht with
  | 0, _ => rfl
  | 1, _ => rfl
  | 2, _ => rfl
  | 3, _ => rfl
theorem ac_ag_zero {t n : Nat} (ht : t < 4) : ac_ag (mx_zero t n) (mx_zero t n) := by
  match t, ht with
  | 0, _ => exact ⟨rfl, fun _ _ => rfl⟩
  | 1, _ => exact ⟨rfl, fun _ _ => rfl⟩
  | 2, _ => exact ⟨rfl, fun _ _ => rfl⟩
  | 3, _ => exact ⟨rfl, fun _ _ => rfl⟩
theorem as_newa {t b : Nat} {L : List Nat} (h : ao_newa t c = some ds) (hB : ac_B σ c.2.2.2.2) (hC : ac_C σ c c') : ac_St σ SA' (62, t, b, L) c' ds := by
  unfold ao_newa at h
  split at h
  · next x st hst =>
    obtain ⟨x', r', e1, v1, v2⟩ := ac_st1 hst hC
    have v1 := ac_nrm hB v1
    split at h
    · next n hn0 =>
      rw [hn0] at v1
      have v1 : x' = .int n := v1
      subst v1
      cases hk : (mx_inb n 2000 && (Nat.blt c.2.2.2.1.1 250 && Nat.blt t 4)) with
      | false => rw [hk] at h; cases h
      | true =>
        rw [hk] at h
        cases h
        simp only [Bool.and_eq_true] at hk
        obtain ⟨k1, k2, k3⟩ := hk
        have hl := Nat.le_of_ble_eq_true k2
        have hn := hC.2.2.2.1
        refine ac_one hB (d' := (c'.1 + 2, c'.2.1, .ref c'.2.2.2.length :: r', c'.2.2.2 ++ [.inr (t, mx_zero t n.toNatClampNeg)])) ?_ ⟨?_, hC.2.1, ⟨?_, v2⟩, ac_M_app (a := .inr (.inl (t, mx_zero t n.toNatClampNeg))) ⟨_, rfl, ac_ag_zero (Nat.le_of_ble_eq_true k3)⟩ (by omega) hC.2.2.2⟩
        · show mx_newa t c' = _
          unfold mx_newa
          rw [e1]
          simp only
          have : Nat.blt c'.2.2.2.length 999 = true := Nat.ble_eq_true_of_le (by rw [← hn]; omega)
          rw [this, k1]
          rfl
        · show c.1 + 2 = c'.1 + 2
          rw [hC.1]
        · show Value.ref _ = Value.ref _
          rw [hn]
    · cases h
  · cases h
theorem as_obj {a b : Nat} {L : List Nat} (h : ao_obj c = some ds) (hB : ac_B σ c.2.2.2.2) (hC : ac_C σ c c') : ac_St σ SA' (63, a, b, L) c' ds := by
  unfold ao_obj at h
  split at h
  · next q st hst =>
    cases hk : Nat.ble (ax_cat st) 8 with
    | false => rw [hk] at h; cases h
    | true =>
      rw [hk] at h
      cases h
      obtain ⟨x', r', e1, v1, v2⟩ := ac_st1 hst hC
      have v1 : x' = .ref q := v1
      subst v1
      refine ac_one hB (d' := (c'.1 + 3, c'.2.1, r', c'.2.2.2)) ?_ ⟨?_, hC.2.1, v2, hC.2.2.2⟩
      · show mx_obj c' = _
        unfold mx_obj
        rw [e1]
        simp only
        rw [← ac_Vs_cat v2, hk]
        rfl
      · show c.1 + 3 = c'.1 + 3
        rw [hC.1]
  · cases h
theorem as_mm {f : Int32 → Int32 → Int32} {i : mx_I} (hi : mx_op SA' mx_SF mx_DF 14 i c' = mx_mm f c') (h : ao_mm f c = some ds) (hB : ac_B σ c.2.2.2.2) (hC : ac_C σ c c') : ac_St σ SA' i c' ds := by
  unfold ao_mm at h
  split at h
  · next y x st hst =>
    cases hk : Nat.ble (ax_cat st) 8 with
    | false => rw [hk] at h; cases h
    | true =>
      rw [hk] at h
      cases h
      have hV := hC.2.2.1
      rw [hst] at hV
      obtain ⟨y', x', r', e1, v1, v2, v3⟩ := ac_Vs_2 hV
      have v1 : y' = .int y := v1
      have v2 : x' = .int x := v2
      subst v1
      subst v2
      refine ac_one hB (d' := (c'.1 + 3, c'.2.1, .int (f x y) :: r', c'.2.2.2)) ?_ ⟨?_, hC.2.1, ⟨rfl, v3⟩, hC.2.2.2⟩
      · rw [hi]
        unfold mx_mm
        rw [e1]
        simp only
        rw [← ac_Vs_cat v3, hk]
        rfl
      · show c.1 + 3 = c'.1 + 3
        rw [hC.1]
  · cases h
/-! any instruction that is no call and no end -/
theorem as_opA {o a b : Nat} {L : List Nat} (ho : o ≤ 8) (h : ax_opA (o, a, b, L) c = some ds) (hB : ac_B σ c.2.2.2.2) (hC : ac_C σ c c') : ac_St σ SA' (o, a, b, L) c' ds := by
  match o, ho, h with
  | 0, _, h => exact as_push (v := .int (Int32.ofNat a)) (n := b) rfl h hB hC
  | 1, _, h => exact as_push (v := .long (Int64.ofNat a)) (n := b) rfl h hB hC
  | 2, _, h =>
    refine as_load (w := .null) (kd := 0) (a := a) (n := b) h hB hC fun w hw h0 _ _ => ?_
    obtain ⟨x, rfl⟩ := h0 rfl
    show mx_ldi a b c' = _
    unfold mx_ldi
    rw [hw]
  | 3, _, h =>
    refine as_load (w := .null) (kd := 1) (a := a) (n := b) h hB hC fun w hw _ h0 _ => ?_
    obtain ⟨x, rfl⟩ := h0 rfl
    show mx_ldl a b c' = _
    unfold mx_ldl
    rw [hw]
  | 4, _, h =>
    refine as_load (w := .null) (kd := 2) (a := a) (n := b) h hB hC fun w hw _ _ h0 => ?_
    obtain ⟨x, rfl⟩ := h0 rfl
    show mx_lda a b c' = _
    unfold mx_lda
    rw [hw]
  | 5, _, h => exact as_store0 (b := 0) h hB hC
  | 6, _, h => exact as_store1 (b := 0) h hB hC
  | 7, _, h => exact as_store2 (b := 0) h hB hC
  | 8, _, h => exact as_inc h hB hC
  | n + 9, ho, _ => exact absurd ho (by omega)
theorem as_opB {o a b : Nat} {L : List Nat} (h1 : 36 ≤ o) (h2 : o ≤ 50) (h : ax_opB (o, a, b, L) c = some ds) (hB : ac_B σ c.2.2.2.2) (hC : ac_C σ c c') : ac_St σ SA' (o, a, b, L) c' ds := by
  match o, h1, h2, h with
  | 36, _, _, h => exact as_if1 (o := 0) (by omega) h hB hC
  | 37, _, _, h => exact as_if1 (o := 1) (by omega) h hB hC
  | 38, _, _, h => exact as_if1 (o := 2) (by omega) h hB hC
  | 39, _, _, h => exact as_if1 (o := 3) (by omega) h hB hC
  | 40, _, _, h => exact as_if1 (o := 4) (by omega) h hB hC
  | 41, _, _, h => exact as_if1 (o := 5) (by omega) h hB hC
  | 42, _, _, h => exact as_if2 (o := 0) (by omega) h hB hC
  | 43, _, _, h => exact as_if2 (o := 1) (by omega) h hB hC
  | 44, _, _, h => exact as_if2 (o := 2) (by omega) h hB hC
  | 45, _, _, h => exact as_if2 (o := 3) (by omega) h hB hC
  | 46, _, _, h => exact as_if2 (o := 4) (by omega) h hB hC
  | 47, _, _, h => exact as_if2 (o := 5) (by omega) h hB hC
  | 48, _, _, h => exact as_goto h hB hC
  | 49, _, _, h => exact as_tsw h hB hC
  | 50, _, _, h => exact as_lsw h hB hC
  | n + 51, _, h2, _ => exact absurd h2 (by omega)
theorem as_opC {o a b : Nat} {L : List Nat} (hS : ac_S σ SA SA' P) (h1 : 52 ≤ o) (h2 : o ≤ 60) (h : ax_opC SA P (o, a, b, L) c = some ds) (hB : ac_B σ c.2.2.2.2) (hC : ac_C σ c c') : ac_St σ SA' (o, a, b, L) c' ds := by
  match o, h1, h2, h with
  | 52, _, _, h => exact as_gstr h hB hC
  | 53, _, _, h => exact as_put h hB hC
  | 54, _, _, h => exact as_putF h hB hC
  | 55, _, _, h => exact as_gets h hB hC
  | 56, _, _, h => exact as_ldcS h hB hC
  | 57, _, _, h => exact as_alen hS h hB hC
  | 58, _, _, h => exact as_ald hS h hB hC
  | 59, _, _, h => exact as_ast h hB hC
  | 60, _, _, h => exact as_last h hB hC
  | n + 61, _, h2, _ => exact absurd h2 (by omega)
theorem as_opD {o a b : Nat} {L : List Nat} (h1 : 61 ≤ o) (h : ax_opD (o, a, b, L) c = some ds) (hB : ac_B σ c.2.2.2.2) (hC : ac_C σ c c') : ac_St σ SA' (o, a, b, L) c' ds := by
  match o, h1, h with
  | 61, _, h => exact as_new h hB hC
  | 62, _, h => exact as_newa h hB hC
  | 63, _, h => exact as_obj h hB hC
  | 64, _, h => cases h
  | 65, _, h => exact as_mm (f := fun x y => if x < y then y else x) rfl h hB hC
  | 66, _, h => exact as_mm (f := fun x y => if y < x then y else x) rfl h hB hC
  | n + 67, _, h => cases h
theorem ax_op_sound {i : mx_I} (hS : ac_S σ SA SA' P) (hD : ac_D σ DT n0) (h : ax_op SA P DT n0 i c = some ds) (hB : ac_B σ c.2.2.2.2) (hC : ac_C σ c c') : ac_St σ SA' i c' ds := by
  obtain ⟨o, a, b, L⟩ := i
  unfold ax_op at h
  simp only at h
  cases h8 : Nat.ble o 8 with
  | true =>
    rw [h8] at h
    exact as_opA (Nat.le_of_ble_eq_true h8) h hB hC
  | false =>
    have n8 : 8 < o := Nat.lt_of_not_le fun z => by rw [Nat.ble_eq_true_of_le z] at h8; cases h8
    rw [h8] at h
    simp only [cond_false] at h
    cases h35 : Nat.ble o 35 with
    | true =>
      rw [h35] at h
      exact as_pure n8 (Nat.le_of_ble_eq_true h35) hD h hB hC
    | false =>
      have n35 : 35 < o := Nat.lt_of_not_le fun z => by rw [Nat.ble_eq_true_of_le z] at h35; cases h35
      rw [h35] at h
      simp only [cond_false] at h
      cases h51 : Nat.beq o 51 with
      | true =>
        rw [h51] at h
        have := Nat.eq_of_beq_eq_true h51
        subst this
        exact as_get h hB hC
      | false =>
        have n51 : o ≠ 51 := Nat.ne_of_beq_eq_false h51
        rw [h51] at h
        simp only [cond_false] at h
        cases h50 : Nat.ble o 50 with
        | true =>
          rw [h50] at h
          exact as_opB n35 (Nat.le_of_ble_eq_true h50) h hB hC
        | false =>
          have n50 : 50 < o := Nat.lt_of_not_le fun z => by rw [Nat.ble_eq_true_of_le z] at h50; cases h50
          rw [h50] at h
          simp only [cond_false] at h
          cases h60 : Nat.ble o 60 with
          | true =>
            rw [h60] at h
            exact as_opC hS (by omega) (Nat.le_of_ble_eq_true h60) h hB hC
          | false =>
            have n60 : 60 < o := Nat.lt_of_not_le fun z => by rw [Nat.ble_eq_true_of_le z] at h60; cases h60
            rw [h60] at h
            exact as_opD n60 h hB hC
end ABX
