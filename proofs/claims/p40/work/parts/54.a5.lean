section ABW
variable {σ : Nat → Int} {SA SA' : mx_S} {P : ax_P} {DT : ax_T} {n0 : Nat} {c : ax_C} {c' : mx_C} {ds : List ax_C}
/-! arrays -/
theorem ac_ag_kd {t : Nat} {x y : vp_A} (h : ac_ag x y) (hk : mx_kd t x = true) : mx_kd t y = true := by
  obtain ⟨n, f | f | f | f | f⟩ := x <;> obtain ⟨m, g | g | g | g | g⟩ := y <;> first
    | exact hk
    | exact h.2.elim
    | cases hk
theorem ac_ag_con {x y : vp_A} {j : Nat} (h : ac_ag x y) (hj : j < x.1) : mx_con x j = mx_con y j := by
  obtain ⟨n, f | f | f | f | f⟩ := x <;> obtain ⟨m, g | g | g | g | g⟩ := y <;> first
    | exact h.2.elim
    | exact congrArg Value.int (h.2 j hj)
    | exact congrArg Value.long (h.2 j hj)
theorem mx_inb_lt {i : Int32} {n : Nat} (h : mx_inb i n = true) : i.toNatClampNeg < n := Nat.not_le.mp fun z => mx_inb_in h (Or.inr z)
/-- an array that can be read, on both sides -/
theorem ax_arr_sound {M : ax_M} {N : mx_M} {q : Nat} {r : (Nat × vp_A) ⊕ (Nat × Nat)} (hS : ac_S σ SA SA' P) (hM : ac_M σ M N) (h : ax_arr SA M q = some r) :
    (∃ p, r = .inl p ∧ Nat.ble 1000 q = true ∧ mx_ar SA' N q = some p) ∨ (Nat.ble 1000 q = false ∧ ∃ e, mx_nth N q = some e ∧ ac_E σ (.inr r) e) := by
  unfold ax_arr at h
  cases hb : Nat.ble 1000 q with
  | true =>
    rw [hb] at h
    simp only [cond_true] at h
    split at h
    · next x hx =>
      cases h
      refine Or.inl ⟨x, rfl, rfl, ?_⟩
      unfold mx_ar
      rw [hb]
      exact hS.1 _ _ hx
    · cases h
  | false =>
    rw [hb] at h
    simp only [cond_false] at h
    split at h
    · next x hx =>
      cases h
      obtain ⟨e, e1, e2⟩ := ac_M_nth hM hx
      exact Or.inr ⟨rfl, e, e1, e2⟩
    · cases h
theorem mx_ar_m {N : mx_M} {q t : Nat} {x : vp_A} (h : Nat.ble 1000 q = false) (h2 : mx_nth N q = some (.inr (t, x))) (hk : mx_kd t x = true) : mx_ar SA' N q = some (t, x) := by
  unfold mx_ar
  rw [h]
  simp only [cond_false]
  rw [h2]
  simp only
  rw [hk]
  rfl
theorem ax_lenv_sound {M : ax_M} {N : mx_M} {q : Nat} {v : ax_V} (hS : ac_S σ SA SA' P) (hM : ac_M σ M N) (h : ax_lenv SA P M q = some v) : ∃ t x, mx_ar SA' N q = some (t, x) ∧ ac_V σ v (.int (Int32.ofNat x.1)) := by
  unfold ax_lenv at h
  cases hq : Nat.beq q P.1 with
  | true =>
    rw [hq] at h
    cases h
    have := Nat.eq_of_beq_eq_true hq
    subst this
    obtain ⟨-, h1, L, xs, h2, h3, h4, -⟩ := hS
    refine ⟨0, (L, .inl xs), ?_, _, rfl, ?_⟩
    · unfold mx_ar
      rw [Nat.ble_eq_true_of_le h1]
      exact h2
    · show (Int32.ofNat L).toInt = σ P.2.2 + 0
      rw [← h3, Int.add_zero]
      exact nI_toInt h4
  | false =>
    rw [hq] at h
    simp only [cond_false] at h
    split at h
    · next p hp =>
      cases hk : (Nat.ble 1000 q || mx_kd p.1 p.2) with
      | false => rw [hk] at h; cases h
      | true =>
        rw [hk] at h
        cases h
        rcases ax_arr_sound hS hM hp with ⟨p', e1, e2, e3⟩ | ⟨e1, e, e2, y, rfl, e4⟩
        · cases e1
          exact ⟨p.1, p.2, e3, rfl⟩
        · rw [e1] at hk
          exact ⟨p.1, y, mx_ar_m e1 e2 (ac_ag_kd e4 hk), by rw [← e4.1]; rfl⟩
    · next p hp =>
      cases h
      rcases ax_arr_sound hS hM hp with ⟨p', e1, e2, e3⟩ | ⟨e1, e, e2, y, rfl, e4, e5⟩
      · cases e1
      · exact ⟨p.1, y, mx_ar_m e1 e2 e5, by rw [e4]; rfl⟩
    · cases h
theorem as_alen {a b : Nat} {L : List Nat} (hS : ac_S σ SA SA' P) (h : ao_alen SA P c = some ds) (hB : ac_B σ c.2.2.2.2) (hC : ac_C σ c c') : ac_St σ SA' (57, a, b, L) c' ds := by
  unfold ao_alen at h
  split at h
  · next q st hst =>
    obtain ⟨x', r', e1, v1, v2⟩ := ac_st1 hst hC
    have v1 : x' = .ref q := v1
    subst v1
    split at h
    · next v hv =>
      cases h
      obtain ⟨t, x, h1, h2⟩ := ax_lenv_sound hS hC.2.2.2 hv
      refine ac_one hB (d' := (c'.1 + 1, c'.2.1, .int (Int32.ofNat x.1) :: r', c'.2.2.2)) ?_ ⟨?_, hC.2.1, ⟨h2, v2⟩, hC.2.2.2⟩
      · show mx_alen SA' c' = _
        unfold mx_alen
        rw [e1]
        simp only
        rw [h1]
      · show c.1 + 1 = c'.1 + 1
        rw [hC.1]
    · cases h
  · cases h
theorem ax_ald_sound {M : ax_M} {N : mx_M} {B : ax_B} {q t : Nat} {i : Int32} {v : ax_V} (hS : ac_S σ SA SA' P) (hB : ac_B σ B) (hM : ac_M σ M N) (h : ax_ald SA P t M B q i = some v) : ∃ x, mx_ar SA' N q = some (t, x) ∧ mx_inb i x.1 = true ∧ ac_V σ v (mx_con x i.toNatClampNeg) := by
  unfold ax_ald at h
  cases hq : Nat.beq q P.1 with
  | true =>
    rw [hq] at h
    simp only [cond_true] at h
    have := Nat.eq_of_beq_eq_true hq
    subst this
    split at h
    · next j hj =>
      split at h
      · next lo hi hs =>
        cases hc : (decide ((j : Int) < lo) && Nat.beq t 0) with
        | false => rw [hc] at h; cases h
        | true =>
          rw [hc] at h
          cases h
          simp only [Bool.and_eq_true, decide_eq_true_eq] at hc
          have ht := Nat.eq_of_beq_eq_true hc.2
          subst ht
          obtain ⟨-, h1, L, xs, h2, h3, h4, h5⟩ := hS
          have h6 := (hB P.2.2 (lo, hi) (by rw [← mx_nth_eq]; exact hs)).1
          have h6 : lo ≤ σ P.2.2 := h6
          have hj : i.toInt = (j : Int) := hj
          have hjL : j < L := by omega
          have hcl : i.toNatClampNeg = j := by
            show i.toInt.toNat = j
            rw [hj]
            rfl
          refine ⟨(L, .inl xs), ?_, ?_, xs i.toNatClampNeg, rfl, ?_⟩
          · unfold mx_ar
            rw [Nat.ble_eq_true_of_le h1]
            exact h2
          · unfold mx_inb
            rw [hj]
            exact Nat.ble_eq_true_of_le hjL
          · rw [hcl, h5 j hjL, Int.add_zero]
      · cases h
    · cases h
  | false =>
    rw [hq] at h
    simp only [cond_false] at h
    split at h
    · next u x hx =>
      cases hk : (Nat.beq u t && (Nat.ble 1000 q || mx_kd u x)) with
      | false => rw [hk] at h; cases h
      | true =>
        rw [hk] at h
        simp only [Bool.and_eq_true] at hk
        have hu := Nat.eq_of_beq_eq_true hk.1
        subst hu
        have h : (bif mx_inb i x.1 then some (.inl (mx_con x i.toNatClampNeg)) else none) = some v := h
        cases hin : mx_inb i x.1 with
        | false => rw [hin] at h; cases h
        | true =>
          rw [hin] at h
          cases h
          rcases ax_arr_sound hS hM hx with ⟨p', e1, e2, e3⟩ | ⟨e1, e, e2, y, rfl, e4⟩
          · cases e1
            exact ⟨x, e3, hin, rfl⟩
          · have hk2 := hk.2
            rw [e1] at hk2
            have e5 := e4.1
            refine ⟨y, mx_ar_m e1 e2 (ac_ag_kd e4 hk2), by rw [← e5]; exact hin, ?_⟩
            exact (ac_ag_con e4 (mx_inb_lt hin)).symm
    · next u n hx =>
      cases hk : (Nat.beq u t && mx_inb i n) with
      | false => rw [hk] at h; cases h
      | true =>
        rw [hk] at h
        simp only [Bool.and_eq_true] at hk
        have hu := Nat.eq_of_beq_eq_true hk.1
        subst hu
        cases h
        rcases ax_arr_sound hS hM hx with ⟨p', e1, e2, e3⟩ | ⟨e1, e, e2, y, rfl, e4, e5⟩
        · cases e1
        · refine ⟨y, mx_ar_m e1 e2 e5, by rw [e4]; exact hk.2, ?_⟩
          obtain ⟨m, g | g | g | g | g⟩ := y
          · have h3 : u < 3 := Nat.le_of_ble_eq_true e5
            have e6 : Nat.beq u 3 = false := by
              cases hz : Nat.beq u 3 with
              | false => rfl
              | true => have := Nat.eq_of_beq_eq_true hz; omega
            rw [e6]
            exact ⟨_, rfl⟩
          · have e6 : Nat.beq u 3 = true := e5
            rw [e6]
            exact ⟨_, rfl⟩
          · cases e5
          · cases e5
          · cases e5
    · cases h
theorem as_ald {a b : Nat} {L : List Nat} (hS : ac_S σ SA SA' P) (h : ao_ald SA P a c = some ds) (hB : ac_B σ c.2.2.2.2) (hC : ac_C σ c c') : ac_St σ SA' (58, a, b, L) c' ds := by
  unfold ao_ald at h
  split at h
  · next x q st hst =>
    have hV := hC.2.2.1
    rw [hst] at hV
    obtain ⟨x', y', r', e1, v1, v2, v3⟩ := ac_Vs_2 hV
    have v2 : y' = .ref q := v2
    subst v2
    have v1 := ac_nrm hB v1
    split at h
    · next j hj =>
      rw [hj] at v1
      have v1 : x' = .int j := v1
      subst v1
      split at h
      · next v hv =>
        cases h
        obtain ⟨y, h1, h2, h3⟩ := ax_ald_sound hS hB hC.2.2.2 hv
        refine ac_one hB (d' := (c'.1 + 1, c'.2.1, mx_con y j.toNatClampNeg :: r', c'.2.2.2)) ?_ ⟨?_, hC.2.1, ⟨h3, v3⟩, hC.2.2.2⟩
        · show mx_ald SA' a c' = _
          unfold mx_ald
          rw [e1]
          simp only
          rw [h1]
          simp only
          rw [h2, Nat.beq_refl]
          rfl
        · show c.1 + 1 = c'.1 + 1
          rw [hC.1]
      · cases h
    · cases h
  · cases h
end ABW
