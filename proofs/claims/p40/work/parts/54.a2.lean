/-! EACH ABSTRACT INSTRUCTION STANDS FOR THE SMALL MACHINE'S -/
def ac_St (σ : Nat → Int) (SA' : mx_S) (i : mx_I) (c' : mx_C) (ds : List ax_C) : Prop := ∃ d ∈ ds, ac_B σ d.2.2.2.2 ∧ ∃ d', mx_op SA' mx_SF mx_DF 14 i c' = some d' ∧ ac_C σ d d'
def ac_S (σ : Nat → Int) (SA SA' : mx_S) (P : ax_P) : Prop := (∀ (j : Nat) (x : Nat × vp_A), SA j = some x → SA' j = some x) ∧ 1000 ≤ P.1 ∧ ∃ (L : Nat) (xs : Nat → Int32), SA' (P.1 - 1000) = some (0, (L, .inl xs)) ∧ (L : Int) = σ P.2.2 ∧ L < 2147483648 ∧ ∀ j, j < L → (xs j).toInt = σ (P.2.1 + j)
section ABS
variable {σ : Nat → Int} {SA SA' : mx_S} {P : ax_P} {DT : ax_T} {n0 : Nat} {c : ax_C} {c' : mx_C} {ds : List ax_C}
theorem ac_one {i : mx_I} {d : ax_C} {d' : mx_C} (hB : ac_B σ d.2.2.2.2) (hop : mx_op SA' mx_SF mx_DF 14 i c' = some d') (hC : ac_C σ d d') : ac_St σ SA' i c' [d] := ⟨d, List.mem_singleton.mpr rfl, hB, d', hop, hC⟩
theorem as_push {i : mx_I} {v : Value} {n : Nat} (hi : mx_op SA' mx_SF mx_DF 14 i c' = mx_push v n c') (h : ao_push v n c = some ds) (hB : ac_B σ c.2.2.2.2) (hC : ac_C σ c c') : ac_St σ SA' i c' ds := by
  have h := Option.some.inj h
  subst h
  refine ac_one hB (hi.trans rfl) ⟨?_, hC.2.1, ⟨rfl, hC.2.2.1⟩, hC.2.2.2⟩
  show c.1 + n = c'.1 + n
  rw [hC.1]
theorem ao_load_inv {kd a n : Nat} (h : ao_load kd a n c = some ds) : ∃ v, ax_lk a c.2.1 = some v ∧ ax_kind v = kd ∧ ds = [(c.1 + n, c.2.1, ax_nrm c.2.2.2.2 v :: c.2.2.1, c.2.2.2.1, c.2.2.2.2)] := by
  unfold ao_load at h
  split at h
  · next v hv =>
    cases hk : Nat.beq (ax_kind v) kd with
    | false => rw [hk] at h; cases h
    | true =>
      rw [hk] at h
      exact ⟨v, hv, Nat.eq_of_beq_eq_true hk, (Option.some.inj h).symm⟩
  · cases h
theorem as_load {i : mx_I} {kd a n : Nat} {w : Value} (h : ao_load kd a n c = some ds) (hB : ac_B σ c.2.2.2.2) (hC : ac_C σ c c') (hi : ∀ w : Value, mx_lk a c'.2.1 = some w → (kd = 0 → ∃ x, w = .int x) → (kd = 1 → ∃ x, w = .long x) → (kd = 2 → ∃ x, w = .ref x) → mx_op SA' mx_SF mx_DF 14 i c' = some (c'.1 + n, c'.2.1, w :: c'.2.2.1, c'.2.2.2)) : ac_St σ SA' i c' ds := by
  obtain ⟨v, h1, h2, rfl⟩ := ao_load_inv h
  obtain ⟨w, h3, h4⟩ := ac_L_lk hC.2.1 h1
  refine ac_one hB (hi w h3 (fun z => ac_V_int h4 (h2.trans z)) (fun z => ac_V_long h4 (h2.trans z)) (fun z => by obtain ⟨x, e, -⟩ := ac_V_ref h4 (h2.trans z); exact ⟨x, e⟩)) ⟨?_, hC.2.1, ⟨ac_nrm hB h4, hC.2.2.1⟩, hC.2.2.2⟩
  show c.1 + n = c'.1 + n
  rw [hC.1]
theorem ac_st1 {v : ax_V} {st : List ax_V} (h : c.2.2.1 = v :: st) (hC : ac_C σ c c') : ∃ v' st', c'.2.2.1 = v' :: st' ∧ ac_V σ v v' ∧ ac_Vs σ st st' := by
  have h1 := hC.2.2.1
  rw [h] at h1
  match hc : c'.2.2.1, h1 with
  | v' :: st', h1 => exact ⟨v', st', rfl, h1.1, h1.2⟩
theorem ac_Vs_cons {v : ax_V} {st : List ax_V} {l : List Value} (h : ac_Vs σ (v :: st) l) : ∃ v' st', l = v' :: st' ∧ ac_V σ v v' ∧ ac_Vs σ st st' := by
  match l, h with
  | v' :: st', h => exact ⟨v', st', rfl, h.1, h.2⟩
theorem ao_store_inv {kd a n : Nat} (h : ao_store kd a n c = some ds) : ∃ v st, c.2.2.1 = v :: st ∧ ax_kind v = kd ∧ ds = [(c.1 + n, (bif Nat.beq kd 1 then ax_sto2 a v c.2.1 else ax_sto a v c.2.1), st, c.2.2.2.1, c.2.2.2.2)] := by
  unfold ao_store at h
  split at h
  · next v st hv =>
    cases hk : Nat.beq (ax_kind v) kd with
    | false => rw [hk] at h; cases h
    | true =>
      rw [hk] at h
      exact ⟨v, st, hv, Nat.eq_of_beq_eq_true hk, (Option.some.inj h).symm⟩
  · cases h
theorem as_store0 {a n b : Nat} {L : List Nat} (h : ao_store 0 a n c = some ds) (hB : ac_B σ c.2.2.2.2) (hC : ac_C σ c c') : ac_St σ SA' (5, a, n, L) c' ds := by
  obtain ⟨v, st, h1, h2, rfl⟩ := ao_store_inv h
  obtain ⟨v', st', e1, e2, e3⟩ := ac_st1 h1 hC
  obtain ⟨x, rfl⟩ := ac_V_int e2 h2
  refine ac_one hB (d' := (c'.1 + n, mx_sto a (.int x) c'.2.1, st', c'.2.2.2)) ?_ ⟨?_, ac_L_sto hC.2.1 e2, e3, hC.2.2.2⟩
  · show mx_sti a n c' = _
    unfold mx_sti
    rw [e1]
  · show c.1 + n = c'.1 + n
    rw [hC.1]
theorem as_store1 {a n b : Nat} {L : List Nat} (h : ao_store 1 a n c = some ds) (hB : ac_B σ c.2.2.2.2) (hC : ac_C σ c c') : ac_St σ SA' (6, a, n, L) c' ds := by
  obtain ⟨v, st, h1, h2, rfl⟩ := ao_store_inv h
  obtain ⟨v', st', e1, e2, e3⟩ := ac_st1 h1 hC
  obtain ⟨x, rfl⟩ := ac_V_long e2 h2
  refine ac_one hB (d' := (c'.1 + n, mx_sto2 a (.long x) c'.2.1, st', c'.2.2.2)) ?_ ⟨?_, ac_L_sto2 hC.2.1 e2, e3, hC.2.2.2⟩
  · show mx_stl a n c' = _
    unfold mx_stl
    rw [e1]
  · show c.1 + n = c'.1 + n
    rw [hC.1]
theorem as_store2 {a n b : Nat} {L : List Nat} (h : ao_store 2 a n c = some ds) (hB : ac_B σ c.2.2.2.2) (hC : ac_C σ c c') : ac_St σ SA' (7, a, n, L) c' ds := by
  obtain ⟨v, st, h1, h2, rfl⟩ := ao_store_inv h
  obtain ⟨v', st', e1, e2, e3⟩ := ac_st1 h1 hC
  obtain ⟨x, rfl, rfl⟩ := ac_V_ref e2 h2
  refine ac_one hB (d' := (c'.1 + n, mx_sto a (.ref x) c'.2.1, st', c'.2.2.2)) ?_ ⟨?_, ac_L_sto hC.2.1 e2, e3, hC.2.2.2⟩
  · show mx_sta a n c' = _
    unfold mx_sta
    rw [e1]
  · show c.1 + n = c'.1 + n
    rw [hC.1]
theorem ax_bmod {z : Int} (h1 : -2147483648 ≤ z) (h2 : z ≤ 2147483647) : z.bmod (2 ^ 32) = z := by
  rw [Int.bmod_def]
  split <;> omega
theorem ac_off {B : ax_B} {s : Nat} {k d : Int} {x z : Int32} (hB : ac_B σ B) (hx : x.toInt = σ s + k) (hz : z.toInt = (x.toInt + d).bmod (2 ^ 32)) : ac_V σ (ax_off B s k d) (.int z) := by
  unfold ax_off
  split
  · next lo hi hs =>
    have h2 := hB s (lo, hi) (by rw [← mx_nth_eq]; exact hs)
    cases hb : decide (-2147483648 ≤ lo + k + d) && decide (hi + k + d ≤ 2147483647) with
    | false => exact ⟨z, rfl⟩
    | true =>
      simp only [Bool.and_eq_true, decide_eq_true_eq] at hb
      have h3 : lo ≤ σ s := h2.1
      have h4 : σ s ≤ hi := h2.2
      refine ⟨z, rfl, ?_⟩
      rw [hz, hx, ax_bmod (by omega) (by omega)]
      omega
  · exact ⟨z, rfl⟩
theorem as_inc {a d : Nat} {L : List Nat} (h : ao_inc a d c = some ds) (hB : ac_B σ c.2.2.2.2) (hC : ac_C σ c c') : ac_St σ SA' (8, a, d, L) c' ds := by
  unfold ao_inc at h
  split at h
  · next v hv =>
    split at h
    · next w hw =>
      have h := Option.some.inj h
      subst h
      obtain ⟨v', h3, h4⟩ := ac_L_lk hC.2.1 hv
      have h5 := ac_nrm hB h4
      have key : ∃ x, v' = .int x ∧ ac_V σ w (.int (x + Int32.ofNat d)) := by
        generalize ax_nrm c.2.2.2.2 v = u at hw h5
        match u, hw, h5 with
        | .inl (.int x), hw, h5 =>
          cases hw
          exact ⟨x, h5, rfl⟩
        | .inr (.inl (s, k)), hw, h5 =>
          cases hw
          obtain ⟨x, e, hx⟩ := h5
          exact ⟨x, e, ac_off hB hx (Int32.toInt_add _ _)⟩
        | .inr (.inr true), hw, h5 =>
          cases hw
          obtain ⟨x, e⟩ := h5
          exact ⟨x, e, _, rfl⟩
      obtain ⟨x, rfl, hx⟩ := key
      refine ac_one hB (d' := (c'.1 + 3, mx_sto a (.int (x + Int32.ofNat d)) c'.2.1, c'.2.2.1, c'.2.2.2)) ?_ ⟨?_, ac_L_sto hC.2.1 hx, hC.2.2.1, hC.2.2.2⟩
      · show mx_inc a d c' = _
        unfold mx_inc
        rw [h3]
      · show c.1 + 3 = c'.1 + 3
        rw [hC.1]
    · cases h
  · cases h
theorem ao_pp_op {o a b : Nat} {L : List Nat} {SF : List mx_F} {DF : List (List Value)} {N : Nat} {d : mx_C} (h1 : 9 ≤ o) (h2 : o ≤ 35) : ao_pp o d = mx_op SA SF DF N (o, a, b, L) d := by
  match o, h1, h2 with
  | 9, _, _ => rfl
  | 10, _, _ => rfl
  | 11, _, _ => rfl
  | 12, _, _ => rfl
  | 13, _, _ => rfl
  | 14, _, _ => rfl
  | 15, _, _ => rfl
  | 16, _, _ => rfl
  | 17, _, _ => rfl
  | 18, _, _ => rfl
  | 19, _, _ => rfl
  | 20, _, _ => rfl
  | 21, _, _ => rfl
  | 22, _, _ => rfl
  | 23, _, _ => rfl
  | 24, _, _ => rfl
  | 25, _, _ => rfl
  | 26, _, _ => rfl
  | 27, _, _ => rfl
  | 28, _, _ => rfl
  | 29, _, _ => rfl
  | 30, _, _ => rfl
  | 31, _, _ => rfl
  | 32, _, _ => rfl
  | 33, _, _ => rfl
  | 34, _, _ => rfl
  | 35, _, _ => rfl
  | n + 36, _, h2 => exact absurd h2 (by omega)
/-- two ints, one of them not known -/
def ai_fn (o : Nat) (x y : Int32) : Option Value := match o with
  | 9 => some (.int (x + y))
  | 10 => some (.int (x - y))
  | 11 => some (.int (x * y))
  | 12 => some (.int (x &&& y))
  | 13 => some (.int (x ||| y))
  | 14 => mx_div x y
  | 15 => mx_rem x y
  | 17 => some (.int (x <<< (y &&& 31)))
  | _ => some (.int (x >>> (y &&& 31)))
theorem ai_tot {o : Nat} {x y : Int32} (h : o = 14 ∨ o = 15 → ¬ y = 0) : ∃ z, ai_fn o x y = some (.int z) := by
  by_cases h14 : o = 14
  · subst h14
    exact ⟨_, by show mx_div x y = _; unfold mx_div; rw [if_neg (h (Or.inl rfl))]⟩
  · by_cases h15 : o = 15
    · subst h15
      exact ⟨_, by show mx_rem x y = _; unfold mx_rem; rw [if_neg (h (Or.inr rfl))]⟩
    · unfold ai_fn
      split <;> first
        | exact ⟨_, rfl⟩
        | exact absurd rfl h14
        | exact absurd rfl h15
theorem ac_drv {o s : Nat} {k : Int} {x y z : Int32} (ho : o = 12 ∨ o = 14 ∨ o = 15) (hD : ac_D σ DT n0) (hx : x.toInt = σ s + k) (hz : z = ac_fn o x y) : ac_V σ (ax_drv DT n0 o s k y) (.int z) := by
  unfold ax_drv
  split
  · next t ht =>
    cases hk : (k == 0) with
    | false => exact ⟨z, rfl⟩
    | true =>
      have hk := eq_of_beq hk
      rw [hk, Int.add_zero] at hx
      refine ⟨z, rfl, ?_⟩
      rw [hz, hD o s t y ht x hx, Int.add_zero]
  · exact ⟨z, rfl⟩
theorem ax_ii_sound {B : ax_B} {o : Nat} {x y v : ax_V} {x' y' : Value} (hB : ac_B σ B) (hD : ac_D σ DT n0) (h : ax_ii DT n0 B o x y = some v) (hx : ac_V σ x x') (hy : ac_V σ y y') : ∃ (a b : Int32) (z : Int32), x' = .int a ∧ y' = .int b ∧ ai_fn o a b = some (.int z) ∧ ac_V σ v (.int z) := by
  have any : ∀ (a b : Int32), (o = 14 ∨ o = 15 → ¬ b = 0) → v = ax_any → x' = .int a → y' = .int b → ∃ (a b : Int32) (z : Int32), x' = .int a ∧ y' = .int b ∧ ai_fn o a b = some (.int z) ∧ ac_V σ v (.int z) := by
    intro a b hz hv e1 e2
    obtain ⟨z, hz⟩ := ai_tot (o := o) (x := a) (y := b) hz
    exact ⟨a, b, z, e1, e2, hz, by rw [hv]; exact ⟨z, rfl⟩⟩
  unfold ax_ii at h
  split at h
  · next p b =>
    obtain ⟨a, rfl, ha⟩ := hx
    have hy : y' = .int b := hy
    subst hy
    unfold ax_iiC at h
    cases h9 : Nat.beq o 9 with
    | true =>
      rw [h9] at h
      have := Nat.eq_of_beq_eq_true h9
      subst this
      cases h
      exact ⟨a, b, a + b, rfl, rfl, rfl, ac_off hB ha (Int32.toInt_add _ _)⟩
    | false =>
      cases h10 : Nat.beq o 10 with
      | true =>
        rw [h9, h10] at h
        have := Nat.eq_of_beq_eq_true h10
        subst this
        cases h
        exact ⟨a, b, a - b, rfl, rfl, rfl, ac_off hB ha (by rw [Int32.toInt_sub, Int.sub_eq_add_neg])⟩
      | false =>
        cases h14 : Nat.beq o 14 with
        | true =>
          rw [h9, h10, h14] at h
          have := Nat.eq_of_beq_eq_true h14
          subst this
          cases hb : (b == 0) with
          | true => rw [hb] at h; cases h
          | false =>
            rw [hb] at h
            cases h
            have hb0 : ¬ b = 0 := by simpa using hb
            exact ⟨a, b, a / b, rfl, rfl, by show mx_div a b = _; unfold mx_div; rw [if_neg hb0], ac_drv (Or.inr (Or.inl rfl)) hD ha rfl⟩
        | false =>
          cases h15 : Nat.beq o 15 with
          | true =>
            rw [h9, h10, h14, h15] at h
            have := Nat.eq_of_beq_eq_true h15
            subst this
            cases hb : (b == 0) with
            | true => rw [hb] at h; cases h
            | false =>
              rw [hb] at h
              cases h
              have hb0 : ¬ b = 0 := by simpa using hb
              exact ⟨a, b, a - a / b * b, rfl, rfl, by show mx_rem a b = _; unfold mx_rem; rw [if_neg hb0], ac_drv (Or.inr (Or.inr rfl)) hD ha rfl⟩
          | false =>
            have n14 : ¬ (o = 14 ∨ o = 15) := by
              rintro (rfl | rfl)
              · cases h14
              · cases h15
            cases h12 : Nat.beq o 12 with
            | true =>
              rw [h9, h10, h14, h15, h12] at h
              have := Nat.eq_of_beq_eq_true h12
              subst this
              cases h
              exact ⟨a, b, a &&& b, rfl, rfl, rfl, ac_drv (Or.inl rfl) hD ha rfl⟩
            | false =>
              rw [h9, h10, h14, h15, h12] at h
              cases h
              exact any a b (fun z => absurd z n14) rfl rfl rfl
  · next a p =>
    obtain ⟨b, rfl, hb⟩ := hy
    have hx : x' = .int a := hx
    subst hx
    unfold ax_iiD at h
    cases h9 : Nat.beq o 9 with
    | true =>
      rw [h9] at h
      have := Nat.eq_of_beq_eq_true h9
      subst this
      cases h
      exact ⟨a, b, a + b, rfl, rfl, rfl, ac_off hB hb (by rw [Int32.toInt_add, Int.add_comm])⟩
    | false =>
      cases h14 : (Nat.beq o 14 || Nat.beq o 15) with
      | true => rw [h9, h14] at h; cases h
      | false =>
        rw [h9, h14] at h
        cases h
        refine any a b (fun z => ?_) rfl rfl rfl
        rcases z with rfl | rfl
        · cases h14
        · cases h14
  · cases hc : ((Nat.beq (ax_kind x) 0 && Nat.beq (ax_kind y) 0) && !((Nat.beq o 14 || Nat.beq o 15) && ax_zer y)) with
    | false => rw [hc] at h; cases h
    | true =>
      rw [hc] at h
      cases h
      simp only [Bool.and_eq_true, Bool.not_eq_true'] at hc
      obtain ⟨⟨b1, b2⟩, b3⟩ := hc
      obtain ⟨a, rfl⟩ := ac_V_int hx (Nat.eq_of_beq_eq_true b1)
      obtain ⟨b, rfl⟩ := ac_V_int hy (Nat.eq_of_beq_eq_true b2)
      refine any a b (fun z hb0 => ?_) rfl rfl rfl
      subst hb0
      have hz : ax_zer y = true := by
        match y, hy with
        | .inl (.int w), hy =>
          cases hy
          rfl
        | .inr _, _ => rfl
      rw [hz] at b3
      rcases z with rfl | rfl
      · cases b3
      · cases b3
end ABS
