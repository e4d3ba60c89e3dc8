/-! INSTRUCTIONS ON ROWS -/
section SXT
variable {P : sx_P} {SA : mx_S} {TG : sx_TG} {σ : Nat → Int} {φ : sx_R} {D D' : sx_D} {c c' : sx_C} {d : mx_C} {os : List sx_C} {r : Option mx_C} {v : Int}
theorem mx_kd_i {t : Nat} {x : vp_A} (h : mx_kd t x = true) (ht : Nat.blt t 3 = true) : ∃ f : Nat → Int32, x.2 = .inl f := by
  obtain ⟨n, f | f | f⟩ := x
  · exact ⟨f, rfl⟩
  · have h : Nat.beq t 3 = true := h
    have e := Nat.eq_of_beq_eq_true h
    subst e
    cases ht
  · cases h
theorem mx_kd_l {x : vp_A} (h : mx_kd 3 x = true) : ∃ f : Nat → Int64, x.2 = .inr (.inl f) := by
  obtain ⟨n, f | f | f⟩ := x
  · cases h
  · exact ⟨f, rfl⟩
  · cases h
theorem sx_1300 {q : Nat} (h1 : Nat.ble 1000 q = true) (h2 : Nat.beq q 1300 = false) : ¬ (q - 1000 = 300) := fun z => by
  have := Nat.le_of_ble_eq_true h1
  have : q = 1300 := by omega
  rw [this] at h2
  cases h2
/-- an element, as a value of its kind -/
theorem mx_con_v {t : Nat} {x : vp_A} {i : Nat} (h : mx_kd t x = true) (ht : t < 4) : ∃ w, mx_con x i = w ∧ (sx_lo (!(Nat.beq t 3)) ≤ sx_iv w ∧ sx_iv w ≤ sx_hi (!(Nat.beq t 3))) ∧ ∀ (σ : Nat → Int) (e : sx_E), sx_ev σ e = sx_iv w → sx_vr σ (.inr (!(Nat.beq t 3), e)) w := by
  obtain ⟨n, f | f | f⟩ := x
  · have h : Nat.blt t 3 = true := h
    have h2 : t < 3 := Nat.le_of_ble_eq_true h
    have hb : Nat.beq t 3 = false := sx_beq_ne (by omega)
    rw [hb]
    exact ⟨_, rfl, sn_rw32 (f i), fun σ e he => sx_vr_i.mpr he.symm⟩
  · have h : Nat.beq t 3 = true := h
    rw [h]
    exact ⟨_, rfl, sn_rw64 (f i), fun σ e he => sx_vr_l.mpr he.symm⟩
  · cases h
theorem so_alen_ok (ho : sx_own P.2.2.1) (hst : sx_str P SA TG c d σ φ) (h : so_alen P c = some os) : sx_suc P SA TG c d (mx_alen SA d) os σ φ := by
  obtain ⟨pc, lv, st, D⟩ := c
  unfold so_alen at h
  have hh := hst.here
  match st, hst, hh, h with
  | .inl (.ref q) :: st, hst, hh, h =>
    obtain ⟨pc', lv', st', M⟩ := d
    obtain ⟨rs, rfl, -⟩ := sx_vs_r hh.2.2.1
    have e1 : pc = pc' := hh.1
    subst e1
    simp only at h
    cases h1 : Nat.ble 1000 q with
    | true =>
      rw [h1] at h
      simp only [cond_true] at h
      cases h2 : Nat.beq q 1300 with
      | true =>
        rw [h2] at h
        simp only [cond_true] at h
        cases h
        have e2 := Nat.eq_of_beq_eq_true h2
        subst e2
        obtain ⟨-, ⟨x, x1, x2, x3, -⟩, -⟩ := hh.2.2.2.2.2
        have er : mx_alen SA (pc, lv', .ref 1300 :: rs, M) = some (pc + 1, lv', .int (Int32.ofNat x.1) :: rs, M) := by
          unfold mx_alen mx_ar
          simp only [x1, show Nat.ble 1000 1300 = true from rfl, show 1300 - 1000 = 300 from rfl, cond_true]
        rw [er]
        refine sp_no List.mem_cons_self rfl rfl hst fun σ φ hr => ⟨_, rfl, rfl, hr.2.1, ⟨sx_vr_i.mpr ?_, hr.2.2.1.2⟩, hr.2.2.2⟩
        obtain ⟨-, ⟨y, y1, y2, y3, -⟩, -⟩ := hr.2.2.2.2.2
        rw [x1] at y1
        cases y1
        rw [sx_ev_v, ← y3.1]
        exact Int32.toInt_ofNat_of_lt y3.2
      | false =>
        rw [h2] at h
        simp only [cond_false] at h
        split at h
        · next x hx =>
          cases h3 : Nat.blt x.2.1 2147483648 with
          | false => rw [h3] at h; cases h
          | true =>
            rw [h3] at h
            cases h
            have hne : ¬ (q - 1000 = 300) := sx_1300 h1 h2
            have hs := (hh.2.2.2.2.2.1 _ hne).trans hx
            have er : mx_alen SA (pc, lv', .ref q :: rs, M) = some (pc + 1, lv', .int (Int32.ofNat x.2.1) :: rs, M) := by
              unfold mx_alen mx_ar
              simp only [hs, h1, cond_true]
            rw [er]
            have h3 : x.2.1 < 2147483648 := Nat.le_of_ble_eq_true h3
            exact sp_no List.mem_cons_self rfl rfl hst fun σ φ hr => ⟨_, rfl, rfl, hr.2.1, ⟨sx_vr_i.mpr (by rw [sx_ev_k]; exact Int32.toInt_ofNat_of_lt h3), hr.2.2.1.2⟩, hr.2.2.2⟩
        · cases h
    | false =>
      rw [h1] at h
      simp only [cond_false] at h
      split at h
      · next p hp =>
        cases h
        obtain ⟨t, n, j⟩ := p
        obtain ⟨x, x1, x2, x3, -⟩ := sx_mm_row hh.2.2.2.1 hp
        have er : mx_alen SA (pc, lv', .ref q :: rs, M) = some (pc + 1, lv', .int (Int32.ofNat n) :: rs, M) := by
          unfold mx_alen mx_ar
          simp only [h1, mx_nth_eq, x1, x3, cond_false, cond_true, x2]
        rw [er]
        have hn := (ho.2.2.2.1 q t n j hp).2.1
        exact sp_no List.mem_cons_self rfl rfl hst fun σ φ hr => ⟨_, rfl, rfl, hr.2.1, ⟨sx_vr_i.mpr (by rw [sx_ev_k]; exact Int32.toInt_ofNat_of_lt (by omega)), hr.2.2.1.2⟩, hr.2.2.2⟩
      · cases h
theorem mx_con_lit {x : vp_A} {i : Nat} {n : Int} (hi : (i : Int) = n) : mx_con x i = mx_con x n.toNat := by
  rw [← hi]
  rfl
theorem so_ald_ok {t : Nat} (ho : sx_own P.2.2.1) (hst : sx_str P SA TG c d σ φ) (hSA : ∀ j x, mx_SAx j = some x → mx_kd x.1 x.2 = true ∧ x.1 < 4 ∧ x.2.1 < 2000) (h : so_ald P t c = some os) : sx_suc P SA TG c d (mx_ald SA t d) os σ φ := by
  obtain ⟨pc, lv, st, D⟩ := c
  unfold so_ald at h
  have hh := hst.here
  match st, hst, hh, h with
  | .inr (true, e) :: .inl (.ref q) :: st, hst, hh, h =>
    obtain ⟨pc', lv', st', M⟩ := d
    obtain ⟨i, rs, rfl, hi, hs⟩ := sx_vs_i hh.2.2.1
    obtain ⟨rs, rfl, -⟩ := sx_vs_r hs
    have e1 : pc = pc' := hh.1
    subst e1
    have hk : so_aldv P t (pc, lv, .inr (true, e) :: .inl (.ref q) :: st, D) e q st = some os := h
    clear h
    unfold so_aldv at hk
    cases h1 : Nat.ble 1000 q with
    | true =>
      rw [h1] at hk
      simp only [cond_true] at hk
      cases h2 : Nat.beq q 1300 with
      | true =>
        rw [h2] at hk
        simp only [cond_true] at hk
        have e2 := Nat.eq_of_beq_eq_true h2
        subst e2
        cases h3 : (Nat.beq t 0 && sx_inr P D e (sx_v 255)) with
        | false => rw [h3] at hk; cases hk
        | true =>
          rw [h3] at hk
          simp only [cond_true] at hk
          rw [Bool.and_eq_true] at h3
          have e3 := Nat.eq_of_beq_eq_true h3.1
          subst e3
          obtain ⟨p, hp, rfl⟩ := so_out_some hk
          cases hp
          obtain ⟨-, ⟨x, x1, x2, x3, x4⟩, -⟩ := hh.2.2.2.2.2
          have hr := sx_inr_ok hh.2.2.2.2.1 h3.2
          rw [sx_ev_v, ← hi, ← x3.1] at hr
          obtain ⟨w, w1, w2, w3⟩ := mx_con_v (i := i.toInt.toNat) x2 (by omega)
          have er : mx_ald SA 0 (pc, lv', .int i :: .ref 1300 :: rs, M) = some (pc + 1, lv', w :: rs, M) := by
            unfold mx_ald mx_ar
            simp only [x1, show Nat.ble 1000 1300 = true from rfl, show 1300 - 1000 = 300 from rfl, cond_true, show Nat.beq 0 0 = true from rfl, sn_inb hr.1 hr.2, Bool.and_self, sn_nat, w1]
          rw [er]
          refine sp_an2 (n := 1) (rs := rs) (w := w) List.mem_cons_self (sx_rd_ok (v := sx_iv w) w2) hst (fun σ φ hr2 => ⟨?_, hr2.2.2.1.2.2⟩) (fun σ e he => w3 σ e he) rfl
          obtain ⟨-, ⟨y, y1, y2, y3, y4⟩, -⟩ := hr2.2.2.2.2.2
          rw [x1] at y1
          cases y1
          rw [← sx_vr_i.mp hr2.2.2.1.1, ← y4 _ (by omega), w1]
      | false =>
        rw [h2] at hk
        simp only [cond_false] at hk
        split at hk
        · next x hx =>
          cases h3 : (Nat.beq x.1 t && sx_inr P D e (sx_k x.2.1)) with
          | false => rw [h3] at hk; cases hk
          | true =>
            rw [h3] at hk
            simp only [cond_true] at hk
            rw [Bool.and_eq_true] at h3
            have e3 := Nat.eq_of_beq_eq_true h3.1
            subst e3
            have hs := (hh.2.2.2.2.2.1 _ (sx_1300 h1 h2)).trans hx
            obtain ⟨k1, k2, k3⟩ := hSA _ _ hx
            have hr := sx_inr_ok hh.2.2.2.2.1 h3.2
            rw [sx_ev_k, ← hi] at hr
            obtain ⟨w, w1, w2, w3⟩ := mx_con_v (i := i.toInt.toNat) k1 k2
            obtain ⟨tt, xx⟩ := x
            have er : mx_ald SA tt (pc, lv', .int i :: .ref q :: rs, M) = some (pc + 1, lv', w :: rs, M) := by
              unfold mx_ald mx_ar
              simp only [hs, h1, cond_true, sx_beq_rf, sn_inb hr.1 hr.2, Bool.and_self, sn_nat, w1]
            rw [er]
            cases h4 : sx_isk e with
            | true =>
              rw [h4] at hk
              cases hk
              refine sp_no List.mem_cons_self rfl rfl hst fun σ φ hr2 => ⟨_, rfl, rfl, hr2.2.1, ⟨w3 σ _ ?_, hr2.2.2.1.2.2⟩, hr2.2.2.2⟩
              rw [sx_ev_k]
              have hi2 := sx_vr_i.mp hr2.2.2.1.1
              rw [sx_isk_ok h4] at hi2
              show sx_iv (mx_con xx e.1.toNat) = sx_iv w
              rw [← hi2, w1]
            | false =>
              rw [h4] at hk
              cases hk
              refine sp_go List.mem_cons_self (Nat.le_succ _) (Nat.le_refl _) (fun _ => sx_iv w) (fun _ _ => 0) hst fun σ φ hr2 hn _ => ⟨_, rfl, rfl, hr2.2.1, ⟨w3 σ _ ?_, hr2.2.2.1.2.2⟩, ?_⟩
              · rw [sx_ev_v]
                exact hn _ (Nat.le_refl _) (Nat.lt_succ_self _)
              · refine sx_ok_kp (D := D) ⟨rfl, rfl, Nat.le_succ _, rfl⟩ hr2.2.2.2 (sx_dr_v (D := D) hr2.2.2.2.2.1 ?_)
                have e5 : σ D.2.2.2.2.2.1 = sx_iv w := hn _ (Nat.le_refl _) (Nat.lt_succ_self _)
                rw [e5]
                exact w2
        · cases hk
    | false =>
      rw [h1] at hk
      simp only [cond_false] at hk
      split at hk
      · next p hp =>
        obtain ⟨u, n, j⟩ := p
        cases h3 : (Nat.beq u t && sx_inr P D e (sx_k n)) with
        | false => simp only [h3, cond_false] at hk; cases hk
        | true =>
          simp only [h3, cond_true] at hk
          rw [Bool.and_eq_true] at h3
          have e3 := Nat.eq_of_beq_eq_true h3.1
          subst e3
          obtain ⟨p, hp2, rfl⟩ := so_out_some hk
          cases hp2
          obtain ⟨x, x1, x2, x3, x4⟩ := sx_mm_row hh.2.2.2.1 hp
          have hr := sx_inr_ok hh.2.2.2.2.1 h3.2
          rw [sx_ev_k, ← hi] at hr
          obtain ⟨w, w1, w2, w3⟩ := mx_con_v (i := i.toInt.toNat) x3 (ho.2.2.2.1 q u n j hp).2.2
          have er : mx_ald SA u (pc, lv', .int i :: .ref q :: rs, M) = some (pc + 1, lv', w :: rs, M) := by
            unfold mx_ald mx_ar
            simp only [h1, mx_nth_eq, x1, x3, cond_false, cond_true, sx_beq_rf, x2, sn_inb hr.1 hr.2, Bool.and_self, sn_nat, w1]
          rw [er]
          refine sp_an2 (n := 1) (rs := rs) (w := w) List.mem_cons_self (sx_rd_ok (v := sx_iv w) w2) hst (fun σ φ hr2 => ⟨?_, hr2.2.2.1.2.2⟩) (fun σ e he => w3 σ e he) rfl
          obtain ⟨y, y1, y2, y3, y4⟩ := sx_mm_row hr2.2.2.2.1 hp
          rw [x1] at y1
          cases y1
          rw [← sx_vr_i.mp hr2.2.2.1.1, ← y4 _ (by omega), w1]
      · cases hk
/-- what a narrow row holds of a number -/
theorem sx_nar_ok {t : Nat} {e : sx_E} {x : Int32} (ht : Nat.blt t 3 = true) : sx_an P TG D (sx_nar P t e D) (mx_nar t x).toInt (fun σ => sx_ev σ e = x.toInt) := by
  have ht := Nat.le_of_ble_eq_true ht
  unfold sx_nar
  match t, ht with
  | 0, _ => exact sx_an_e fun σ φ h1 h2 => h2
  | 1, _ =>
    have e1 : (mx_nar 1 x).toInt = x.toInt8.toInt32.toInt := rfl
    rw [e1]
    show sx_an P TG D (bif sx_nn P.1 D.2.2.1 (sx_pk e 128) && sx_nn P.1 D.2.2.1 (sx_pk (sx_ng e) 127) then (e, D) else sx_res 30 e (sx_k 0) (-128) 127 D) _ _
    cases hb : (sx_nn P.1 D.2.2.1 (sx_pk e 128) && sx_nn P.1 D.2.2.1 (sx_pk (sx_ng e) 127)) with
    | true =>
      rw [Bool.and_eq_true] at hb
      refine sx_an_e fun σ φ z3 z4 => ?_
      have h5 := sx_nn_ok z3.1 z3.2.2.1 hb.1
      have h6 := sx_nn_ok z3.1 z3.2.2.1 hb.2
      rw [sx_ev_pk] at h5 h6
      rw [sx_ev_ng] at h6
      rw [z4] at h5 h6 ⊢
      rw [sn_i2b]
      exact (sn_b8 (by omega) (by omega)).symm
    | false =>
      refine sx_an_res (by omega) ?_ (fun σ hh => by rw [hh]; simp only [sx_fn, Int32.ofInt_toInt])
      rw [sn_i2b]
      have h1 := Int.le_bmod (x := x.toInt) (m := 2 ^ 8) (by decide)
      have h2 := Int.bmod_lt (x := x.toInt) (m := 2 ^ 8) (by decide)
      omega
  | 2, _ =>
    have e1 : (mx_nar 2 x).toInt = (x &&& 1).toInt := rfl
    rw [e1]
    show sx_an P TG D (bif sx_nn P.1 D.2.2.1 e && sx_nn P.1 D.2.2.1 (sx_pk (sx_ng e) 1) then (e, D) else sx_res 12 e (sx_k 1) 0 1 D) _ _
    cases hb : (sx_nn P.1 D.2.2.1 e && sx_nn P.1 D.2.2.1 (sx_pk (sx_ng e) 1)) with
    | true =>
      rw [Bool.and_eq_true] at hb
      refine sx_an_e fun σ φ z3 z4 => ?_
      have h5 := sx_nn_ok z3.1 z3.2.2.1 hb.1
      have h6 := sx_nn_ok z3.1 z3.2.2.1 hb.2
      rw [sx_ev_pk, sx_ev_ng] at h6
      rw [z4] at h5 h6 ⊢
      have hx : x.toInt = 0 ∨ x.toInt = 1 := by omega
      rcases hx with hx | hx
      · have : x = 0 := Int32.toInt_inj.mp hx
        rw [this]
        rfl
      · have : x = 1 := Int32.toInt_inj.mp hx
        rw [this]
        rfl
    | false =>
      have := sn_and (a := x) (b := 1) (by decide)
      exact sx_an_res (by omega) this (fun σ hh => by rw [hh, sx_ev_k]; simp only [sx_fn, Int32.ofInt_toInt]; rfl)
/-- one element of a row is put -/
def sx_pw (P : sx_P) (TG : sx_TG) (D D' : sx_D) (j : Nat) (e v : sx_E) : Prop :=
  ∃ g, D'.1 = D.1 ∧ (∀ i, sx_ag D' i = if i = j then g else sx_ag D i) ∧ D'.2.2.2.2.2.1 = D.2.2.2.2.2.1 ∧ D.2.2.2.2.2.2 ≤ D'.2.2.2.2.2.2 ∧ g < D'.2.2.2.2.2.2 ∧
    ∀ σ φ, sx_d P TG σ φ D → 0 ≤ sx_ev σ e → (∀ a, D.2.2.2.2.2.2 ≤ a → a < D'.2.2.2.2.2.2 → ∀ j', φ a j' = if j' = (sx_ev σ e).toNat then sx_ev σ v else φ (sx_ag D j) j') → sx_d P TG σ φ D' ∧ ∀ j', φ g j' = if j' = (sx_ev σ e).toNat then sx_ev σ v else φ (sx_ag D j) j'
theorem sx_wr_ok {j : Nat} {e u : sx_E} : sx_pw P TG D (sx_wr P j e u D) j e u := by
  unfold sx_wr
  split
  · next g hg =>
    obtain ⟨f, h1, h2⟩ := sx_first_ok hg
    unfold sx_upd1 at h2
    split at h2
    · next b g2 i r2 =>
      cases hb : (Nat.beq b (sx_ag D j) && (sx_eq i e && (sx_eq r2 u && Nat.blt g2 D.2.2.2.2.2.2))) with
      | false => rw [hb] at h2; cases h2
      | true =>
        rw [hb] at h2
        cases h2
        simp only [Bool.and_eq_true] at hb
        obtain ⟨k1, k2, k3, k4⟩ := hb
        have k1 := Nat.eq_of_beq_eq_true k1
        have k2 := sx_eq_eq k2
        have k3 := sx_eq_eq k3
        subst k2
        subst k3
        refine ⟨g, rfl, fun i => sx_ag_put, rfl, Nat.le_refl _, Nat.le_of_ble_eq_true k4, fun σ φ hd he _ => ⟨hd, ?_⟩⟩
        have hf : ∀ j', φ g j' = if j' = (sx_ev σ i).toNat then sx_ev σ r2 else φ b j' := hd.2.2.2.2 _ h1
        rw [k1] at hf
        exact hf
    · cases h2
  · refine ⟨D.2.2.2.2.2.2, rfl, fun i => sx_ag_put, rfl, Nat.le_succ _, Nat.lt_succ_self _, fun σ φ hd he hw => ?_⟩
    have hg := hw D.2.2.2.2.2.2 (Nat.le_refl _) (Nat.lt_succ_self _)
    refine ⟨sx_dr_F (D := D) hd (List.forall_mem_cons.mpr ⟨?_, List.forall_mem_cons.mpr ⟨hg, sx_hull_ok hd (sx_all_app (sx_inh_ok hd he hg hd.2.2.2.2) hd.2.2.2.2) fun j' => ?_⟩⟩), hg⟩
    · show φ D.2.2.2.2.2.2 (sx_ev σ e).toNat = sx_ev σ u
      rw [hg, if_pos rfl]
    · rw [hg]
      split
      · exact Or.inl rfl
      · exact Or.inr rfl
end SXT
