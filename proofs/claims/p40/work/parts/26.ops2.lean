/-! INSTRUCTIONS ON NUMBERS -/
section SXQ
variable {P : sx_P} {SA : mx_S} {TG : sx_TG} {σ : Nat → Int} {φ : sx_R} {D D' : sx_D} {c c' : sx_C} {d : mx_C} {os : List sx_C} {r : Option mx_C} {SF : List mx_F} {DF : List (List Value)} {N : Nat}
theorem sn_c32 {a : Nat} (h : Nat.blt a 4294967296 = true) : (Int32.ofNat a).toInt = sx_c32 a := by
  have h1 : a < 4294967296 := Nat.le_of_ble_eq_true h
  unfold sx_c32
  rw [Int32.toInt_ofNat']
  show (a : Int).bmod 4294967296 = _
  rw [Int.bmod_def]
  cases hb : Nat.blt a 2147483648 with
  | true =>
    have h2 : a < 2147483648 := Nat.le_of_ble_eq_true hb
    show _ = (a : Int)
    split <;> omega
  | false =>
    have h2 : ¬ a < 2147483648 := fun z => by
      have : Nat.blt a 2147483648 = true := Nat.ble_eq_true_of_le z
      rw [this] at hb
      cases hb
    show _ = (a : Int) - 4294967296
    split <;> omega
theorem sn_c64 {a : Nat} (h : Nat.blt a 18446744073709551616 = true) : (Int64.ofNat a).toInt = sx_c64 a := by
  have h1 : a < 18446744073709551616 := Nat.le_of_ble_eq_true h
  unfold sx_c64
  rw [Int64.toInt_ofNat']
  show (a : Int).bmod 18446744073709551616 = _
  rw [Int.bmod_def]
  cases hb : Nat.blt a 9223372036854775808 with
  | true =>
    have h2 : a < 9223372036854775808 := Nat.le_of_ble_eq_true hb
    show _ = (a : Int)
    split <;> omega
  | false =>
    have h2 : ¬ a < 9223372036854775808 := fun z => by
      have : Nat.blt a 9223372036854775808 = true := Nat.ble_eq_true_of_le z
      rw [this] at hb
      cases hb
    show _ = (a : Int) - 18446744073709551616
    split <;> omega
theorem so_inc_ok {a b : Nat} (hst : sx_str P SA TG c d σ φ) (h : so_inc P a b c = some os) : sx_suc P SA TG c d (mx_inc a b d) os σ φ := by
  unfold so_inc at h
  split at h
  · next e hl =>
    cases hk : Nat.blt b 4294967296 with
    | false => rw [hk] at h; cases h
    | true =>
      rw [hk] at h
      simp only [cond_true, Option.some.injEq] at h
      subst h
      have hcv := sn_c32 hk
      obtain ⟨v, l1, x, rfl, l3⟩ := hst.here.2.1 a _ hl
      have eo : mx_inc a b d = some (d.1 + 3, mx_sto a (.int (x + Int32.ofNat b)) d.2.1, d.2.2.1, d.2.2.2) := by
        unfold mx_inc
        rw [l1]
      have hd := hst.here.2.2.2.2.1
      have an : sx_an P TG c.2.2.2 (sx_wrap P true 9 (sx_pk (sx_nr P.1 c.2.2.2.2.2.1 e) (sx_c32 b)) (sx_nr P.1 c.2.2.2.2.2.1 e) (sx_k (sx_c32 b)) c.2.2.2) (x + Int32.ofNat b).toInt (fun σ => sx_ev σ (sx_nr P.1 c.2.2.2.2.2.1 e) = x.toInt) := by
        refine sx_an_wrap (by omega) (sn_rw32 _) (fun σ hh => ?_) fun σ hh z1 z2 => ?_
        · rw [hh, sx_ev_k, ← hcv]
          simp only [sx_fn, Int32.ofInt_toInt]
        · rw [sx_ev_pk, hh, ← hcv] at z1 z2 ⊢
          exact (sn_add z1 z2).symm
      rw [eo]
      refine sp_go List.mem_cons_self an.1.2.2.1 (Nat.le_of_eq an.1.2.2.2.symm) (fun _ => (x + Int32.ofNat b).toInt) (fun _ _ => 0) hst fun σ φ h1 h2 _ => ⟨_, rfl, ?_⟩
      obtain ⟨v', m1, x', m2, m3⟩ := h1.2.1 a _ hl
      rw [l1] at m1
      cases m1
      cases m2
      have hd := h1.2.2.2.2.1
      obtain ⟨a1, a2⟩ := an.2 σ φ hd ((sx_nr_ok hd.1 hd.2.2.1).trans m3.symm) h2
      have e1 : c.1 = d.1 := h1.1
      exact ⟨by show c.1 + 3 = d.1 + 3; rw [e1], sx_lr_sto h1.2.1 ⟨_, rfl, a2.symm⟩, h1.2.2.1, sx_ok_kp an.1 h1.2.2.2 a1⟩
  · cases h
theorem so_out_some {b : Bool} {st : List sx_V} {r : Option (sx_E × sx_D)} (h : so_out b c st r = some os) : ∃ p, r = some p ∧ os = [(c.1 + 1, c.2.1, .inr (b, p.1) :: st, p.2)] := by
  unfold so_out at h
  split at h
  · next p => exact ⟨p, rfl, (Option.some.inj h).symm⟩
  · cases h
theorem sr_i_op {i : mx_I} {pc : Nat} {lv : mx_L} {rs : List Value} {M : mx_M} {a b z : Int32} (h : sr_i i.1 a b = some z) : mx_op SA SF DF N i (pc, lv, .int b :: .int a :: rs, M) = some (pc + 1, lv, .int z :: rs, M) := by
  obtain ⟨o, i2, i3, i4⟩ := i
  have h : sr_i o a b = some z := h
  unfold sr_i at h
  split at h
  · cases h; rfl
  · cases h; rfl
  · cases h; rfl
  · cases h; rfl
  · cases h; rfl
  · split at h
    · cases h
    · next hz =>
      cases h
      show mx_ii mx_div (pc, lv, .int b :: .int a :: rs, M) = _
      simp only [mx_ii, mx_div, hz, if_false]
  · split at h
    · cases h
    · next hz =>
      cases h
      show mx_ii mx_rem (pc, lv, .int b :: .int a :: rs, M) = _
      simp only [mx_ii, mx_rem, hz, if_false]
  · cases h; rfl
  · cases h; rfl
  · cases h
theorem sr_l_op {i : mx_I} {pc : Nat} {lv : mx_L} {rs : List Value} {M : mx_M} {a b z : Int64} (h : sr_l i.1 a b = some z) : mx_op SA SF DF N i (pc, lv, .long b :: .long a :: rs, M) = some (pc + 1, lv, .long z :: rs, M) := by
  obtain ⟨o, i2, i3, i4⟩ := i
  have h : sr_l o a b = some z := h
  unfold sr_l at h
  split at h
  · cases h; rfl
  · cases h; rfl
  · cases h; rfl
  · split at h
    · cases h
    · next hz =>
      cases h
      show mx_ll mx_ldiv (pc, lv, .long b :: .long a :: rs, M) = _
      simp only [mx_ll, mx_ldiv, hz, if_false]
  · cases h; rfl
  · cases h; rfl
  · cases h
theorem sr_u_op {i : mx_I} {pc : Nat} {lv : mx_L} {rs : List Value} {M : mx_M} {a z : Int32} (h : sr_u i.1 a = some z) : mx_op SA SF DF N i (pc, lv, .int a :: rs, M) = some (pc + 1, lv, .int z :: rs, M) := by
  obtain ⟨o, i2, i3, i4⟩ := i
  have h : sr_u o a = some z := h
  unfold sr_u at h
  split at h
  · cases h; rfl
  · cases h; rfl
  · cases h; rfl
  · cases h; rfl
  · cases h
/-- one int on top -/
theorem so_un_ok {i : mx_I} {e : sx_E} {st : List sx_V} {pc : Nat} {lv : sx_L} (hst : sx_str P SA TG (pc, lv, .inr (true, e) :: st, D) d σ φ) (h : (bif Nat.beq i.1 28 then some [(pc + 1, lv, .inr (false, e) :: st, D)] else bif Nat.beq i.1 29 then none else so_out true (pc, lv, .inr (true, e) :: st, D) st (sx_un P i.1 e D)) = some os) : sx_suc P SA TG (pc, lv, .inr (true, e) :: st, D) d (mx_op SA SF DF N i d) os σ φ := by
  obtain ⟨pc', lv', st', M⟩ := d
  obtain ⟨x, rs, rfl, -, -⟩ := sx_vs_i hst.here.2.2.1
  cases h28 : Nat.beq i.1 28 with
  | true =>
    rw [h28] at h
    cases h
    have e28 := Nat.eq_of_beq_eq_true h28
    obtain ⟨o, i2, i3, i4⟩ := i
    have e28 : o = 28 := e28
    subst e28
    refine sp_no List.mem_cons_self rfl rfl hst fun σ φ h1 => ⟨(pc' + 1, lv', .long x.toInt64 :: rs, M), rfl, ?_⟩
    have e1 : pc = pc' := h1.1
    exact ⟨by show pc + 1 = pc' + 1; rw [e1], h1.2.1, ⟨sx_vr_l.mpr (by rw [Int32.toInt_toInt64]; exact sx_vr_i.mp h1.2.2.1.1), h1.2.2.1.2⟩, h1.2.2.2⟩
  | false =>
    rw [h28] at h
    cases h29 : Nat.beq i.1 29 with
    | true => rw [h29] at h; cases h
    | false =>
      rw [h29] at h
      simp only [cond_false] at h
      obtain ⟨p, hp, rfl⟩ := so_out_some h
      obtain ⟨z, z1, z2⟩ := sx_un_ok (TG := TG) (a := x) h29 hp
      refine sp_an (n := 1) (rs := rs) (w := .int z) List.mem_cons_self z2 hst (fun σ φ h1 => ⟨(sx_vr_i.mp h1.2.2.1.1).symm, h1.2.2.1.2⟩) (fun σ e he => sx_vr_i.mpr he.symm) (sr_u_op z1)
/-- one long on top: made an int -/
theorem so_un29_ok {i : mx_I} {e : sx_E} {st : List sx_V} {pc : Nat} {lv : sx_L} (h29 : Nat.beq i.1 29 = true) (hst : sx_str P SA TG (pc, lv, .inr (false, e) :: st, D) d σ φ) (h : so_out true (pc, lv, .inr (false, e) :: st, D) st (sx_un P i.1 e D) = some os) : sx_suc P SA TG (pc, lv, .inr (false, e) :: st, D) d (mx_op SA SF DF N i d) os σ φ := by
  obtain ⟨pc', lv', st', M⟩ := d
  obtain ⟨x, rs, rfl, -, -⟩ := sx_vs_l hst.here.2.2.1
  obtain ⟨p, hp, rfl⟩ := so_out_some h
  have e29 := Nat.eq_of_beq_eq_true h29
  obtain ⟨o, i2, i3, i4⟩ := i
  have e29 : o = 29 := e29
  subst e29
  have z2 := sx_un29_ok (TG := TG) (a := x) hp
  exact sp_an (n := 1) (rs := rs) (w := .int x.toInt32) List.mem_cons_self z2 hst (fun σ φ h1 => ⟨(sx_vr_l.mp h1.2.2.1.1).symm, h1.2.2.1.2⟩) (fun σ e he => sx_vr_i.mpr he.symm) rfl
theorem so_ar_ok {i : mx_I} (hst : sx_str P SA TG c d σ φ) (h : so_ar P i.1 c = some os) : sx_suc P SA TG c d (mx_op SA SF DF N i d) os σ φ := by
  obtain ⟨pc, lv, st, D⟩ := c
  unfold so_ar at h
  have hh := hst.here
  match st, hst, hh, h with
  | .inr (true, y) :: .inr (true, x) :: st, hst, hh, h =>
    cases hb : (Nat.beq i.1 16 || Nat.blt 18 i.1) with
    | true =>
      simp only [hb, cond_true] at h
      exact so_un_ok hst h
    | false =>
      simp only [hb, cond_false] at h
      obtain ⟨p, hp, rfl⟩ := so_out_some h
      obtain ⟨pc', lv', st', M⟩ := d
      obtain ⟨b, rs, rfl, hy, hs⟩ := sx_vs_i hh.2.2.1
      obtain ⟨a, rs, rfl, hx, -⟩ := sx_vs_i hs
      obtain ⟨z, z1, z2⟩ := sx_bi_ok hh.2.2.2.2.1 hx.symm hy.symm hp
      exact sp_an (n := 1) (rs := rs) (w := .int z) List.mem_cons_self z2 hst (fun σ φ h1 => ⟨⟨(sx_vr_i.mp h1.2.2.1.2.1).symm, (sx_vr_i.mp h1.2.2.1.1).symm⟩, h1.2.2.1.2.2⟩) (fun σ e he => sx_vr_i.mpr he.symm) (sr_i_op z1)
  | .inr (false, y) :: .inr (false, x) :: st, hst, hh, h =>
    cases hb : Nat.beq i.1 29 with
    | true =>
      simp only [hb, cond_true] at h
      exact so_un29_ok hb hst h
    | false =>
      simp only [hb, cond_false] at h
      obtain ⟨p, hp, rfl⟩ := so_out_some h
      obtain ⟨pc', lv', st', M⟩ := d
      obtain ⟨b, rs, rfl, hy, hs⟩ := sx_vs_l hh.2.2.1
      obtain ⟨a, rs, rfl, hx, -⟩ := sx_vs_l hs
      obtain ⟨z, z1, z2⟩ := sx_bl_ok hh.2.2.2.2.1 hx.symm hy.symm hp
      exact sp_an (n := 1) (rs := rs) (w := .long z) List.mem_cons_self z2 hst (fun σ φ h1 => ⟨⟨(sx_vr_l.mp h1.2.2.1.2.1).symm, (sx_vr_l.mp h1.2.2.1.1).symm⟩, h1.2.2.1.2.2⟩) (fun σ e he => sx_vr_l.mpr he.symm) (sr_l_op z1)
  | .inr (true, y) :: .inr (false, x) :: st, hst, hh, h =>
    cases hb : (Nat.beq i.1 25 || Nat.beq i.1 26) with
    | true =>
      simp only [hb, cond_true] at h
      obtain ⟨p, hp, rfl⟩ := so_out_some h
      cases hp
      obtain ⟨pc', lv', st', M⟩ := d
      obtain ⟨b, rs, rfl, hy, hs⟩ := sx_vs_i hh.2.2.1
      obtain ⟨a, rs, rfl, hx, -⟩ := sx_vs_l hs
      obtain ⟨o, i2, i3, i4⟩ := i
      have hb : (Nat.beq o 25 || Nat.beq o 26) = true := hb
      rw [Bool.or_eq_true] at hb
      rcases hb with hb | hb
      · have e := Nat.eq_of_beq_eq_true hb
        subst e
        have an : sx_an P TG D (sx_full false 25 x y D) (a <<< (b.toInt64 &&& 63)).toInt (fun σ => sx_ev σ x = a.toInt ∧ sx_ev σ y = b.toInt) := sx_an_full (by omega) (sn_rw64 _) fun σ hh => by
          rw [hh.1, hh.2]
          simp only [sx_fn, Int32.ofInt_toInt, Int64.ofInt_toInt]
        exact sp_an (n := 1) (rs := rs) (w := .long (a <<< (b.toInt64 &&& 63))) List.mem_cons_self an hst (fun σ φ h1 => ⟨⟨(sx_vr_l.mp h1.2.2.1.2.1).symm, (sx_vr_i.mp h1.2.2.1.1).symm⟩, h1.2.2.1.2.2⟩) (fun σ e he => sx_vr_l.mpr he.symm) rfl
      · have e := Nat.eq_of_beq_eq_true hb
        subst e
        have an : sx_an P TG D (sx_full false 26 x y D) (a >>> (b.toInt64 &&& 63)).toInt (fun σ => sx_ev σ x = a.toInt ∧ sx_ev σ y = b.toInt) := sx_an_full (by omega) (sn_rw64 _) fun σ hh => by
          rw [hh.1, hh.2]
          simp only [sx_fn, Int32.ofInt_toInt, Int64.ofInt_toInt]
        exact sp_an (n := 1) (rs := rs) (w := .long (a >>> (b.toInt64 &&& 63))) List.mem_cons_self an hst (fun σ φ h1 => ⟨⟨(sx_vr_l.mp h1.2.2.1.2.1).symm, (sx_vr_i.mp h1.2.2.1.1).symm⟩, h1.2.2.1.2.2⟩) (fun σ e he => sx_vr_l.mpr he.symm) rfl
    | false =>
      simp only [hb, cond_false] at h
      exact so_un_ok hst h
  | .inr (true, y) :: .inl w :: st, hst, hh, h => exact so_un_ok hst h
  | [.inr (true, y)], hst, hh, h => exact so_un_ok hst h
  | .inr (false, y) :: .inr (true, w) :: st, hst, hh, h =>
    cases hb : Nat.beq i.1 29 with
    | true =>
      simp only [hb, cond_true] at h
      exact so_un29_ok hb hst h
    | false =>
      simp only [hb, cond_false] at h
      cases h
  | .inr (false, y) :: .inl w :: st, hst, hh, h =>
    cases hb : Nat.beq i.1 29 with
    | true =>
      simp only [hb, cond_true] at h
      exact so_un29_ok hb hst h
    | false =>
      simp only [hb, cond_false] at h
      cases h
  | [.inr (false, y)], hst, hh, h =>
    cases hb : Nat.beq i.1 29 with
    | true =>
      simp only [hb, cond_true] at h
      exact so_un29_ok hb hst h
    | false =>
      simp only [hb, cond_false] at h
      cases h
/-- one more fact on a way that is taken -/
theorem sp_asm {pc t : Nat} {lv : sx_L} {st st' : List sx_V} {M : mx_M} {rs : List Value} {o : Nat} {e : sx_E} {f : sx_D → sx_C} {lv' : mx_L} {vs : List Value} {pc' : Nat} (hst : sx_str P SA TG (pc, lv, st, D) (pc', lv', vs, M) σ φ) (hc : ∀ c ∈ so_one (sx_asm P o e D) f, c ∈ os) (hf : ∀ D, f D = (t, lv, st', D))
    (hH : ∀ σ φ, sx_rel P SA TG σ φ (pc, lv, st, D) (pc', lv', vs, M) → sx_cp o (sx_ev σ e) ∧ sx_vs σ st' rs) (hr : r = some (t, lv', rs, M)) : sx_suc P SA TG (pc, lv, st, D) (pc', lv', vs, M) r os σ φ := by
  obtain ⟨D', hD⟩ := sx_asm_some hst.here.2.2.2.2.1 (hH _ _ hst.here).1
  have hk := sx_asm_kq hD
  refine sp_no (c' := f D') (hc _ ?_) ?_ ?_ hst fun σ φ h1 => ⟨_, hr, ?_⟩
  · rw [hD]
    exact List.mem_cons_self
  · rw [hf]
    exact hk.2.2.1
  · rw [hf]
    exact hk.2.2.2
  · rw [hf]
    obtain ⟨z1, z2⟩ := hH σ φ h1
    exact ⟨rfl, h1.2.1, z2, sx_ok_kp hk.kp h1.2.2.2 (sx_asm_ok h1.2.2.2.2.1 hD z1)⟩
theorem so_cmp_ok (hst : sx_str P SA TG c d σ φ) (h : so_cmp P c = some os) : sx_suc P SA TG c d (mx_ll (fun x y => some (.int (lg_cmp x y))) d) os σ φ := by
  obtain ⟨pc, lv, st, D⟩ := c
  unfold so_cmp at h
  have hh := hst.here
  match st, hst, hh, h with
  | .inr (false, y) :: .inr (false, x) :: st, hst, hh, h =>
    cases h
    obtain ⟨pc', lv', st', M⟩ := d
    obtain ⟨b, rs, rfl, hy, hs⟩ := sx_vs_l hh.2.2.1
    obtain ⟨a, rs, rfl, hx, -⟩ := sx_vs_l hs
    have e1 : pc = pc' := hh.1
    subst e1
    have key : ∀ σ φ, sx_rel P SA TG σ φ (pc, lv, .inr (false, y) :: .inr (false, x) :: st, D) (pc, lv', .long b :: .long a :: rs, M) → sx_ev σ (sx_sb x y) = a.toInt - b.toInt ∧ sx_vs σ st rs := fun σ φ h1 => by
      rw [sx_ev_sb, sx_vr_l.mp h1.2.2.1.2.1, sx_vr_l.mp h1.2.2.1.1]
      exact ⟨rfl, h1.2.2.1.2.2⟩
    have kk : ∀ z : Int32, sx_vr σ (.inr (true, sx_k z.toInt)) (.int z) := fun z => sx_vr_i.mpr sx_ev_k.symm
    by_cases z1 : a.toInt < b.toInt
    · refine sp_asm (o := 2) (t := pc + 1) (st' := .inr (true, sx_k (-1)) :: st) (rs := .int (-1) :: rs) hst (fun c hc => List.mem_append_left _ hc) (fun _ => rfl) (fun σ φ h1 => ?_) ?_
      · obtain ⟨k1, k2⟩ := key σ φ h1
        refine ⟨?_, sx_vr_i.mpr (by rw [sx_ev_k]; rfl), k2⟩
        show sx_ev σ (sx_sb x y) < 0
        omega
      · have hlt : ¬ (b < a) := fun z => by have := Int64.lt_iff_toInt_lt.mp z; omega
        have hne : ¬ (a = b) := fun z => by rw [z] at z1; omega
        show some (pc + 1, lv', Value.int (lg_cmp a b) :: rs, M) = _
        unfold lg_cmp
        rw [if_neg hlt, if_neg hne]
    · by_cases z2 : a = b
      · refine sp_asm (o := 0) (t := pc + 1) (st' := .inr (true, sx_k 0) :: st) (rs := .int 0 :: rs) hst (fun c hc => List.mem_append_right _ (List.mem_append_left _ hc)) (fun _ => rfl) (fun σ φ h1 => ?_) ?_
        · obtain ⟨k1, k2⟩ := key σ φ h1
          refine ⟨?_, sx_vr_i.mpr (by rw [sx_ev_k]; rfl), k2⟩
          show sx_ev σ (sx_sb x y) = 0
          rw [z2] at k1
          omega
        · have hlt : ¬ (b < a) := fun z => by have := Int64.lt_iff_toInt_lt.mp z; rw [z2] at this; omega
          show some (pc + 1, lv', Value.int (lg_cmp a b) :: rs, M) = _
          unfold lg_cmp
          rw [if_neg hlt, if_pos z2]
      · have z3 : b.toInt < a.toInt := by
          have : ¬ a.toInt = b.toInt := fun z => z2 (Int64.toInt_inj.mp z)
          omega
        refine sp_asm (o := 4) (t := pc + 1) (st' := .inr (true, sx_k 1) :: st) (rs := .int 1 :: rs) hst (fun c hc => List.mem_append_right _ (List.mem_append_right _ hc)) (fun _ => rfl) (fun σ φ h1 => ?_) ?_
        · obtain ⟨k1, k2⟩ := key σ φ h1
          refine ⟨?_, sx_vr_i.mpr (by rw [sx_ev_k]; rfl), k2⟩
          show 0 < sx_ev σ (sx_sb x y)
          omega
        · have hlt : b < a := Int64.lt_iff_toInt_lt.mpr z3
          show some (pc + 1, lv', Value.int (lg_cmp a b) :: rs, M) = _
          unfold lg_cmp
          rw [if_pos hlt]
end SXQ
