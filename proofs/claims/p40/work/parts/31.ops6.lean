/-! ALL INSTRUCTIONS -/
section SXX
variable {P : sx_P} {SA : mx_S} {TG : sx_TG} {σ : Nat → Int} {φ : sx_R} {D D' D1 : sx_D} {c c' : sx_C} {d : mx_C} {os : List sx_C} {r : Option mx_C} {v : Int}
theorem sx_vs_cat : ∀ {st : List sx_V} {vs : List Value}, sx_vs σ st vs → sx_cat st = mx_cat vs
  | [], [], _ => rfl
  | [], _ :: _, h => h.elim
  | _ :: _, [], h => h.elim
  | a :: st, w :: vs, h => by
    show (bif sx_is2 a then 2 else 1) + sx_cat st = (bif mx_is2 w then 2 else 1) + mx_cat vs
    rw [sx_vr_is2 h.1, sx_vs_cat h.2]
theorem mx_ia_some {M : mx_M} {q n : Nat} {x : vp_A} (h : M[q]? = some (.inr (0, x))) (hn : x.1 = n) (hk : mx_kd 0 x = true) : ∃ f : Nat → Int32, x = (n, .inl f) ∧ mx_ia M q = some (n, f) := by
  obtain ⟨f, hf⟩ := mx_kd_i hk rfl
  obtain ⟨xn, xf⟩ := x
  have hf : xf = .inl f := hf
  have hn : xn = n := hn
  subst hf
  subst hn
  refine ⟨f, rfl, ?_⟩
  unfold mx_ia
  simp only [mx_nth_eq, h, sx_beq_rf, cond_true]
theorem so_copy_ok (ho : sx_own P.2.2.1) (hst : sx_str P SA TG c d σ φ) (h : so_copy P c = some os) : sx_suc P SA TG c d (mx_copy d) os σ φ := by
  obtain ⟨pc, lv, st, D⟩ := c
  unfold so_copy at h
  have hh := hst.here
  match st, hst, hh, h with
  | .inr (true, n) :: .inr (true, dp) :: .inl (.ref q1) :: .inr (true, sp) :: .inl (.ref q0) :: st, hst, hh, h =>
    obtain ⟨pc', lv', st', M⟩ := d
    obtain ⟨xn, rs, rfl, hn, hs⟩ := sx_vs_i hh.2.2.1
    obtain ⟨xd, rs, rfl, hd, hs2⟩ := sx_vs_i hs
    obtain ⟨rs, rfl, hs3⟩ := sx_vs_r hs2
    obtain ⟨xs, rs, rfl, hsp, hs4⟩ := sx_vs_i hs3
    obtain ⟨rs, rfl, hs5⟩ := sx_vs_r hs4
    have e1 : pc = pc' := hh.1
    subst e1
    have hk : so_copyv P (pc, lv, .inr (true, n) :: .inr (true, dp) :: .inl (.ref q1) :: .inr (true, sp) :: .inl (.ref q0) :: st, D) n dp sp q1 q0 st = some os := h
    clear h
    unfold so_copyv at hk
    split at hk
    · next p0 p1 hp0 hp1 =>
      obtain ⟨s0, n0, j0⟩ := p0
      obtain ⟨s1, n1, j1⟩ := p1
      cases h3 : (Nat.beq s0 0 && (Nat.beq s1 0 && (sx_ge P D n && (sx_ge P D sp && (sx_ge P D dp && (sx_ge P D (sx_sb (sx_k n0) (sx_ad sp n)) && (sx_ge P D (sx_sb (sx_k n1) (sx_ad dp n)) && Nat.ble (sx_cat st) 8))))))) with
      | false => simp only [h3, cond_false] at hk; cases hk
      | true =>
        simp only [h3, cond_true] at hk
        cases hk
        simp only [Bool.and_eq_true] at h3
        obtain ⟨k1, k2, k3, k4, k5, k6, k7, k8⟩ := h3
        have e0 := Nat.eq_of_beq_eq_true k1
        have e2 := Nat.eq_of_beq_eq_true k2
        subst e0
        subst e2
        obtain ⟨y0, a1, a2, a3, a4⟩ := sx_mm_row hh.2.2.2.1 hp0
        obtain ⟨y1, b1, b2, b3, b4⟩ := sx_mm_row hh.2.2.2.1 hp1
        obtain ⟨f0, rfl, f02⟩ := mx_ia_some a1 a2 a3
        obtain ⟨f1, rfl, f12⟩ := mx_ia_some b1 b2 b3
        have hd0 := hh.2.2.2.2.1
        have g3 := sx_ge_ok hd0 k3
        have g4 := sx_ge_ok hd0 k4
        have g5 := sx_ge_ok hd0 k5
        have g6 := sx_ge_ok hd0 k6
        have g7 := sx_ge_ok hd0 k7
        rw [sx_ev_sb, sx_ev_k, sx_ev_ad] at g6 g7
        rw [← hn] at g3 g6 g7
        rw [← hsp] at g4 g6
        rw [← hd] at g5 g7
        have l0 := (ho.2.2.2.1 q0 0 n0 j0 hp0).2.1
        have l1 := (ho.2.2.2.1 q1 0 n1 j1 hp1).2.1
        have k8' : Nat.ble (mx_cat rs) 8 = true := by rw [← sx_vs_cat hs5]; exact k8
        have er : mx_copy (pc, lv', .int xn :: .int xd :: .ref q1 :: .int xs :: .ref q0 :: rs, M) = some (pc + 3, lv', rs, M.set q1 (.inr (0, n1, .inl (va_cpy f0 f1 xs.toInt.toNat xd.toInt.toNat xn.toInt.toNat)))) := by
          unfold mx_copy
          simp only [f02, f12, sn_inb g4 (show xs.toInt < (2000 : Nat) by omega), sn_inb g5 (show xd.toInt < (2000 : Nat) by omega), sn_inb g3 (show xn.toInt < (2000 : Nat) by omega), Bool.true_and, sn_nat, Nat.ble_eq_true_of_le (show xs.toInt.toNat + xn.toInt.toNat ≤ n0 by omega), Nat.ble_eq_true_of_le (show xd.toInt.toNat + xn.toInt.toNat ≤ n1 by omega), k8', cond_true]
        rw [er]
        have hj0 := (ho.2.2.2.1 q0 0 n0 j0 hp0).1
        have hj1 := (ho.2.2.2.1 q1 0 n1 j1 hp1).1
        refine sp_go2 (c' := (pc + 3, lv, st, sx_cpF P j0 j1 n dp sp D)) List.mem_cons_self (Nat.le_refl _) (Nat.le_succ _) (fun _ => 0) (fun _ j' => if j' < n1 then (va_cpy f0 f1 xs.toInt.toNat xd.toInt.toNat xn.toInt.toNat j').toInt else φ (sx_ag D j1) j') hst fun σ' φ' hag2 hr2 hv hw => ⟨_, rfl, ?_, hr2.2.1, hr2.2.2.1.2.2.2.2.2, ?_⟩
        · exact congrArg (· + 3) hr2.1
        have hg := hw D.2.2.2.2.2.2 (Nat.le_refl _) (Nat.lt_succ_self _)
        have hold1 : φ' (sx_ag D j1) = φ (sx_ag D j1) := hag2.2 _ (hr2.2.2.2.2.2.2.2.2.2 j1 (by omega))
        obtain ⟨y0', a1', a2', a3', a4'⟩ := sx_mm_row hr2.2.2.2.1 hp0
        rw [a1] at a1'
        cases a1'
        obtain ⟨y1', b1', b2', b3', b4'⟩ := sx_mm_row hr2.2.2.2.1 hp1
        rw [b1] at b1'
        cases b1'
        have hcase : ∀ j', (∃ i', φ' D.2.2.2.2.2.2 j' = φ' (sx_ag D j0) i') ∨ φ' D.2.2.2.2.2.2 j' = φ' (sx_ag D j1) j' := by
          intro j'
          rw [hg]
          show (∃ i', (if j' < n1 then (va_cpy f0 f1 xs.toInt.toNat xd.toInt.toNat xn.toInt.toNat j').toInt else φ (sx_ag D j1) j') = _) ∨ (if j' < n1 then (va_cpy f0 f1 xs.toInt.toNat xd.toInt.toNat xn.toInt.toNat j').toInt else φ (sx_ag D j1) j') = _
          by_cases z1 : j' < n1
          · rw [if_pos z1]
            unfold va_cpy
            by_cases z2 : xd.toInt.toNat ≤ j' ∧ j' < xd.toInt.toNat + xn.toInt.toNat
            · rw [if_pos z2]
              exact Or.inl ⟨_, a4' _ (by omega)⟩
            · rw [if_neg z2]
              exact Or.inr (b4' _ z1)
          · rw [if_neg z1]
            exact Or.inr (by rw [hold1])
        obtain ⟨xn2, wn, hn2⟩ := hr2.2.2.1.1
        cases wn
        obtain ⟨xd2, wd, hd2⟩ := hr2.2.2.1.2.1
        cases wd
        obtain ⟨xs2, ws, hsp2⟩ := hr2.2.2.1.2.2.2.1
        cases ws
        have h7 : sx_fk TG σ' φ' (7, [sx_ag D j0, sx_ag D j1, D.2.2.2.2.2.2], [sp, dp, n]) := by
          show ∀ j', φ' D.2.2.2.2.2.2 j' = if (sx_ev σ' dp).toNat ≤ j' ∧ j' < (sx_ev σ' dp).toNat + (sx_ev σ' n).toNat then φ' (sx_ag D j0) ((sx_ev σ' sp).toNat + (j' - (sx_ev σ' dp).toNat)) else φ' (sx_ag D j1) j'
          intro j'
          rw [hg, ← hn2, ← hd2, ← hsp2]
          show (if j' < n1 then (va_cpy f0 f1 xs.toInt.toNat xd.toInt.toNat xn.toInt.toNat j').toInt else φ (sx_ag D j1) j') = _
          by_cases z1 : j' < n1
          · rw [if_pos z1]
            unfold va_cpy
            by_cases z2 : xd.toInt.toNat ≤ j' ∧ j' < xd.toInt.toNat + xn.toInt.toNat
            · rw [if_pos z2, if_pos z2]
              exact a4' _ (by omega)
            · rw [if_neg z2, if_neg z2]
              exact b4' _ z1
          · rw [if_neg z1, if_neg (by omega), hold1]
        refine sx_ok_row (D := D) (g := D.2.2.2.2.2.2) ho hr2.2.2.2 hp1 b1 rfl (fun i => sx_ag_put) (Nat.le_refl _) (Nat.le_succ _) (Nat.lt_succ_self _) ?_ rfl rfl fun i' hi' => ?_
        · refine sx_dr_F (D := D) hr2.2.2.2.2.1 (List.forall_mem_cons.mpr ⟨h7, sx_bn_lo (sx_bn_hi hr2.2.2.2.2.1.2.2.2.2 fun l hl j' => ?_) fun l hl j' => ?_⟩)
          · obtain ⟨x, y, z1, z2, rfl⟩ := sx_opt2_some hl
            have m1 := sx_nhi_ok z1 hr2.2.2.2.2.1
            have m2 := sx_nhi_ok z2 hr2.2.2.2.2.1
            rcases hcase j' with ⟨i', h⟩ | h
            · exact sx_le_mx (Or.inl (by rw [h]; exact m1 i'))
            · exact sx_le_mx (Or.inr (by rw [h]; exact m2 j'))
          · obtain ⟨x, y, z1, z2, rfl⟩ := sx_opt2_some hl
            have m1 := sx_nlo_ok z1 hr2.2.2.2.2.1
            have m2 := sx_nlo_ok z2 hr2.2.2.2.2.1
            rcases hcase j' with ⟨i', h⟩ | h
            · exact sx_mn_le (Or.inl (by rw [h]; exact m1 i'))
            · exact sx_mn_le (Or.inr (by rw [h]; exact m2 j'))
        · rw [hg]
          show (va_cpy f0 f1 xs.toInt.toNat xd.toInt.toNat xn.toInt.toNat i').toInt = if i' < n1 then _ else _
          rw [if_pos hi']
    · cases hk
theorem so_mm_ok {b : Bool} (hst : sx_str P SA TG c d σ φ) (h : so_mm P b c = some os) : sx_suc P SA TG c d (mx_mm (bif b then (fun x y => if x < y then y else x) else (fun x y => if y < x then y else x)) d) os σ φ := by
  obtain ⟨pc, lv, st, D⟩ := c
  unfold so_mm at h
  have hh := hst.here
  match st, hst, hh, h with
  | .inr (true, y) :: .inr (true, x) :: st, hst, hh, h =>
    obtain ⟨pc', lv', st', M⟩ := d
    obtain ⟨vy, rs, rfl, hy, hs⟩ := sx_vs_i hh.2.2.1
    obtain ⟨vx, rs, rfl, hx, hs2⟩ := sx_vs_i hs
    have e1 : pc = pc' := hh.1
    subst e1
    have hk : (bif Nat.ble (sx_cat st) 8 then some (so_one (sx_asm P 2 (sx_sb x y) D) (fun D => (pc + 3, lv, .inr (true, bif b then y else x) :: st, D)) ++ so_one (sx_asm P 3 (sx_sb x y) D) (fun D => (pc + 3, lv, .inr (true, bif b then x else y) :: st, D))) else none) = some os := h
    clear h
    cases hc : Nat.ble (sx_cat st) 8 with
    | false => rw [hc] at hk; cases hk
    | true =>
      rw [hc] at hk
      cases hk
      have hc' : Nat.ble (mx_cat rs) 8 = true := by rw [← sx_vs_cat hs2]; exact hc
      have er : ∀ f : Int32 → Int32 → Int32, mx_mm f (pc, lv', .int vy :: .int vx :: rs, M) = some (pc + 3, lv', .int (f vx vy) :: rs, M) := fun f => by
        unfold mx_mm
        simp only [hc', cond_true]
      rw [er]
      by_cases z : vx.toInt < vy.toInt
      · have zl : vx < vy := Int32.lt_iff_toInt_lt.mpr z
        have zn : ¬ vy < vx := fun q => by have := Int32.lt_iff_toInt_lt.mp q; omega
        refine sp_asm (o := 2) (e := sx_sb x y) (t := pc + 3) (st' := .inr (true, bif b then y else x) :: st) (rs := .int (bif b then vy else vx) :: rs) hst (fun c hc => List.mem_append_left _ hc) (fun _ => rfl) (fun σ φ h1 => ⟨?_, ?_, h1.2.2.1.2.2⟩) ?_
        · show sx_ev σ (sx_sb x y) < 0
          rw [sx_ev_sb, ← sx_vr_i.mp h1.2.2.1.2.1, ← sx_vr_i.mp h1.2.2.1.1]
          omega
        · cases b with
          | true => exact h1.2.2.1.1
          | false => exact h1.2.2.1.2.1
        · cases b with
          | true => show some (pc + 3, lv', Value.int (if vx < vy then vy else vx) :: rs, M) = _; rw [if_pos zl]; rfl
          | false => show some (pc + 3, lv', Value.int (if vy < vx then vy else vx) :: rs, M) = _; rw [if_neg zn]; rfl
      · have zl : ¬ vx < vy := fun q => z (Int32.lt_iff_toInt_lt.mp q)
        refine sp_asm (o := 3) (e := sx_sb x y) (t := pc + 3) (st' := .inr (true, bif b then x else y) :: st) (rs := .int (bif b then vx else vy) :: rs) hst (fun c hc => List.mem_append_right _ hc) (fun _ => rfl) (fun σ φ h1 => ⟨?_, ?_, h1.2.2.1.2.2⟩) ?_
        · show 0 ≤ sx_ev σ (sx_sb x y)
          rw [sx_ev_sb, ← sx_vr_i.mp h1.2.2.1.2.1, ← sx_vr_i.mp h1.2.2.1.1]
          omega
        · cases b with
          | true => exact h1.2.2.1.2.1
          | false => exact h1.2.2.1.1
        · cases b with
          | true => show some (pc + 3, lv', Value.int (if vx < vy then vy else vx) :: rs, M) = _; rw [if_neg zl]; rfl
          | false =>
            show some (pc + 3, lv', Value.int (if vy < vx then vy else vx) :: rs, M) = some (pc + 3, lv', .int vy :: rs, M)
            by_cases zz : vy < vx
            · rw [if_pos zz]
            · rw [if_neg zz]
              have : vx = vy := Int32.toInt_inj.mp (by
                have : ¬ vy.toInt < vx.toInt := fun q => zz (Int32.lt_iff_toInt_lt.mpr q)
                omega)
              rw [this]
/-- the same memory: only the stack changes -/
theorem sp_stk {pc n : Nat} {lv : sx_L} {st st' : List sx_V} {vs rs : List Value} {lv' : mx_L} {M : mx_M} {pc' : Nat} (hst : sx_str P SA TG (pc, lv, st, D) (pc', lv', vs, M) σ φ) (hc : (pc + n, lv, st', D) ∈ os) (h : ∀ σ, sx_vs σ st vs → sx_vs σ st' rs) (hr : r = some (pc' + n, lv', rs, M)) : sx_suc P SA TG (pc, lv, st, D) (pc', lv', vs, M) r os σ φ :=
  sp_no hc rfl rfl hst fun σ φ h1 => ⟨_, hr, congrArg (· + n) h1.1, h1.2.1, h σ h1.2.2.1, h1.2.2.2⟩
theorem so_dup_ok (hst : sx_str P SA TG c d σ φ) (h : so_dup c = some os) : sx_suc P SA TG c d (mx_dup d) os σ φ := by
  obtain ⟨pc, lv, st, D⟩ := c
  obtain ⟨pc', lv', vs, M⟩ := d
  unfold so_dup at h
  have hh := hst.here
  match st, hst, hh, h with
  | x :: st, hst, hh, h =>
    obtain ⟨w, rs, rfl, hw, hs⟩ := sx_vs_c hh.2.2.1
    have e := sx_vr_is2 hw
    cases hb : sx_is2 x with
    | true => simp only [hb, cond_true] at h; cases h
    | false =>
      simp only [hb, cond_false] at h
      cases h
      rw [hb] at e
      exact sp_stk (n := 1) (rs := w :: w :: rs) hst List.mem_cons_self (fun σ h => ⟨h.1, h.1, h.2⟩) (by unfold mx_dup; simp only [← e, cond_false])
theorem so_pop_ok (hst : sx_str P SA TG c d σ φ) (h : so_pop c = some os) : sx_suc P SA TG c d (mx_pop d) os σ φ := by
  obtain ⟨pc, lv, st, D⟩ := c
  obtain ⟨pc', lv', vs, M⟩ := d
  unfold so_pop at h
  have hh := hst.here
  match st, hst, hh, h with
  | x :: st, hst, hh, h =>
    obtain ⟨w, rs, rfl, hw, hs⟩ := sx_vs_c hh.2.2.1
    have e := sx_vr_is2 hw
    cases hb : sx_is2 x with
    | true => simp only [hb, cond_true] at h; cases h
    | false =>
      simp only [hb, cond_false] at h
      cases h
      rw [hb] at e
      exact sp_stk (n := 1) (rs := rs) hst List.mem_cons_self (fun σ h => h.2) (by unfold mx_pop; simp only [← e, cond_false])
theorem so_pop2_ok (hst : sx_str P SA TG c d σ φ) (h : so_pop2 c = some os) : sx_suc P SA TG c d (mx_pop2 d) os σ φ := by
  obtain ⟨pc, lv, st, D⟩ := c
  obtain ⟨pc', lv', vs, M⟩ := d
  unfold so_pop2 at h
  have hh := hst.here
  match st, hst, hh, h with
  | x :: st, hst, hh, h =>
    obtain ⟨w, rs, rfl, hw, hs⟩ := sx_vs_c hh.2.2.1
    have e := sx_vr_is2 hw
    cases hb : sx_is2 x with
    | false => simp only [hb, cond_false] at h; cases h
    | true =>
      simp only [hb, cond_true] at h
      cases h
      rw [hb] at e
      exact sp_stk (n := 1) (rs := rs) hst List.mem_cons_self (fun σ h => h.2) (by unfold mx_pop2; simp only [← e, cond_true])
theorem so_dup2_ok (hst : sx_str P SA TG c d σ φ) (h : so_dup2 c = some os) : sx_suc P SA TG c d (mx_dup2 d) os σ φ := by
  obtain ⟨pc, lv, st, D⟩ := c
  obtain ⟨pc', lv', vs, M⟩ := d
  unfold so_dup2 at h
  have hh := hst.here
  match st, hst, hh, h with
  | x :: y :: st, hst, hh, h =>
    obtain ⟨w, rs, rfl, hw, hs⟩ := sx_vs_c hh.2.2.1
    obtain ⟨w2, rs, rfl, hw2, hs⟩ := sx_vs_c hs
    have e := sx_vr_is2 hw
    have e2 := sx_vr_is2 hw2
    cases hb : (sx_is2 x || sx_is2 y) with
    | true => simp only [hb, cond_true] at h; cases h
    | false =>
      simp only [hb, cond_false] at h
      cases h
      rw [e, e2] at hb
      exact sp_stk (n := 1) (rs := w :: w2 :: w :: w2 :: rs) hst List.mem_cons_self (fun σ h => ⟨h.1, h.2.1, h.1, h.2.1, h.2.2⟩) (by unfold mx_dup2; simp only [hb, cond_false])
theorem so_gstr_ok {a : Nat} (hst : sx_str P SA TG c d σ φ) (h : so_gstr a c = some os) : sx_suc P SA TG c d (mx_gstr a 14 d) os σ φ := by
  obtain ⟨pc, lv, st, D⟩ := c
  obtain ⟨pc', lv', vs, M⟩ := d
  unfold so_gstr at h
  have hh := hst.here
  match st, hst, hh, h with
  | .inl (.ref q) :: st, hst, hh, h =>
    obtain ⟨rs, rfl, hs⟩ := sx_vs_r hh.2.2.1
    cases hb : (Nat.ble 1100 q && Nat.blt q 1114) with
    | false => simp only [hb, cond_false] at h; cases h
    | true =>
      simp only [hb, cond_true] at h
      cases h
      refine sp_stk (n := 3) (rs := (bif Nat.beq a 0 then .ref (q + 100) else .int 0) :: rs) hst List.mem_cons_self (fun σ h => ⟨?_, h.2⟩) (by unfold mx_gstr; simp only [hb, cond_true])
      cases Nat.beq a 0 with
      | true => rfl
      | false => exact sx_vr_i.mpr (by rw [sx_ev_k]; rfl)
theorem so_gets_ok {a : Nat} (hst : sx_str P SA TG c d σ φ) (h : so_gets a c = some os) : sx_suc P SA TG c d (match mx_nth mx_SF a with
    | some q => mx_push q.2.2.2 3 d
    | none => none) os σ φ := by
  unfold so_gets at h
  split at h
  · next q hq =>
    simp only [hq]
    exact so_push_ok hst (fun σ φ _ => so_v_ok) h
  · cases h
theorem so_ldcS_ok {a : Nat} (hst : sx_str P SA TG c d σ φ) (h : so_ldcS a c = some os) : sx_suc P SA TG c d (bif Nat.blt a 14 then mx_push (.ref (1100 + a)) 2 d else none) os σ φ := by
  unfold so_ldcS at h
  cases hb : Nat.blt a 14 with
  | false => rw [hb] at h; cases h
  | true =>
    rw [hb] at h
    exact so_push_ok (a := .inl (.ref (1100 + a))) (v := .ref (1100 + a)) hst (fun σ φ _ => rfl) h
theorem so_op_68 {i : mx_I} (hi : 68 ≤ i.1) : so_op P i c = none := by
  have hb : ∀ k, k < 68 → Nat.beq i.1 k = false := fun k hk => sx_beq_ne (by omega)
  have hl : ∀ k, k < 68 → Nat.ble i.1 k = false := fun k hk => by
    cases h : Nat.ble i.1 k with
    | false => rfl
    | true => have := Nat.le_of_ble_eq_true h; omega
  unfold so_op so_opD
  simp only [hl 8 (by omega), hl 35 (by omega), hl 50 (by omega), hl 60 (by omega), hb 51 (by omega), hb 64 (by omega), hb 65 (by omega), hb 66 (by omega), hb 67 (by omega), cond_false]
theorem so_op_ok {i : mx_I} (ho : sx_own P.2.2.1) (hSA : ∀ j x, mx_SAx j = some x → mx_kd x.1 x.2 = true ∧ x.1 < 4 ∧ x.2.1 < 2000) (hst : sx_str P SA TG c d σ φ) (h : so_op P i c = some os) : sx_suc P SA TG c d (mx_op SA mx_SF mx_DF 14 i d) os σ φ := by
  obtain ⟨o, a, b, L⟩ := i
  exact match o, h with
  | 0, h => by
    have h : (bif Nat.blt a 4294967296 then so_push (.inr (true, sx_k (sx_c32 a))) b c else none) = some os := h
    cases hb : Nat.blt a 4294967296 with
    | false => rw [hb] at h; cases h
    | true =>
      rw [hb] at h
      exact so_push_ok (v := .int (Int32.ofNat a)) hst (fun σ φ _ => sx_vr_i.mpr (by rw [sx_ev_k]; exact sn_c32 hb)) h
  | 1, h => by
    have h : (bif Nat.blt a 18446744073709551616 then so_push (.inr (false, sx_k (sx_c64 a))) b c else none) = some os := h
    cases hb : Nat.blt a 18446744073709551616 with
    | false => rw [hb] at h; cases h
    | true =>
      rw [hb] at h
      exact so_push_ok (v := .long (Int64.ofNat a)) hst (fun σ φ _ => sx_vr_l.mpr (by rw [sx_ev_k]; exact sn_c64 hb)) h
  | 2, h => so_load_ok (kd := 0) hst h
  | 3, h => so_load_ok (kd := 1) hst h
  | 4, h => so_load_ok (kd := 2) hst h
  | 5, h => so_store_ok (kd := 0) hst h
  | 6, h => so_store_ok (kd := 1) hst h
  | 7, h => so_store_ok (kd := 2) hst h
  | 8, h => so_inc_ok hst h
  | 9, h => so_ar_ok (i := (9, a, b, L)) hst h
  | 10, h => so_ar_ok (i := (10, a, b, L)) hst h
  | 11, h => so_ar_ok (i := (11, a, b, L)) hst h
  | 12, h => so_ar_ok (i := (12, a, b, L)) hst h
  | 13, h => so_ar_ok (i := (13, a, b, L)) hst h
  | 14, h => so_ar_ok (i := (14, a, b, L)) hst h
  | 15, h => so_ar_ok (i := (15, a, b, L)) hst h
  | 16, h => so_ar_ok (i := (16, a, b, L)) hst h
  | 17, h => so_ar_ok (i := (17, a, b, L)) hst h
  | 18, h => so_ar_ok (i := (18, a, b, L)) hst h
  | 19, h => so_ar_ok (i := (19, a, b, L)) hst h
  | 20, h => so_ar_ok (i := (20, a, b, L)) hst h
  | 21, h => so_ar_ok (i := (21, a, b, L)) hst h
  | 22, h => so_ar_ok (i := (22, a, b, L)) hst h
  | 23, h => so_ar_ok (i := (23, a, b, L)) hst h
  | 24, h => so_ar_ok (i := (24, a, b, L)) hst h
  | 25, h => so_ar_ok (i := (25, a, b, L)) hst h
  | 26, h => so_ar_ok (i := (26, a, b, L)) hst h
  | 27, h => so_cmp_ok hst h
  | 28, h => so_ar_ok (i := (28, a, b, L)) hst h
  | 29, h => so_ar_ok (i := (29, a, b, L)) hst h
  | 30, h => so_ar_ok (i := (30, a, b, L)) hst h
  | 31, h => so_ar_ok (i := (31, a, b, L)) hst h
  | 32, h => so_ar_ok (i := (32, a, b, L)) hst h
  | 33, h => so_dup_ok hst h
  | 34, h => so_pop_ok hst h
  | 35, h => so_dup2_ok hst h
  | 36, h => so_if1_ok (o := 0) hst h
  | 37, h => so_if1_ok (o := 1) hst h
  | 38, h => so_if1_ok (o := 2) hst h
  | 39, h => so_if1_ok (o := 3) hst h
  | 40, h => so_if1_ok (o := 4) hst h
  | 41, h => so_if1_ok (o := 5) hst h
  | 42, h => so_if2_ok (o := 0) hst h
  | 43, h => so_if2_ok (o := 1) hst h
  | 44, h => so_if2_ok (o := 2) hst h
  | 45, h => so_if2_ok (o := 3) hst h
  | 46, h => so_if2_ok (o := 4) hst h
  | 47, h => so_if2_ok (o := 5) hst h
  | 48, h => so_goto_ok hst h
  | 49, h => so_tsw_ok hst h
  | 50, h => so_lsw_ok hst h
  | 51, h => so_get_ok hst h
  | 52, h => so_gstr_ok hst h
  | 53, h => so_put_ok ho hst h
  | 54, h => by cases h
  | 55, h => so_gets_ok hst h
  | 56, h => so_ldcS_ok hst h
  | 57, h => so_alen_ok ho hst h
  | 58, h => so_ald_ok ho hst hSA h
  | 59, h => so_ast_ok ho hst h
  | 60, h => so_last_ok ho hst h
  | 61, h => by cases h
  | 62, h => by cases h
  | 63, h => by cases h
  | 64, h => so_copy_ok ho hst h
  | 65, h => so_mm_ok (b := true) hst h
  | 66, h => so_mm_ok (b := false) hst h
  | 67, h => so_pop2_ok hst h
  | n + 68, h => by
    have := so_op_68 (P := P) (c := c) (i := (n + 68, a, b, L)) (Nat.le_add_left _ _)
    rw [this] at h
    cases h
end SXX
