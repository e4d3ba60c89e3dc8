/-! WRITES, COPIES, AND ALL INSTRUCTIONS -/
section SXW
variable {P : sx_P} {SA : mx_S} {TG : sx_TG} {σ : Nat → Int} {φ : sx_R} {D D' D1 : sx_D} {c c' : sx_C} {d : mx_C} {os : List sx_C} {r : Option mx_C} {v : Int}
/-- rows: their elements as numbers -/
theorem mx_con_upd {n i k : Nat} {f : Nat → Int32} {x : Int32} : sx_iv (mx_con (n, .inl (upd f k x)) i) = if i = k then x.toInt else sx_iv (mx_con (n, .inl f) i) := by
  show (upd f k x i).toInt = if i = k then x.toInt else (f i).toInt
  unfold upd
  split <;> rfl
theorem mx_con_updL {n i k : Nat} {f : Nat → Int64} {x : Int64} : sx_iv (mx_con (n, .inr (.inl (vp_updL f k x))) i) = if i = k then x.toInt else sx_iv (mx_con (n, .inr (.inl f)) i) := by
  show (vp_updL f k x i).toInt = if i = k then x.toInt else (f i).toInt
  unfold vp_updL
  split <;> rfl
theorem so_ast_ok {t : Nat} (ho : sx_own P.2.2.1) (hst : sx_str P SA TG c d σ φ) (h : so_ast P t c = some os) : sx_suc P SA TG c d (mx_ast t d) os σ φ := by
  obtain ⟨pc, lv, st, D⟩ := c
  unfold so_ast at h
  have hh := hst.here
  match st, hst, hh, h with
  | .inr (true, u) :: .inr (true, e) :: .inl (.ref q) :: st, hst, hh, h =>
    obtain ⟨pc', lv', st', M⟩ := d
    obtain ⟨x, rs, rfl, hx, hs⟩ := sx_vs_i hh.2.2.1
    obtain ⟨i, rs, rfl, hi, hs⟩ := sx_vs_i hs
    obtain ⟨rs, rfl, -⟩ := sx_vs_r hs
    have e1 : pc = pc' := hh.1
    subst e1
    have hk : so_astv P t (pc, lv, .inr (true, u) :: .inr (true, e) :: .inl (.ref q) :: st, D) u e q st = some os := h
    clear h
    unfold so_astv at hk
    split at hk
    · next p hp =>
      obtain ⟨s, n, j⟩ := p
      cases h3 : (Nat.beq s t && (Nat.blt t 3 && sx_inr P D e (sx_k n))) with
      | false => simp only [h3, cond_false] at hk; cases hk
      | true =>
        simp only [h3, cond_true] at hk
        cases hk
        simp only [Bool.and_eq_true] at h3
        obtain ⟨k1, k2, k3⟩ := h3
        have e3 := Nat.eq_of_beq_eq_true k1
        subst e3
        obtain ⟨y, y1, y2, y3, y4⟩ := sx_mm_row hh.2.2.2.1 hp
        obtain ⟨f, hf⟩ := mx_kd_i y3 k2
        obtain ⟨yn, yf⟩ := y
        have hf : yf = .inl f := hf
        have y2 : yn = n := y2
        subst hf
        subst y2
        have hr := sx_inr_ok hh.2.2.2.2.1 k3
        rw [sx_ev_k, ← hi] at hr
        have er : mx_ast s (pc, lv', .int x :: .int i :: .ref q :: rs, M) = some (pc + 1, lv', rs, M.set q (.inr (s, yn, .inl (upd f i.toInt.toNat (mx_nar s x))))) := by
          unfold mx_ast
          simp only [mx_nth_eq, y1, sx_beq_rf, sn_inb hr.1 hr.2, Bool.and_self, cond_true, sn_nat]
        rw [er]
        have an := sx_nar_ok (P := P) (TG := TG) (D := D) (e := u) (x := x) k2
        obtain ⟨g, w1, w2, w3, w4, w5, w6⟩ := sx_wr_ok (P := P) (TG := TG) (D := (sx_nar P s u D).2) (j := j) (e := e) (u := (sx_nar P s u D).1)
        have hj := (ho.2.2.2.1 q s yn j hp).1
        have hag : ∀ i, sx_ag (sx_nar P s u D).2 i = sx_ag D i := fun i => by unfold sx_ag; rw [an.1.2.1]
        refine sp_go2 (c' := (pc + 1, lv, st, sx_wr P j e (sx_nar P s u D).1 (sx_nar P s u D).2)) List.mem_cons_self (by show D.2.2.2.2.2.1 ≤ _; have := an.1.2.2.1; unfold sx_nx; rw [w3]; exact this) (by show D.2.2.2.2.2.2 ≤ _; rw [← an.1.2.2.2]; exact w4) (fun _ => (mx_nar s x).toInt) (fun _ j' => if j' = i.toInt.toNat then (mx_nar s x).toInt else φ (sx_ag D j) j') hst fun σ' φ' hag2 hr2 hv hw => ⟨_, rfl, rfl, hr2.2.1, hr2.2.2.1.2.2.2, ?_⟩
        have hu : sx_ev σ' u = x.toInt := (sx_vr_i.mp hr2.2.2.1.1).symm
        have he : sx_ev σ' e = i.toInt := (sx_vr_i.mp hr2.2.2.1.2.1).symm
        obtain ⟨a1, a2⟩ := an.2 σ' φ' hr2.2.2.2.2.1 hu (fun i' z1 z2 => hv i' z1 (by show i' < (sx_wr P j e (sx_nar P s u D).1 (sx_nar P s u D).2).2.2.2.2.2.1; rw [w3]; exact z2))
        have hold : φ' (sx_ag D j) = φ (sx_ag D j) := hag2.2 _ (hr2.2.2.2.2.2.2.2.2.2 j (by omega))
        obtain ⟨b1, b2⟩ := w6 σ' φ' a1 (by omega) (fun a z1 z2 j' => by
          rw [hw a (by show D.2.2.2.2.2.2 ≤ a; rw [← an.1.2.2.2]; exact z1) z2, he, a2, hag, hold])
        have ok1 := sx_ok_kp an.1 hr2.2.2.2 a1
        refine sx_ok_row (D := (sx_nar P s u D).2) ho ok1 hp y1 w1 w2 (Nat.le_of_eq w3.symm) w4 w5 b1 rfl y3 fun i' hi' => ?_
        rw [b2, mx_con_upd, he, a2, hag]
        obtain ⟨y', y1', y2', y3', y4'⟩ := sx_mm_row hr2.2.2.2.1 hp
        rw [y1] at y1'
        cases y1'
        split
        · rfl
        · exact y4' i' hi'
    · cases hk
theorem so_last_ok (ho : sx_own P.2.2.1) (hst : sx_str P SA TG c d σ φ) (h : so_last P c = some os) : sx_suc P SA TG c d (mx_last d) os σ φ := by
  obtain ⟨pc, lv, st, D⟩ := c
  unfold so_last at h
  have hh := hst.here
  match st, hst, hh, h with
  | .inr (false, u) :: .inr (true, e) :: .inl (.ref q) :: st, hst, hh, h =>
    obtain ⟨pc', lv', st', M⟩ := d
    obtain ⟨x, rs, rfl, hx, hs⟩ := sx_vs_l hh.2.2.1
    obtain ⟨i, rs, rfl, hi, hs⟩ := sx_vs_i hs
    obtain ⟨rs, rfl, -⟩ := sx_vs_r hs
    have e1 : pc = pc' := hh.1
    subst e1
    have hk : so_lastv P (pc, lv, .inr (false, u) :: .inr (true, e) :: .inl (.ref q) :: st, D) u e q st = some os := h
    clear h
    unfold so_lastv at hk
    split at hk
    · next p hp =>
      obtain ⟨s, n, j⟩ := p
      cases h3 : (Nat.beq s 3 && sx_inr P D e (sx_k n)) with
      | false => simp only [h3, cond_false] at hk; cases hk
      | true =>
        simp only [h3, cond_true] at hk
        cases hk
        simp only [Bool.and_eq_true] at h3
        obtain ⟨k1, k3⟩ := h3
        have e3 := Nat.eq_of_beq_eq_true k1
        subst e3
        obtain ⟨y, y1, y2, y3, y4⟩ := sx_mm_row hh.2.2.2.1 hp
        obtain ⟨f, hf⟩ := mx_kd_l y3
        obtain ⟨yn, yf⟩ := y
        have hf : yf = .inr (.inl f) := hf
        have y2 : yn = n := y2
        subst hf
        subst y2
        have hr := sx_inr_ok hh.2.2.2.2.1 k3
        rw [sx_ev_k, ← hi] at hr
        have er : mx_last (pc, lv', .long x :: .int i :: .ref q :: rs, M) = some (pc + 1, lv', rs, M.set q (.inr (3, yn, .inr (.inl (vp_updL f i.toInt.toNat x))))) := by
          unfold mx_last
          simp only [mx_nth_eq, y1, sx_beq_rf, sn_inb hr.1 hr.2, Bool.and_self, cond_true, sn_nat]
        rw [er]
        obtain ⟨g, w1, w2, w3, w4, w5, w6⟩ := sx_wr_ok (P := P) (TG := TG) (D := D) (j := j) (e := e) (u := u)
        have hj := (ho.2.2.2.1 q 3 yn j hp).1
        refine sp_go2 (c' := (pc + 1, lv, st, sx_wr P j e u D)) List.mem_cons_self (Nat.le_of_eq w3.symm) w4 (fun _ => 0) (fun _ j' => if j' = i.toInt.toNat then x.toInt else φ (sx_ag D j) j') hst fun σ' φ' hag2 hr2 hv hw => ⟨_, rfl, rfl, hr2.2.1, hr2.2.2.1.2.2.2, ?_⟩
        have hu : sx_ev σ' u = x.toInt := (sx_vr_l.mp hr2.2.2.1.1).symm
        have he : sx_ev σ' e = i.toInt := (sx_vr_i.mp hr2.2.2.1.2.1).symm
        have hold : φ' (sx_ag D j) = φ (sx_ag D j) := hag2.2 _ (hr2.2.2.2.2.2.2.2.2.2 j (by omega))
        obtain ⟨b1, b2⟩ := w6 σ' φ' hr2.2.2.2.2.1 (by omega) (fun a z1 z2 j' => by
          rw [hw a z1 z2, he, hu, hold])
        refine sx_ok_row (D := D) ho hr2.2.2.2 hp y1 w1 w2 (Nat.le_of_eq w3.symm) w4 w5 b1 rfl y3 fun i' hi' => ?_
        rw [b2, mx_con_updL, he, hu]
        obtain ⟨y', y1', y2', y3', y4'⟩ := sx_mm_row hr2.2.2.2.1 hp
        rw [y1] at y1'
        cases y1'
        split
        · rfl
        · exact y4' i' hi'
    · cases hk
end SXW
