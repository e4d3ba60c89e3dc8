/-! BRANCHES, SWITCHES, FIELDS -/
section SXS
variable {P : sx_P} {SA : mx_S} {TG : sx_TG} {σ : Nat → Int} {φ : sx_R} {D D' : sx_D} {c c' : sx_C} {d : mx_C} {os : List sx_C} {r : Option mx_C} {SF : List mx_F} {DF : List (List Value)} {N : Nat}
def so_pz (o : Nat) (x : Int32) : Bool := match o with
  | 0 => decide (x = 0)
  | 1 => !decide (x = 0)
  | 2 => decide (x < 0)
  | 3 => decide (0 ≤ x)
  | 4 => decide (0 < x)
  | _ => decide (x ≤ 0)
def so_py (o : Nat) (x y : Int32) : Bool := match o with
  | 0 => decide (x = y)
  | 1 => !decide (x = y)
  | 2 => decide (x < y)
  | 3 => decide (y ≤ x)
  | 4 => decide (y < x)
  | _ => decide (x ≤ y)
theorem so_py_ok {o : Nat} {x y : Int32} : so_py o x y = true ↔ sx_cp o (x.toInt - y.toInt) := by
  have e1 : (x = y) ↔ x.toInt = y.toInt := Int32.toInt_inj.symm
  unfold so_py sx_cp
  split
  · rw [decide_eq_true_iff, e1]
    show _ ↔ x.toInt - y.toInt = 0
    omega
  · simp only [Bool.not_eq_true', decide_eq_false_iff_not]
    rw [e1]
    show _ ↔ ¬ x.toInt - y.toInt = 0
    omega
  · rw [decide_eq_true_iff, Int32.lt_iff_toInt_lt]
    show _ ↔ x.toInt - y.toInt < 0
    omega
  · rw [decide_eq_true_iff, Int32.le_iff_toInt_le]
    show _ ↔ 0 ≤ x.toInt - y.toInt
    omega
  · rw [decide_eq_true_iff, Int32.lt_iff_toInt_lt]
    show _ ↔ 0 < x.toInt - y.toInt
    omega
  · next h0 h1 h2 h3 h4 =>
    split
    · exact absurd rfl h0
    · exact absurd rfl h1
    · exact absurd rfl h2
    · exact absurd rfl h3
    · exact absurd rfl h4
    · rw [decide_eq_true_iff, Int32.le_iff_toInt_le]; omega
theorem so_pz_eq {o : Nat} {x : Int32} : so_pz o x = so_py o x 0 := by
  unfold so_pz so_py
  split <;> rfl
theorem so_pz_ok {o : Nat} {x : Int32} : so_pz o x = true ↔ sx_cp o x.toInt := by
  rw [so_pz_eq, so_py_ok]
  have : (0 : Int32).toInt = 0 := rfl
  rw [this, Int.sub_zero]
theorem so_br_ok {o t pc pc' : Nat} {lv : sx_L} {lv' : mx_L} {st st' : List sx_V} {vs rs : List Value} {M : mx_M} {e : sx_E} {z : Int} {b : Bool} (hst : sx_str P SA TG (pc, lv, st, D) (pc', lv', vs, M) σ φ) (hb : b = true ↔ sx_cp o z)
    (hH : ∀ σ φ, sx_rel P SA TG σ φ (pc, lv, st, D) (pc', lv', vs, M) → sx_ev σ e = z ∧ sx_vs σ st' rs) (hr : r = some (bif b then t else pc' + 3, lv', rs, M)) : sx_suc P SA TG (pc, lv, st, D) (pc', lv', vs, M) r (so_br P o t e st' (pc, lv, st, D)) σ φ := by
  have e1 : pc = pc' := hst.here.1
  subst e1
  cases b with
  | true =>
    have hz := hb.mp rfl
    exact sp_asm (o := o) (e := e) hst (fun c hc => List.mem_append_left _ hc) (fun _ => rfl) (fun σ φ h1 => by obtain ⟨k1, k2⟩ := hH σ φ h1; exact ⟨by rw [k1]; exact hz, k2⟩) hr
  | false =>
    have hz : ¬ sx_cp o z := fun q => by have := hb.mpr q; cases this
    exact sp_asm (o := sx_opp o) (e := e) hst (fun c hc => List.mem_append_right _ hc) (fun _ => rfl) (fun σ φ h1 => by obtain ⟨k1, k2⟩ := hH σ φ h1; exact ⟨by rw [k1]; exact sx_cp_opp hz, k2⟩) hr
theorem so_if1_ok {o t : Nat} (hst : sx_str P SA TG c d σ φ) (h : so_if1 P o t c = some os) : sx_suc P SA TG c d (mx_if (so_pz o) t d) os σ φ := by
  obtain ⟨pc, lv, st, D⟩ := c
  unfold so_if1 at h
  have hh := hst.here
  match st, hst, hh, h with
  | .inr (true, x) :: st, hst, hh, h =>
    cases h
    obtain ⟨pc', lv', st', M⟩ := d
    obtain ⟨a, rs, rfl, hx, -⟩ := sx_vs_i hh.2.2.1
    exact so_br_ok (z := a.toInt) hst so_pz_ok (fun σ φ h1 => ⟨(sx_vr_i.mp h1.2.2.1.1).symm, h1.2.2.1.2⟩) rfl
theorem so_if2_ok {o t : Nat} (hst : sx_str P SA TG c d σ φ) (h : so_if2 P o t c = some os) : sx_suc P SA TG c d (mx_if2 (so_py o) t d) os σ φ := by
  obtain ⟨pc, lv, st, D⟩ := c
  unfold so_if2 at h
  have hh := hst.here
  match st, hst, hh, h with
  | .inr (true, y) :: .inr (true, x) :: st, hst, hh, h =>
    cases h
    obtain ⟨pc', lv', st', M⟩ := d
    obtain ⟨b, rs, rfl, hy, hs⟩ := sx_vs_i hh.2.2.1
    obtain ⟨a, rs, rfl, hx, -⟩ := sx_vs_i hs
    exact so_br_ok (z := a.toInt - b.toInt) hst so_py_ok (fun σ φ h1 => ⟨by rw [sx_ev_sb, sx_vr_i.mp h1.2.2.1.2.1, sx_vr_i.mp h1.2.2.1.1], h1.2.2.1.2.2⟩) rfl
theorem so_goto_ok {t : Nat} (hst : sx_str P SA TG c d σ φ) (h : so_goto t c = some os) : sx_suc P SA TG c d (some (t, d.2.1, d.2.2.1, d.2.2.2)) os σ φ := by
  cases h
  exact sp_no List.mem_cons_self rfl rfl hst fun σ φ h1 => ⟨_, rfl, rfl, h1.2.1, h1.2.2.1, h1.2.2.2⟩
theorem so_cases_in {e : sx_E} {lo : Int} {st : List sx_V} {c2 : sx_C} {t : Nat} : ∀ {L : List Nat} {k n : Nat}, mx_nth L k = some t → c2 ∈ so_one (sx_asm P 0 (sx_pk e (-(lo + (n + k : Nat)))) c.2.2.2) (fun D => (t, c.2.1, st, D)) → c2 ∈ so_cases P e lo st c L n
  | [], _, _, h, _ => by cases h
  | t' :: L, 0, n, h, hc => by
    have h : some t' = some t := h
    cases h
    exact List.mem_append_left _ hc
  | t' :: L, k + 1, n, h, hc => by
    refine List.mem_append_right _ (so_cases_in (L := L) (k := k) (n := n + 1) h ?_)
    rw [show n + 1 + k = n + (k + 1) from by omega]
    exact hc
theorem so_nth_lt {α : Type} {t : α} : ∀ {L : List α} {k : Nat}, mx_nth L k = some t → k < L.length
  | [], _, h => by cases h
  | _ :: _, 0, _ => Nat.succ_pos _
  | _ :: L, k + 1, h => Nat.succ_lt_succ (so_nth_lt (L := L) h)
theorem so_nth_no {α : Type} : ∀ {L : List α} {k : Nat}, mx_nth L k = none → L.length ≤ k
  | [], _, _ => Nat.zero_le _
  | _ :: _, 0, h => by cases h
  | _ :: L, k + 1, h => Nat.succ_le_succ (so_nth_no (L := L) h)
theorem so_tsw_ok {a b : Nat} {L : List Nat} (hst : sx_str P SA TG c d σ φ) (h : so_tsw P a b L c = some os) : sx_suc P SA TG c d (mx_sw (fun x => mx_tsw a (Int32.ofNat b).toInt L x.toInt) d) os σ φ := by
  obtain ⟨pc, lv, st, D⟩ := c
  unfold so_tsw at h
  have hh := hst.here
  match st, hst, hh, h with
  | .inr (true, e) :: st, hst, hh, h =>
    cases hb : Nat.blt b 4294967296 with
    | false => simp only [hb, cond_false] at h; cases h
    | true =>
      simp only [hb, cond_true] at h
      cases h
      obtain ⟨pc', lv', st', M⟩ := d
      obtain ⟨x, rs, rfl, hx, -⟩ := sx_vs_i hh.2.2.1
      have e1 : pc = pc' := hh.1
      subst e1
      have hc := sn_c32 hb
      have er : mx_sw (fun x => mx_tsw a (Int32.ofNat b).toInt L x.toInt) (pc, lv', .int x :: rs, M) = some (mx_tsw a (Int32.ofNat b).toInt L x.toInt, lv', rs, M) := rfl
      rw [er, hc]
      have dflt : mx_tsw a (sx_c32 b) L x.toInt = a → ¬ (0 ≤ x.toInt - sx_c32 b ∧ x.toInt - sx_c32 b + 1 ≤ L.length) → sx_suc P SA TG (pc, lv, .inr (true, e) :: st, D) (pc, lv', .int x :: rs, M) (some (mx_tsw a (sx_c32 b) L x.toInt, lv', rs, M)) (so_cases P e (sx_c32 b) st (pc, lv, .inr (true, e) :: st, D) L 0 ++ (bif sx_ge P D (sx_pk e (-(sx_c32 b))) && sx_ge P D (sx_pk (sx_ng e) (sx_c32 b + L.length - 1)) then [] else [(a, lv, st, D)])) σ φ := by
        intro h1 h2
        cases hg : (sx_ge P D (sx_pk e (-(sx_c32 b))) && sx_ge P D (sx_pk (sx_ng e) (sx_c32 b + L.length - 1))) with
        | true =>
          rw [Bool.and_eq_true] at hg
          have g1 := sx_ge_ok hh.2.2.2.2.1 hg.1
          have g2 := sx_ge_ok hh.2.2.2.2.1 hg.2
          rw [sx_ev_pk] at g1 g2
          rw [sx_ev_ng] at g2
          exact absurd ⟨by omega, by omega⟩ h2
        | false =>
          rw [h1]
          exact sp_no (c' := (a, lv, st, D)) (List.mem_append_right _ (List.mem_singleton.mpr rfl)) rfl rfl hst fun σ φ h3 => ⟨_, rfl, rfl, h3.2.1, h3.2.2.1.2, h3.2.2.2⟩
      cases hd : x.toInt - sx_c32 b with
      | ofNat k =>
        have hd2 : x.toInt - sx_c32 b = (k : Int) := hd
        cases hn : mx_nth L k with
        | some t =>
          have ht : mx_tsw a (sx_c32 b) L x.toInt = t := by
            unfold mx_tsw
            rw [hd]
            simp only [hn]
          rw [ht]
          refine sp_asm (o := 0) (e := sx_pk e (-(sx_c32 b + (0 + k : Nat)))) (st' := st) hst (fun c2 hc2 => List.mem_append_left _ (so_cases_in hn hc2)) (fun _ => rfl) (fun σ φ h1 => ⟨?_, h1.2.2.1.2⟩) rfl
          show sx_ev σ (sx_pk e (-(sx_c32 b + (0 + k : Nat)))) = 0
          rw [sx_ev_pk]
          have := sx_vr_i.mp h1.2.2.1.1
          omega
        | none =>
          refine dflt ?_ ?_
          · unfold mx_tsw
            rw [hd]
            simp only [hn]
          · have := so_nth_no hn
            omega
      | negSucc k =>
        have hd2 := hd
        rw [Int.negSucc_eq] at hd2
        refine dflt ?_ (by omega)
        unfold mx_tsw
        rw [hd]
theorem so_keys_in {e : sx_E} {st : List sx_V} {x : Int32} {a : Nat} : ∀ {L : List Nat} {l : List sx_C}, so_keys P e st c L = some l → mx_lsw a x L = a ∨ ∃ k t, mx_lsw a x L = t ∧ x.toInt = sx_c32 k ∧ ∀ c2 ∈ so_one (sx_asm P 0 (sx_pk e (-(sx_c32 k))) c.2.2.2) (fun D => (t, c.2.1, st, D)), c2 ∈ l
  | [], l, h => Or.inl rfl
  | [k], l, h => Or.inl rfl
  | k :: t :: L, l, h => by
    unfold so_keys at h
    cases hb : Nat.blt k 4294967296 with
    | false => rw [hb] at h; cases h
    | true =>
      rw [hb] at h
      simp only [cond_true] at h
      split at h
      · next l2 hl =>
        cases h
        show (bif x == Int32.ofNat k then t else mx_lsw a x L) = a ∨ _
        cases hx : x == Int32.ofNat k with
        | true =>
          refine Or.inr ⟨k, t, ?_, ?_, fun c2 h2 => List.mem_append_left _ h2⟩
          · show (bif x == Int32.ofNat k then t else mx_lsw a x L) = t
            rw [hx]
            rfl
          · rw [eq_of_beq hx]
            exact sn_c32 hb
        | false =>
          rcases so_keys_in (x := x) (a := a) hl with h3 | ⟨k3, t3, h3, h4, h5⟩
          · exact Or.inl h3
          · refine Or.inr ⟨k3, t3, ?_, h4, fun c2 h2 => List.mem_append_right _ (h5 c2 h2)⟩
            show (bif x == Int32.ofNat k then t else mx_lsw a x L) = t3
            rw [hx]
            exact h3
      · cases h
theorem so_lsw_ok {a : Nat} {L : List Nat} (hst : sx_str P SA TG c d σ φ) (h : so_lsw P a L c = some os) : sx_suc P SA TG c d (mx_sw (fun x => mx_lsw a x L) d) os σ φ := by
  obtain ⟨pc, lv, st, D⟩ := c
  unfold so_lsw at h
  have hh := hst.here
  match st, hst, hh, h with
  | .inr (true, e) :: st, hst, hh, h =>
    simp only at h
    split at h
    · next l hl =>
      cases h
      obtain ⟨pc', lv', st', M⟩ := d
      obtain ⟨x, rs, rfl, hx, -⟩ := sx_vs_i hh.2.2.1
      have er : mx_sw (fun x => mx_lsw a x L) (pc', lv', .int x :: rs, M) = some (mx_lsw a x L, lv', rs, M) := rfl
      rw [er]
      rcases so_keys_in (x := x) (a := a) hl with h3 | ⟨k3, t3, h3, h4, h5⟩
      · rw [h3]
        exact sp_no (c' := (a, lv, st, D)) (List.mem_append_right _ (List.mem_singleton.mpr rfl)) rfl rfl hst fun σ φ h3 => ⟨_, rfl, rfl, h3.2.1, h3.2.2.1.2, h3.2.2.2⟩
      · rw [h3]
        refine sp_asm (o := 0) (e := sx_pk e (-(sx_c32 k3))) (st' := st) hst (fun c2 hc2 => List.mem_append_left _ (h5 c2 hc2)) (fun _ => rfl) (fun σ φ h1 => ⟨?_, h1.2.2.1.2⟩) rfl
        show sx_ev σ (sx_pk e (-(sx_c32 k3))) = 0
        rw [sx_ev_pk]
        have := sx_vr_i.mp h1.2.2.1.1
        omega
    · cases h
/-! fields -/
theorem sx_fm_len : ∀ {fs : List (Value ⊕ Nat)} {vs : List Value}, sx_fm σ D fs vs → fs.length = vs.length
  | [], [], _ => rfl
  | [], _ :: _, h => h.elim
  | _ :: _, [], h => h.elim
  | _ :: fs, _ :: vs, h => by
    have := sx_fm_len (fs := fs) (vs := vs) h.2
    simp [this]
theorem sx_fm_at : ∀ {fs : List (Value ⊕ Nat)} {vs : List Value} {k : Nat} {f : Value ⊕ Nat}, sx_fm σ D fs vs → fs[k]? = some f → ∃ v, vs[k]? = some v ∧ sx_fr σ D f v
  | [], _, _, _, _, hf => by simp at hf
  | _ :: _, [], _, _, h, _ => h.elim
  | f :: fs, v :: vs, 0, f', h, hf => by
    simp at hf
    subst hf
    exact ⟨v, rfl, h.1⟩
  | f :: fs, v :: vs, k + 1, f', h, hf => by
    simp at hf
    obtain ⟨w, h1, h2⟩ := sx_fm_at (fs := fs) (vs := vs) h.2 hf
    exact ⟨w, by simpa using h1, h2⟩
theorem sx_fm_mk : ∀ {fs : List (Value ⊕ Nat)} {vs : List Value}, fs.length = vs.length → (∀ (k : Nat) (f : Value ⊕ Nat), fs[k]? = some f → ∃ v, vs[k]? = some v ∧ sx_fr σ D f v) → sx_fm σ D fs vs
  | [], [], _, _ => trivial
  | [], _ :: _, h, _ => by simp at h
  | _ :: _, [], h, _ => by simp at h
  | f :: fs, v :: vs, h, h2 => by
    refine ⟨?_, sx_fm_mk (fs := fs) (vs := vs) (by simpa using h) fun k f' hk => ?_⟩
    · obtain ⟨w, e1, e2⟩ := h2 0 f rfl
      simp at e1
      subst e1
      exact e2
    · obtain ⟨w, e1, e2⟩ := h2 (k + 1) f' (by simpa using hk)
      exact ⟨w, by simpa using e1, e2⟩
theorem sx_mm_obj {tp : sx_tp} {nc : Nat} {M : mx_M} {q ci : Nat} {fs : List (Value ⊕ Nat)} (h : sx_mm tp nc σ φ D M) (hq : tp q = some (.inl (ci, fs))) : ∃ gs, M[q]? = some (.inl (ci, gs)) ∧ sx_fm σ D fs gs := by
  obtain ⟨e, e1, gs, rfl, e3⟩ := h.2 q _ hq
  exact ⟨gs, e1, e3⟩
theorem sx_mm_row {tp : sx_tp} {nc : Nat} {M : mx_M} {q t n j : Nat} (h : sx_mm tp nc σ φ D M) (hq : tp q = some (.inr (t, n, j))) : ∃ x : vp_A, M[q]? = some (.inr (t, x)) ∧ x.1 = n ∧ mx_kd t x = true ∧ ∀ i, i < n → sx_iv (mx_con x i) = φ (sx_ag D j) i := by
  obtain ⟨e, e1, x, rfl, e3⟩ := h.2 q _ hq
  exact ⟨x, e1, e3⟩
theorem so_get_ok {a b : Nat} (hst : sx_str P SA TG c d σ φ) (h : so_get P a b c = some os) : sx_suc P SA TG c d (mx_get a b d) os σ φ := by
  obtain ⟨pc, lv, st, D⟩ := c
  unfold so_get at h
  have hh := hst.here
  match st, hst, hh, h with
  | .inl (.ref q) :: st, hst, hh, h =>
    obtain ⟨pc', lv', st', M⟩ := d
    obtain ⟨rs, rfl, -⟩ := sx_vs_r hh.2.2.1
    have e1 : pc = pc' := hh.1
    subst e1
    simp only at h
    split at h
    · next p hp =>
      cases hb : Nat.beq p.1 a with
      | false => rw [hb] at h; cases h
      | true =>
        rw [hb] at h
        simp only [cond_true] at h
        obtain ⟨ci, fs⟩ := p
        obtain ⟨gs, g1, g2⟩ := sx_mm_obj hh.2.2.2.1 hp
        have hb : Nat.beq ci a = true := hb
        split at h
        · next w hw =>
          cases h
          obtain ⟨v, v1, v2⟩ := sx_fm_at g2 ((mx_nth_eq fs b).symm.trans hw)
          have v2 : v = w := v2
          subst v2
          have er : mx_get a b (pc, lv', .ref q :: rs, M) = some (pc + 3, lv', v :: rs, M) := by
            unfold mx_get
            simp only [mx_nth_eq, g1, hb, v1, cond_true]
          rw [er]
          exact sp_no List.mem_cons_self rfl rfl hst fun σ φ h1 => ⟨_, rfl, rfl, h1.2.1, ⟨so_v_ok, h1.2.2.1.2⟩, h1.2.2.2⟩
        · next j hw =>
          cases h
          obtain ⟨v, v1, x, rfl, v3⟩ := sx_fm_at g2 ((mx_nth_eq fs b).symm.trans hw)
          have er : mx_get a b (pc, lv', .ref q :: rs, M) = some (pc + 3, lv', .int x :: rs, M) := by
            unfold mx_get
            simp only [mx_nth_eq, g1, hb, v1, cond_true]
          rw [er]
          refine sp_no List.mem_cons_self rfl rfl hst fun σ φ h1 => ⟨_, rfl, rfl, h1.2.1, ⟨?_, h1.2.2.1.2⟩, h1.2.2.2⟩
          obtain ⟨gs', g1', g2'⟩ := sx_mm_obj h1.2.2.2.1 hp
          rw [g1] at g1'
          cases g1'
          obtain ⟨v', w1, x', rfl, w3⟩ := sx_fm_at g2' ((mx_nth_eq fs b).symm.trans hw)
          rw [v1] at w1
          cases w1
          have hd := h1.2.2.2.2.1
          exact sx_vr_i.mpr (by rw [sx_nr_ok hd.1 hd.2.2.1]; exact w3)
        · cases h
    · cases h
/-- a field's place holds another sum -/
theorem sx_mm_put {tp : sx_tp} {nc : Nat} {M : mx_M} {q ci k j : Nat} {fs : List (Value ⊕ Nat)} {gs : List Value} {e : sx_E} {x : Int32} (ho : sx_own tp) (h : sx_mm tp nc σ φ D M) (hq : tp q = some (.inl (ci, fs))) (hk : fs[k]? = some (.inr j)) (hM : M[q]? = some (.inl (ci, gs))) (hx : x.toInt = sx_ev σ e) : sx_mm tp nc σ φ (sx_putE D j e) (M.set q (.inl (ci, gs.set k (.int x)))) := by
  have hfr : ∀ (f : Value ⊕ Nat) (v : Value), ¬ f = .inr j → sx_fr σ D f v → sx_fr σ (sx_putE D j e) f v := by
    intro f v hf h2
    match f, hf, h2 with
    | .inl w, _, h2 => exact h2
    | .inr i, hf, h2 =>
      obtain ⟨y, y1, y2⟩ := h2
      refine ⟨y, y1, ?_⟩
      rw [sx_sg_put, if_neg (fun z => hf (by rw [z]))]
      exact y2
  refine ⟨by rw [List.length_set]; exact h.1, fun q' c hq' => ?_⟩
  by_cases hqq : q = q'
  · subst hqq
    rw [hq] at hq'
    cases hq'
    have hlt : q < M.length := (List.getElem?_eq_some_iff.mp hM).1
    obtain ⟨gs', g1, g2⟩ := sx_mm_obj h hq
    rw [hM] at g1
    cases g1
    refine ⟨_, List.getElem?_set_self hlt, _, rfl, sx_fm_mk (by rw [List.length_set]; exact sx_fm_len g2) fun k' f hf => ?_⟩
    by_cases hkk : k = k'
    · subst hkk
      rw [hk] at hf
      cases hf
      obtain ⟨v, v1, -⟩ := sx_fm_at g2 hk
      exact ⟨.int x, List.getElem?_set_self (List.getElem?_eq_some_iff.mp v1).1, x, rfl, by rw [sx_sg_put, if_pos rfl]; exact hx⟩
    · obtain ⟨v, v1, v2⟩ := sx_fm_at g2 hf
      refine ⟨v, by rw [List.getElem?_set_ne hkk]; exact v1, hfr f v (fun z => ?_) v2⟩
      rw [z] at hf
      exact hkk (ho.1 q q ci ci fs fs k k' j hq hq hk hf).2
  · obtain ⟨e', e1, e2⟩ := h.2 q' c hq'
    refine ⟨e', by rw [List.getElem?_set_ne hqq]; exact e1, ?_⟩
    match c, hq', e2 with
    | .inl (ci', fs'), hq', ⟨gs', a1, a2⟩ =>
      refine ⟨gs', a1, sx_fm_mk (sx_fm_len a2) fun k' f hf => ?_⟩
      obtain ⟨v, v1, v2⟩ := sx_fm_at a2 hf
      refine ⟨v, v1, hfr f v (fun z => ?_) v2⟩
      rw [z] at hf
      exact hqq (ho.1 q q' ci ci' fs fs' k k' j hq hq' hk hf).1
    | .inr (t, n, i), hq', ⟨y, a1, a2, a3, a4⟩ => exact ⟨y, a1, a2, a3, a4⟩
theorem so_put_ok {a b : Nat} (ho : sx_own P.2.2.1) (hst : sx_str P SA TG c d σ φ) (h : so_put P a b c = some os) : sx_suc P SA TG c d (mx_put a b d) os σ φ := by
  obtain ⟨pc, lv, st, D⟩ := c
  unfold so_put at h
  have hh := hst.here
  match st, hst, hh, h with
  | .inr (true, e) :: .inl (.ref q) :: st, hst, hh, h =>
    obtain ⟨pc', lv', st', M⟩ := d
    obtain ⟨x, rs, rfl, hx, hs⟩ := sx_vs_i hh.2.2.1
    obtain ⟨rs, rfl, -⟩ := sx_vs_r hs
    have e1 : pc = pc' := hh.1
    subst e1
    simp only at h
    split at h
    · next p hp =>
      cases hb : Nat.beq p.1 a with
      | false => rw [hb] at h; cases h
      | true =>
        rw [hb] at h
        simp only [cond_true] at h
        obtain ⟨ci, fs⟩ := p
        obtain ⟨gs, g1, g2⟩ := sx_mm_obj hh.2.2.2.1 hp
        have hb : Nat.beq ci a = true := hb
        split at h
        · next j hw =>
          cases h
          have hw2 := (mx_nth_eq fs b).symm.trans hw
          obtain ⟨v, v1, -⟩ := sx_fm_at g2 hw2
          have hlen : Nat.blt b gs.length = true := Nat.ble_eq_true_of_le (List.getElem?_eq_some_iff.mp v1).1
          have er : mx_put a b (pc, lv', .int x :: .ref q :: rs, M) = some (pc + 3, lv', rs, M.set q (.inl (ci, gs.set b (.int x)))) := by
            unfold mx_put
            simp only [mx_nth_eq, g1, hb, hlen, Bool.and_self, cond_true]
          rw [er]
          refine sp_no List.mem_cons_self rfl rfl hst fun σ φ h1 => ⟨_, rfl, rfl, h1.2.1, h1.2.2.1.2.2, ?_, h1.2.2.2.2⟩
          exact sx_mm_put ho h1.2.2.2.1 hp hw2 g1 (sx_vr_i.mp h1.2.2.1.1)
        · cases h
    · cases h
end SXS
