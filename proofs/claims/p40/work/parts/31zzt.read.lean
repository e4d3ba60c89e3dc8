/-! TEXTS: what can be said holds -/
section SXRD
variable {P : sx_P} {σ : Nat → Int} {φ : sx_R} {D : sx_D}
theorem sx_n40 {a b : Nat} : sx_fk sx_TGm σ φ (1040, [a, b], []) ↔ tr_al (φ a) (φ b) := Iff.rfl
theorem sx_n41 {C : Nat} {p n i e : sx_E} : sx_fk sx_TGm σ φ (1041, [C], [p, n, i, e]) ↔ 0 ≤ sx_ev σ i ∧ sx_ev σ e = (tr_e (sx_ev σ p) (φ C) (sx_ev σ n).toNat (sx_ev σ i).toNat : Int) := Iff.rfl
theorem sx_n45 {C : Nat} {n f t u : sx_E} : sx_fk sx_TGm σ φ (1045, [C], [n, f, t, u]) ↔ 0 ≤ sx_ev σ f ∧ sx_ev σ t = tr_rt (φ C) (sx_ev σ n).toNat (sx_ev σ f).toNat ∧ sx_ev σ u = (tr_ru (φ C) (sx_ev σ n).toNat (sx_ev σ f).toNat : Int) := Iff.rfl
theorem sx_n46 {C : Nat} {w f u r : sx_E} : sx_fk sx_TGm σ φ (1046, [C], [w, f, u, r]) ↔ 0 ≤ sx_ev σ f ∧ 0 ≤ sx_ev σ u ∧ sx_ev σ r = bif tr_wd (φ C) (sx_ev σ f).toNat (sx_ev σ u).toNat (sx_ev σ w).toNat then 1 else 0 := Iff.rfl
theorem sx_n47 {C : Nat} {n f t u : sx_E} : sx_fk sx_TGm σ φ (1047, [C], [n, f, t, u]) ↔ 0 ≤ sx_ev σ f ∧ sx_ev σ t = tr_kd (φ C) (sx_ev σ n).toNat (sx_ev σ f).toNat ∧ sx_ev σ u = (tr_ut (φ C) (sx_ev σ n).toNat (sx_ev σ f).toNat : Int) := Iff.rfl
theorem sx_n48 {C T L : Nat} {n m q : sx_E} : sx_fk sx_TGm σ φ (1048, [C, T, L], [n, m, q]) ↔ 0 ≤ sx_ev σ m ∧ 0 ≤ sx_ev σ q ∧ tr_pc (φ C) (sx_ev σ n).toNat (sx_ev σ m).toNat = tr_e 0 (φ C) (sx_ev σ n).toNat (sx_ev σ q).toNat ∧ ∀ k : Nat, (k : Int) < sx_ev σ m → φ T k = tr_kd (φ C) (sx_ev σ n).toNat (tr_pc (φ C) (sx_ev σ n).toNat k) ∧ φ L k = (tr_pc (φ C) (sx_ev σ n).toNat k : Int) := Iff.rfl
theorem sx_n49 {C : Nat} {f u t : sx_E} : sx_fk sx_TGm σ φ (1049, [C], [f, u, t]) ↔ 0 ≤ sx_ev σ f ∧ 0 ≤ sx_ev σ u ∧ sx_ev σ t = tr_fw (φ C) (sx_ev σ f).toNat (sx_ev σ u).toNat 13 0 := Iff.rfl
theorem sx_n50 {C T L : Nat} {n m : sx_E} : sx_fk sx_TGm σ φ (1050, [C, T, L], [n, m]) ↔ ∀ k : Nat, (k : Int) < sx_ev σ m → φ T k = tr_kd (φ C) (sx_ev σ n).toNat (tr_pc (φ C) (sx_ev σ n).toNat k) ∧ φ L k = (tr_pc (φ C) (sx_ev σ n).toNat k : Int) := Iff.rfl
theorem sx_n60 {T : Nat} {w j o f r a : sx_E} : sx_fk sx_TGm σ φ (1060, [T], [w, j, o, f, r, a]) ↔ tr_ps (φ T) (fun i => i + 1) (sx_ev σ w) (sx_ev σ j) (sx_ev σ o) (sx_ev σ f) (sx_ev σ r) (sx_ev σ a) := Iff.rfl
theorem sx_n61 {C : Nat} {n w j o f r a : sx_E} : sx_fk sx_TGm σ φ (1061, [C], [n, w, j, o, f, r, a]) ↔ tr_ps (tr_kd (φ C) (sx_ev σ n).toNat) (tr_nx (φ C) (sx_ev σ n).toNat) (sx_ev σ w) (sx_ev σ j) (sx_ev σ o) (sx_ev σ f) (sx_ev σ r) (sx_ev σ a) := Iff.rfl
theorem sx_n70 {C : Nat} {n x : sx_E} : sx_fk sx_TGm σ φ (1070, [C], [n, x]) ↔ tr_fa (φ C) (sx_ev σ n).toNat (sx_ev σ x) := Iff.rfl
theorem sx_n16 {C F : Nat} {n d f l : sx_E} : sx_fk sx_TGm σ φ (1016, [C, F], [n, d, f, l]) ↔ 0 ≤ sx_ev σ n ∧ sx_ev σ f = tr_at (φ C) 0 (tr_bt (φ F) (sx_ev σ d) (sx_ev σ n).toNat) ∧ sx_ev σ l = tr_at (φ F) (-1) (tr_bt (φ F) (sx_ev σ d) (sx_ev σ n).toNat) := Iff.rfl
theorem sx_n17 {F : Nat} {n d b : sx_E} : sx_fk sx_TGm σ φ (1017, [F], [n, d, b]) ↔ 0 ≤ sx_ev σ n ∧ sx_ev σ b = tr_bt (φ F) (sx_ev σ d) (sx_ev σ n).toNat := Iff.rfl
theorem sx_n18 {C F : Nat} {n d f : sx_E} : sx_fk sx_TGm σ φ (1018, [C, F], [n, d, f]) ↔ sx_ev σ f = tr_at (φ C) 0 (tr_bt (φ F) (sx_ev σ d) (sx_ev σ n).toNat) := Iff.rfl
theorem sx_n5 {C : Nat} {wd r t f u : sx_E} : sx_fk sx_TGm σ φ (1005, [C], [wd, r, t, f, u]) ↔ sx_ev σ r = if sx_ev σ t = 1 ∧ sx_ev σ u - sx_ev σ f ≤ 12 ∧ tg_wd (φ C) (sx_ev σ f).toNat (sx_ev σ u - sx_ev σ f).toNat = sx_ev σ wd then 1 else 0 := Iff.rfl
theorem tr_nn {a : Nat} : ((a : Int)).toNat = a := by omega
theorem sx_qi_ok {p : Int} {x : sx_E} (hd : sx_d P sx_TGm σ φ D) (h : sx_qi P D p x = true) : tr_is p (sx_ev σ x) = true := by
  unfold sx_qi at h
  unfold tr_is
  cases c1 : (p == 0) with
  | true =>
    rw [c1] at h
    have h : (sx_eqp P D x (sx_k 32) || sx_eqp P D x (sx_k 10)) = true := h
    show decide (sx_ev σ x = 32 ∨ sx_ev σ x = 10) = true
    rw [decide_eq_true_eq]
    rw [Bool.or_eq_true] at h
    rcases h with h | h
    · exact Or.inl ((sx_eqp_ok hd h).trans sx_ev_k)
    · exact Or.inr ((sx_eqp_ok hd h).trans sx_ev_k)
  | false =>
    rw [c1] at h
    cases c2 : (p == 1) with
    | true =>
      rw [c2] at h
      have h : (sx_ge P D (sx_pk x (-97)) && sx_ge P D (sx_pk (sx_ng x) 122)) = true := h
      show decide (97 ≤ sx_ev σ x ∧ sx_ev σ x ≤ 122) = true
      rw [decide_eq_true_eq]
      rw [Bool.and_eq_true] at h
      have h1 := sx_ge_ok hd h.1
      have h2 := sx_ge_ok hd h.2
      rw [sx_ev_pk] at h1 h2
      rw [sx_ev_ng] at h2
      omega
    | false =>
      rw [c2] at h
      have h : (sx_ge P D (sx_pk x (-48)) && sx_ge P D (sx_pk (sx_ng x) 57)) = true := h
      show decide (48 ≤ sx_ev σ x ∧ sx_ev σ x ≤ 57) = true
      rw [decide_eq_true_eq]
      rw [Bool.and_eq_true] at h
      have h1 := sx_ge_ok hd h.1
      have h2 := sx_ge_ok hd h.2
      rw [sx_ev_pk] at h1 h2
      rw [sx_ev_ng] at h2
      omega
theorem sx_qn_ok {p : Int} {x : sx_E} (hd : sx_d P sx_TGm σ φ D) (h : sx_qn P D p x = true) : tr_is p (sx_ev σ x) = false := by
  unfold sx_qn at h
  unfold tr_is
  cases c1 : (p == 0) with
  | true =>
    rw [c1] at h
    have h : (sx_nzb P D (sx_pk x (-32)) && sx_nzb P D (sx_pk x (-10))) = true := h
    show decide (sx_ev σ x = 32 ∨ sx_ev σ x = 10) = false
    rw [decide_eq_false_iff_not]
    rw [Bool.and_eq_true] at h
    have h1 := sx_nzb_ok hd h.1
    have h2 := sx_nzb_ok hd h.2
    rw [sx_ev_pk] at h1 h2
    omega
  | false =>
    rw [c1] at h
    cases c2 : (p == 1) with
    | true =>
      rw [c2] at h
      have h : (sx_ge P D (sx_pk (sx_ng x) 96) || sx_ge P D (sx_pk x (-123))) = true := h
      show decide (97 ≤ sx_ev σ x ∧ sx_ev σ x ≤ 122) = false
      rw [decide_eq_false_iff_not]
      rw [Bool.or_eq_true] at h
      rcases h with h | h
      · have h1 := sx_ge_ok hd h
        rw [sx_ev_pk, sx_ev_ng] at h1
        omega
      · have h1 := sx_ge_ok hd h
        rw [sx_ev_pk] at h1
        omega
    | false =>
      rw [c2] at h
      have h : (sx_ge P D (sx_pk (sx_ng x) 47) || sx_ge P D (sx_pk x (-58))) = true := h
      show decide (48 ≤ sx_ev σ x ∧ sx_ev σ x ≤ 57) = false
      rw [decide_eq_false_iff_not]
      rw [Bool.or_eq_true] at h
      rcases h with h | h
      · have h1 := sx_ge_ok hd h
        rw [sx_ev_pk, sx_ev_ng] at h1
        omega
      · have h1 := sx_ge_ok hd h
        rw [sx_ev_pk] at h1
        omega
theorem sx_qg_ok {x : sx_E} (hd : sx_d P sx_TGm σ φ D) (h : sx_qg P D x = true) : tr_sg (sx_ev σ x) = true := by
  obtain ⟨c, h1, h2⟩ := sx_any_ok h
  have h3 := sx_eqp_ok hd h2
  rw [sx_ev_k] at h3
  rw [tr_sg_iff, h3]
  unfold sx_sgs at h1
  simp only [List.mem_cons, List.not_mem_nil, or_false] at h1
  exact h1
theorem sx_qh_ok {x : sx_E} (hd : sx_d P sx_TGm σ φ D) (h : sx_qh P D x = true) : tr_sg (sx_ev σ x) = false := by
  cases hs : tr_sg (sx_ev σ x) with
  | false => rfl
  | true =>
    have h0 := tr_sg_iff.mp hs
    have h1 : sx_ev σ x ∈ sx_sgs := by
      unfold sx_sgs
      simp only [List.mem_cons, List.not_mem_nil, or_false]
      exact h0
    have h2 := sx_nzb_ok hd (sx_ql_ok h _ h1)
    rw [sx_ev_pk] at h2
    omega
theorem sx_r41_ok {C : Nat} {p : Int} {n i e : sx_E} (hd : sx_d P sx_TGm σ φ D) (h : sx_r41 P D C p n i e = true) : 0 ≤ sx_ev σ i ∧ sx_ev σ e = (tr_e p (φ C) (sx_ev σ n).toNat (sx_ev σ i).toNat : Int) := by
  obtain ⟨g, h1, h2⟩ := sx_any_ok h
  have hg := hd.2.2.2.2 g h1
  unfold sx_r41a at h2
  split at h2
  · next C' p' n' i' e' =>
    simp only [Bool.and_eq_true] at h2
    obtain ⟨⟨k1, k2⟩, k3, k4, k5⟩ := h2
    have hg := sx_n41.mp hg
    rw [Nat.eq_of_beq_eq_true k1, sx_eq_eq k2, sx_eqp_ok hd k3, sx_eqp_ok hd k4, sx_eqp_ok hd k5, sx_ev_k] at hg
    exact hg
  · cases h2
theorem sx_h41_ok {C : Nat} {p : Int} {n i e : sx_E} (hd : sx_d P sx_TGm σ φ D) (h : sx_h41 P D C p n i e = true) : 0 ≤ sx_ev σ i ∧ sx_ev σ e = (tr_e p (φ C) (sx_ev σ n).toNat (sx_ev σ i).toNat : Int) := by
  unfold sx_h41 at h
  rw [Bool.or_eq_true] at h
  rcases h with h | h
  · simp only [Bool.and_eq_true, Bool.or_eq_true] at h
    obtain ⟨k1, k2, k3⟩ := h
    have e1 := sx_eqp_ok hd k1
    have e2 := sx_ge_ok hd k2
    refine ⟨e2, ?_⟩
    rw [e1, tr_e_stop]
    · omega
    · rcases k3 with k3 | k3
      · have e3 := sx_ge_ok hd k3
        rw [sx_ev_sb] at e3
        rw [tr_bltf (by omega), Bool.false_and]
      · obtain ⟨x, x1, x2⟩ := sx_o_ok k3
        rw [sx_sel_ok hd x1, sx_qn_ok hd x2, Bool.and_false]
  · obtain ⟨g, h1, h2⟩ := sx_any_ok h
    have hg := hd.2.2.2.2 g h1
    unfold sx_q41 at h2
    split at h2
    · next C' p' n' i' e' =>
      simp only [Bool.and_eq_true] at h2
      obtain ⟨⟨k1, k2⟩, ⟨k3, k4, k5, k6⟩, k7, k8⟩ := h2
      have hg := sx_n41.mp hg
      rw [Nat.eq_of_beq_eq_true k1, sx_eq_eq k2, sx_eqp_ok hd k4, sx_eqp_ok hd k5, sx_eqp_ok hd k6, sx_ev_k, sx_ev_pk] at hg
      have e3 := sx_ge_ok hd k3
      have e7 := sx_ge_ok hd k7
      rw [sx_ev_pk, sx_ev_sb] at e7
      obtain ⟨x, x1, x2⟩ := sx_o_ok k8
      refine ⟨e3, ?_⟩
      rw [tr_e_go (by omega) (by rw [sx_sel_ok hd x1]; exact sx_qi_ok hd x2), hg.2]
      rw [show (sx_ev σ i + 1).toNat = (sx_ev σ i).toNat + 1 by omega]
    · cases h2
theorem sx_h45_ok {C : Nat} {n f t u : sx_E} (hd : sx_d P sx_TGm σ φ D) (h : sx_h45 P D C n f t u = true) : 0 ≤ sx_ev σ f ∧ sx_ev σ t = tr_rt (φ C) (sx_ev σ n).toNat (sx_ev σ f).toNat ∧ sx_ev σ u = (tr_ru (φ C) (sx_ev σ n).toNat (sx_ev σ f).toNat : Int) := by
  unfold sx_h45 at h
  rw [Bool.or_eq_true] at h
  rcases h with h | h
  · rw [Bool.and_eq_true, Bool.or_eq_true] at h
    obtain ⟨k0, h⟩ := h
    have e0 := sx_ge_ok hd k0
    refine ⟨e0, ?_⟩
    rcases h with h | h
    · simp only [Bool.and_eq_true] at h
      obtain ⟨k1, k2, k3⟩ := h
      have e1 := sx_ge_ok hd k1
      have e2 := sx_eqp_ok hd k2
      have e3 := sx_eqp_ok hd k3
      rw [sx_ev_sb] at e1
      rw [sx_ev_k] at e2
      obtain ⟨-, -, z3, z4⟩ := tr_kd_0 (A := φ C) (n := (sx_ev σ n).toNat) (f := (sx_ev σ f).toNat) (by omega)
      rw [z3, z4]
      exact ⟨e2, by omega⟩
    · rw [Bool.and_eq_true] at h
      have e1 := sx_ge_ok hd h.1
      rw [sx_ev_pk, sx_ev_sb] at e1
      obtain ⟨x, x1, x2⟩ := sx_o_ok h.2
      have hx := sx_sel_ok hd x1
      have hlt : (sx_ev σ f).toNat < (sx_ev σ n).toNat := by omega
      unfold sx_q45 at x2
      simp only [Bool.and_eq_true, Bool.or_eq_true] at x2
      rcases x2 with ⟨c1, c2, c3⟩ | ⟨c1, c⟩
      · obtain ⟨-, -, z3, z4⟩ := tr_kd_1 (A := φ C) hlt (by rw [hx]; exact sx_qi_ok hd c1)
        rw [z3, z4]
        exact ⟨(sx_eqp_ok hd c2).trans sx_ev_k, (sx_r41_ok hd c3).2⟩
      · rcases c with ⟨c2, c3, c4⟩ | ⟨c2, c3, c4⟩
        · obtain ⟨-, -, z3, z4⟩ := tr_kd_2 (A := φ C) hlt (by rw [hx]; exact sx_qi_ok hd c2)
          have er := (sx_r41_ok hd c3).2
          rw [z3, z4]
          refine ⟨?_, er⟩
          rcases c4 with ⟨c4, c5⟩ | ⟨c4, c5⟩
          · have e5 := sx_ge_ok hd c5
            rw [sx_ev_pk, sx_ev_sb] at e5
            rw [Nat.ble_eq_true_of_le (by omega)]
            exact (sx_eqp_ok hd c4).trans sx_ev_k
          · have e5 := sx_ge_ok hd c5
            rw [sx_ev_pk, sx_ev_sb] at e5
            rw [tr_blef (by omega)]
            exact (sx_eqp_ok hd c4).trans sx_ev_k
        · obtain ⟨-, -, z3, z4⟩ := tr_kd_3 (A := φ C) hlt (by rw [hx]; exact sx_qn_ok hd c1) (by rw [hx]; exact sx_qn_ok hd c2)
          have er := sx_eqp_ok hd c3
          rw [sx_ev_pk] at er
          rw [z3, z4, hx]
          refine ⟨?_, by omega⟩
          rcases c4 with ⟨c4, c5⟩ | ⟨c4, c5⟩
          · rw [sx_qg_ok hd c5]
            exact sx_eqp_ok hd c4
          · rw [sx_qh_ok hd c5]
            exact (sx_eqp_ok hd c4).trans sx_ev_k
  · obtain ⟨g, h1, h2⟩ := sx_any_ok h
    have hg := hd.2.2.2.2 g h1
    unfold sx_l45 at h2
    split at h2
    · next C' n' f' t' u' =>
      simp only [Bool.and_eq_true] at h2
      obtain ⟨k1, ⟨k2, k3⟩, k4, k5⟩ := h2
      have hg := sx_n45.mp hg
      rw [Nat.eq_of_beq_eq_true k1, sx_eqp_ok hd k2, sx_eqp_ok hd k3, sx_eqp_ok hd k4, sx_eqp_ok hd k5] at hg
      exact hg
    · cases h2
theorem sx_q46m_ok {C : Nat} {f : sx_E} {a : Nat} (hd : sx_d P sx_TGm σ φ D) (hf : sx_ev σ f = (a : Int)) : ∀ {r : List Int}, sx_q46m P D C f r = true → tr_mt (φ C) a r = true
  | [], _ => rfl
  | c :: r, h => by
    unfold sx_q46m at h
    rw [Bool.and_eq_true] at h
    obtain ⟨x, x1, x2⟩ := sx_o_ok h.1
    have hx := sx_sel_ok hd x1
    have he := sx_eqp_ok hd x2
    rw [sx_ev_pk, hf, show ((a : Int) + (r.length : Int)).toNat = a + r.length by omega, he, sx_ev_k] at hx
    show (decide (φ C (a + r.length) = c) && tr_mt (φ C) a r) = true
    rw [Bool.and_eq_true, decide_eq_true_eq]
    exact ⟨hx, sx_q46m_ok hd hf h.2⟩
theorem sx_q46n_ok {C : Nat} {f : sx_E} {a : Nat} (hd : sx_d P sx_TGm σ φ D) (hf : sx_ev σ f = (a : Int)) : ∀ {r : List Int}, sx_q46n P D C f r = true → tr_mt (φ C) a r = false
  | [], h => by
    have h : false = true := h
    cases h
  | c :: r, h => by
    unfold sx_q46n at h
    rw [Bool.or_eq_true] at h
    show (decide (φ C (a + r.length) = c) && tr_mt (φ C) a r) = false
    rcases h with h | h
    · obtain ⟨x, x1, x2⟩ := sx_o_ok h
      have hx := sx_sel_ok hd x1
      have he := sx_nzb_ok hd x2
      rw [sx_ev_pk] at he
      rw [sx_ev_pk, hf, show ((a : Int) + (r.length : Int)).toNat = a + r.length by omega] at hx
      rw [hx, decide_eq_false (by omega)]
      rfl
    · rw [sx_q46n_ok hd hf h, Bool.and_false]
theorem sx_h46_ok {C w : Nat} {f u r : sx_E} (hd : sx_d P sx_TGm σ φ D) (h : sx_h46 P D C w f u r = true) : 0 ≤ sx_ev σ f ∧ 0 ≤ sx_ev σ u ∧ sx_ev σ r = bif tr_wd (φ C) (sx_ev σ f).toNat (sx_ev σ u).toNat w then 1 else 0 := by
  unfold sx_h46 at h
  rw [Bool.and_eq_true, Bool.and_eq_true] at h
  obtain ⟨⟨k1, k2⟩, h⟩ := h
  have e1 := sx_ge_ok hd k1
  have e2 := sx_ge_ok hd k2
  refine ⟨e1, e2, ?_⟩
  have hf : sx_ev σ f = ((sx_ev σ f).toNat : Int) := by omega
  unfold tr_wd
  simp only [Bool.or_eq_true, Bool.and_eq_true] at h
  rcases h with ⟨h1, h2, h3⟩ | ⟨h1, h2⟩
  · have e3 := sx_eqp_ok hd h2
    rw [sx_ev_pk] at e3
    rw [sx_q46m_ok hd hf h3, show (sx_ev σ u).toNat = (sx_ev σ f).toNat + (tr_wn w).length by omega, Nat.beq_refl]
    exact (sx_eqp_ok hd h1).trans sx_ev_k
  · have e4 : (Nat.beq (sx_ev σ u).toNat ((sx_ev σ f).toNat + (tr_wn w).length) && tr_mt (φ C) (sx_ev σ f).toNat (tr_wn w)) = false := by
      rcases h2 with h2 | h2
      · have e3 := sx_nzb_ok hd h2
        rw [sx_ev_pk, sx_ev_sb] at e3
        cases hb : Nat.beq (sx_ev σ u).toNat ((sx_ev σ f).toNat + (tr_wn w).length) with
        | false => rfl
        | true =>
          have := Nat.eq_of_beq_eq_true hb
          omega
      · rw [sx_q46n_ok hd hf h2, Bool.and_false]
    rw [e4]
    exact (sx_eqp_ok hd h1).trans sx_ev_k
theorem sx_f46_ok {C w : Nat} {f u : sx_E} {r : Int} (hd : sx_d P sx_TGm σ φ D) (h : sx_f46 P D C w f u r = true) : r = bif tr_wd (φ C) (sx_ev σ f).toNat (sx_ev σ u).toNat w then 1 else 0 := by
  obtain ⟨g, h1, h2⟩ := sx_any_ok h
  have hg := hd.2.2.2.2 g h1
  unfold sx_f46a at h2
  split at h2
  · next C' w' f' u' r' =>
    simp only [Bool.and_eq_true] at h2
    obtain ⟨⟨k1, k2⟩, k3, k4, k5⟩ := h2
    have hg := sx_n46.mp hg
    rw [Nat.eq_of_beq_eq_true k1, sx_eq_eq k2, sx_eqp_ok hd k3, sx_eqp_ok hd k4, sx_eqp_ok hd k5, sx_ev_k, sx_ev_k, tr_nn] at hg
    exact hg.2.2
  · cases h2
theorem sx_q49_ok {C : Nat} {f u t : sx_E} (hd : sx_d P sx_TGm σ φ D) : ∀ {m w : Nat}, sx_q49 P D C f u t m w = true → sx_ev σ t = tr_fw (φ C) (sx_ev σ f).toNat (sx_ev σ u).toNat m w
  | 0, w, h => by
    have h : sx_eqp P D t (sx_k 1) = true := h
    exact (sx_eqp_ok hd h).trans sx_ev_k
  | m + 1, w, h => by
    unfold sx_q49 at h
    unfold tr_fw
    rw [Bool.or_eq_true, Bool.and_eq_true, Bool.and_eq_true] at h
    rcases h with ⟨h1, h2⟩ | ⟨h1, h2⟩
    · have e2 := sx_f46_ok hd h2
      cases hb : tr_wd (φ C) (sx_ev σ f).toNat (sx_ev σ u).toNat w with
      | true => exact (sx_eqp_ok hd h1).trans sx_ev_k
      | false =>
        rw [hb] at e2
        have e2 : (1 : Int) = 0 := e2
        omega
    · have e2 := sx_f46_ok hd h1
      cases hb : tr_wd (φ C) (sx_ev σ f).toNat (sx_ev σ u).toNat w with
      | false => exact sx_q49_ok hd h2
      | true =>
        rw [hb] at e2
        have e2 : (0 : Int) = 1 := e2
        omega
theorem sx_h47_ok {C : Nat} {n f t u : sx_E} (hd : sx_d P sx_TGm σ φ D) (h : sx_h47 P D C n f t u = true) : 0 ≤ sx_ev σ f ∧ sx_ev σ t = tr_kd (φ C) (sx_ev σ n).toNat (sx_ev σ f).toNat ∧ sx_ev σ u = (tr_ut (φ C) (sx_ev σ n).toNat (sx_ev σ f).toNat : Int) := by
  unfold sx_h47 at h
  rw [Bool.and_eq_true, Bool.or_eq_true] at h
  obtain ⟨k0, h⟩ := h
  have e0 := sx_ge_ok hd k0
  refine ⟨e0, ?_⟩
  rcases h with h | h
  · simp only [Bool.and_eq_true] at h
    obtain ⟨k1, k2, k3⟩ := h
    have e1 := sx_ge_ok hd k1
    have e2 := sx_eqp_ok hd k2
    have e3 := sx_eqp_ok hd k3
    rw [sx_ev_sb] at e1
    rw [sx_ev_k] at e2
    rw [sx_ev_pk] at e3
    obtain ⟨z1, z2, -, -⟩ := tr_kd_0 (A := φ C) (n := (sx_ev σ n).toNat) (f := (sx_ev σ f).toNat) (by omega)
    rw [z1, z2]
    exact ⟨e2, by omega⟩
  · rw [Bool.and_eq_true] at h
    have e1 := sx_ge_ok hd h.1
    rw [sx_ev_pk, sx_ev_sb] at e1
    obtain ⟨x, x1, x2⟩ := sx_o_ok h.2
    have hx := sx_sel_ok hd x1
    have hlt : (sx_ev σ f).toNat < (sx_ev σ n).toNat := by omega
    unfold sx_q47 at x2
    simp only [Bool.and_eq_true, Bool.or_eq_true] at x2
    rcases x2 with ⟨c2, c3, c4⟩ | ⟨c1, c⟩
    · obtain ⟨z1, z2, -, -⟩ := tr_kd_2 (A := φ C) hlt (by rw [hx]; exact sx_qi_ok hd c2)
      have er := (sx_r41_ok hd c3).2
      rw [z1, z2]
      refine ⟨?_, er⟩
      rcases c4 with ⟨c4, c5⟩ | ⟨c4, c5⟩
      · have e5 := sx_ge_ok hd c5
        rw [sx_ev_pk, sx_ev_sb] at e5
        rw [Nat.ble_eq_true_of_le (by omega)]
        exact (sx_eqp_ok hd c4).trans sx_ev_k
      · have e5 := sx_ge_ok hd c5
        rw [sx_ev_pk, sx_ev_sb] at e5
        rw [tr_blef (by omega)]
        exact (sx_eqp_ok hd c4).trans sx_ev_k
    · rcases c with ⟨c2, c3, c4⟩ | ⟨c2, c3, c4⟩
      · obtain ⟨z1, z2, -, -⟩ := tr_kd_1 (A := φ C) hlt (by rw [hx]; exact sx_qi_ok hd c2)
        have er := (sx_r41_ok hd c3).2
        rw [z1, z2]
        refine ⟨?_, er⟩
        obtain ⟨g, h1, h2⟩ := sx_any_ok c4
        have hg := hd.2.2.2.2 g h1
        unfold sx_l49 at h2
        split at h2
        · next C' f' u' t' =>
          simp only [Bool.and_eq_true] at h2
          obtain ⟨k1, k2, k3, k4⟩ := h2
          have hg := sx_n49.mp hg
          rw [Nat.eq_of_beq_eq_true k1, sx_eqp_ok hd k2, sx_eqp_ok hd k3, sx_eqp_ok hd k4, er, tr_nn] at hg
          exact hg.2.2
        · cases h2
      · obtain ⟨z1, z2, -, -⟩ := tr_kd_3 (A := φ C) hlt (by rw [hx]; exact sx_qn_ok hd c2) (by rw [hx]; exact sx_qn_ok hd c1)
        have er := sx_eqp_ok hd c3
        rw [sx_ev_pk] at er
        rw [z1, z2, hx]
        refine ⟨?_, by omega⟩
        rcases c4 with ⟨c4, c5⟩ | ⟨c4, c5⟩
        · rw [sx_qg_ok hd c5]
          exact sx_eqp_ok hd c4
        · rw [sx_qh_ok hd c5]
          exact (sx_eqp_ok hd c4).trans sx_ev_k
theorem sx_h48_ok {C T L : Nat} {n m q : sx_E} {g : sx_F} (hd : sx_d P sx_TGm σ φ D) (hg : sx_fk sx_TGm σ φ g) (h : sx_h48 P D C T L n m q g = true) : sx_fk sx_TGm σ φ (1048, [C, T, L], [n, m, q]) := by
  rw [sx_n48]
  unfold sx_h48 at h
  split at h
  · next C' T' L' n' m' q' =>
    rw [Bool.and_eq_true] at h
    obtain ⟨k0, h⟩ := h
    obtain ⟨x, x1, h⟩ := sx_o_ok h
    obtain ⟨y, y1, h⟩ := sx_o_ok h
    simp only [Bool.and_eq_true] at h
    obtain ⟨⟨k1, k2⟩, ⟨k3, k4⟩, k5, k6⟩ := h
    have hg := sx_n48.mp hg
    have e1 := sx_eqp_ok hd k1
    have e2 := sx_eqp_ok hd k2
    have e4 := sx_eqp_ok hd k4
    rw [sx_ev_pk] at e4
    rw [Nat.eq_of_beq_eq_true k0, sx_eqp_ok hd k3] at hg
    obtain ⟨g1, g2, g3, g4⟩ := hg
    have hX := sx_up_ok hd x1
    have hY := sx_up_ok hd y1
    rw [e1] at hX
    rw [e2] at hY
    have er := (sx_r41_ok hd k5).2
    rw [← g3] at er
    obtain ⟨f1, f2, f3⟩ := sx_h47_ok hd k6
    rw [er, tr_nn] at f2 f3
    have em : (sx_ev σ m).toNat = (sx_ev σ m').toNat + 1 := by omega
    refine ⟨by omega, by omega, ?_, fun k hk => ?_⟩
    · rw [em, f3, tr_nn]
      rfl
    · by_cases hk2 : k = (sx_ev σ m').toNat
      · rw [hX k, hY k, if_pos hk2, if_pos hk2, hk2]
        exact ⟨f2, er⟩
      · rw [hX k, hY k, if_neg hk2, if_neg hk2]
        exact g4 k (by omega)
  · cases h
/-! whether a token is this one -/
theorem sx_kC_ok {T : Nat} {f e : sx_E} {b : Bool} (hd : sx_d P sx_TGm σ φ D) (h : sx_kC P D T f e = some b) : (b = true → φ T (sx_ev σ f).toNat = sx_ev σ e) ∧ (b = false → ¬ φ T (sx_ev σ f).toNat = sx_ev σ e) := by
  unfold sx_kC at h
  split at h
  · next x hx =>
    rw [sx_sel_ok hd hx]
    cases c1 : sx_eqp P D x e with
    | true =>
      rw [c1] at h
      have h : some true = some b := h
      cases h
      exact ⟨fun _ => sx_eqp_ok hd c1, fun z => (by cases z)⟩
    | false =>
      rw [c1] at h
      cases c2 : sx_nzb P D (sx_sb x e) with
      | true =>
        rw [c2] at h
        have h : some false = some b := h
        cases h
        have n2 := sx_nzb_ok hd c2
        rw [sx_ev_sb] at n2
        exact ⟨fun z => (by cases z), fun _ => by omega⟩
      | false =>
        rw [c2] at h
        have h : none = some b := h
        cases h
  · cases h
theorem sx_nC_ok {T : Nat} {f : sx_E} {b : Bool} (hd : sx_d P sx_TGm σ φ D) (h : sx_nC P D T f = some b) : (b = true → 256 ≤ φ T (sx_ev σ f).toNat ∧ φ T (sx_ev σ f).toNat ≤ 261) ∧ (b = false → ¬ (256 ≤ φ T (sx_ev σ f).toNat ∧ φ T (sx_ev σ f).toNat ≤ 261)) := by
  unfold sx_nC at h
  split at h
  · next x hx =>
    rw [sx_sel_ok hd hx]
    cases c1 : (sx_ge P D (sx_pk x (-256)) && sx_ge P D (sx_pk (sx_ng x) 261)) with
    | true =>
      rw [c1] at h
      have h : some true = some b := h
      cases h
      rw [Bool.and_eq_true] at c1
      have h1 := sx_ge_ok hd c1.1
      have h2 := sx_ge_ok hd c1.2
      rw [sx_ev_pk] at h1 h2
      rw [sx_ev_ng] at h2
      exact ⟨fun _ => by omega, fun z => (by cases z)⟩
    | false =>
      rw [c1] at h
      cases c2 : (sx_ge P D (sx_pk (sx_ng x) 255) || sx_ge P D (sx_pk x (-262))) with
      | true =>
        rw [c2] at h
        have h : some false = some b := h
        cases h
        refine ⟨fun z => (by cases z), fun _ => ?_⟩
        rw [Bool.or_eq_true] at c2
        rcases c2 with c2 | c2
        · have h1 := sx_ge_ok hd c2
          rw [sx_ev_pk, sx_ev_ng] at h1
          omega
        · have h1 := sx_ge_ok hd c2
          rw [sx_ev_pk] at h1
          omega
      | false =>
        rw [c2] at h
        have h : none = some b := h
        cases h
  · cases h
/-- the reference's word is this one if isWord says so -/
theorem tr_word {A : Nat → Int} {n f w : Nat} (hw : w < 13) : (tr_rt A n f = 1 → ((tr_ru A n f : Int) - (f : Int) ≤ 12 ∧ tg_wd A f ((tr_ru A n f : Int) - (f : Int)).toNat = tr_isw w) → tr_kd A n f = 256 + (w : Int)) ∧ (¬ (tr_rt A n f = 1 ∧ (tr_ru A n f : Int) - (f : Int) ≤ 12 ∧ tg_wd A f ((tr_ru A n f : Int) - (f : Int)).toNat = tr_isw w) → ¬ tr_kd A n f = 256 + (w : Int)) := by
  by_cases h0 : n ≤ f
  · obtain ⟨z1, -, z3, -⟩ := tr_kd_0 (A := A) h0
    rw [z1, z3]
    exact ⟨fun z => by omega, fun _ => by omega⟩
  · have hlt : f < n := by omega
    cases h1 : tr_is 1 (A f) with
    | true =>
      obtain ⟨z1, -, z3, z4⟩ := tr_kd_1 (A := A) hlt h1
      have hle : f ≤ tr_e 1 A n f := tr_e_le
      have hin : ∀ j, f ≤ j → j < tr_e 1 A n f → tr_is 1 (A j) = true := fun j a b => tr_en_in a b
      rw [z1, z3, z4, show ((tr_e 1 A n f : Int) - (f : Int)).toNat = tr_e 1 A n f - f by omega]
      refine ⟨fun _ ⟨b1, b2⟩ => ?_, fun hb => ?_⟩
      · have hv := (tr_wd_iff hw hle (by omega) hin).mpr b2
        refine tr_fw_is hv (fun w' hw' hv' => ?_) (Nat.zero_le _) (by omega) (Nat.le_refl _)
        have hv2 := (tr_wd_iff hw' hle (by omega) hin).mp hv'
        exact tr_isw_ne w' hw' w hw (hv2.symm.trans b2)
      · refine tr_fw_no ?_
        by_cases h12 : tr_e 1 A n f ≤ f + 12
        · cases hv : tr_wd A f (tr_e 1 A n f) w with
          | false => rfl
          | true =>
            have := (tr_wd_iff hw hle h12 hin).mp hv
            exact absurd ⟨rfl, by omega, this⟩ hb
        · exact tr_wd_12 hw (by omega)
    | false =>
      cases h2 : tr_is 2 (A f) with
      | true =>
        obtain ⟨z1, -, z3, -⟩ := tr_kd_2 (A := A) hlt h2
        rw [z1, z3]
        cases Nat.ble (tr_e 2 A n f) (f + 4) with
        | true => exact ⟨fun z => by have z : (2 : Int) = 1 := z; omega, fun _ => by show ¬ (2 : Int) = 256 + (w : Int); omega⟩
        | false => exact ⟨fun z => by have z : (-1 : Int) = 1 := z; omega, fun _ => by show ¬ (1 : Int) = 256 + (w : Int); omega⟩
      | false =>
        obtain ⟨z1, -, z3, -⟩ := tr_kd_3 (A := A) hlt h1 h2
        rw [z1, z3]
        cases hs : tr_sg (A f) with
        | true =>
          have := tr_sg_iff.mp hs
          exact ⟨fun z => by have z : A f = 1 := z; omega, fun _ => by show ¬ A f = 256 + (w : Int); omega⟩
        | false => exact ⟨fun z => by have z : (-1 : Int) = 1 := z; omega, fun _ => by show ¬ (1 : Int) = 256 + (w : Int); omega⟩
/-- what is no word: the same number in both -/
theorem tr_same {A : Nat → Int} {n f : Nat} {c : Int} (hc : c = 0 ∨ (2 ≤ c ∧ c ≤ 255)) : tr_rt A n f = c ↔ tr_kd A n f = c := by
  by_cases h0 : n ≤ f
  · obtain ⟨z1, -, z3, -⟩ := tr_kd_0 (A := A) h0
    rw [z1, z3]
  · have hlt : f < n := by omega
    cases h1 : tr_is 1 (A f) with
    | true =>
      obtain ⟨z1, -, z3, -⟩ := tr_kd_1 (A := A) hlt h1
      rw [z1, z3]
      rcases tr_fw_rg (A := A) (f := f) (u := tr_e 1 A n f) (m := 13) (w := 0) with h | h
      · rw [h]
      · constructor
        · intro z
          omega
        · intro z
          omega
    | false =>
      cases h2 : tr_is 2 (A f) with
      | true =>
        obtain ⟨z1, -, z3, -⟩ := tr_kd_2 (A := A) hlt h2
        rw [z1, z3]
        cases Nat.ble (tr_e 2 A n f) (f + 4) with
        | true => exact Iff.rfl
        | false =>
          show (-1 : Int) = c ↔ (1 : Int) = c
          omega
      | false =>
        obtain ⟨z1, -, z3, -⟩ := tr_kd_3 (A := A) hlt h1 h2
        rw [z1, z3]
        cases hs : tr_sg (A f) with
        | true => exact Iff.rfl
        | false =>
          show (-1 : Int) = c ↔ (1 : Int) = c
          omega
theorem sx_kR_ok {C : Nat} {n f e : sx_E} {b : Bool} (hd : sx_d P sx_TGm σ φ D) (h : sx_kR P D C n f e = some b) : (b = true → tr_kd (φ C) (sx_ev σ n).toNat (sx_ev σ f).toNat = sx_ev σ e) ∧ (b = false → ¬ tr_kd (φ C) (sx_ev σ n).toNat (sx_ev σ f).toNat = sx_ev σ e) := by
  unfold sx_kR at h
  cases c1 : sx_isk (sx_nr P.1 D.2.2.1 e) with
  | false =>
    rw [c1] at h
    have h : none = some b := h
    cases h
  | true =>
    rw [c1] at h
    have h : sx_first (sx_kR1 P D C n f (sx_nr P.1 D.2.2.1 e).1) D.2.2.2.2.1 = some b := h
    have he := sx_isk_ok (σ := σ) c1
    rw [sx_nr_ok hd.1 hd.2.2.1] at he
    rw [he]
    generalize (sx_nr P.1 D.2.2.1 e).1 = c at h ⊢
    obtain ⟨g, h1, h2⟩ := sx_first_ok h
    have hg := hd.2.2.2.2 g h1
    unfold sx_kR1 at h2
    split at h2
    · next C' n' f' t u =>
      cases c2 : (Nat.beq C' C && (sx_eqp P D n' n && sx_eqp P D f' f)) with
      | false =>
        rw [c2] at h2
        have h2 : none = some b := h2
        cases h2
      | true =>
        rw [c2] at h2
        simp only [Bool.and_eq_true] at c2
        have hg := sx_n45.mp hg
        rw [Nat.eq_of_beq_eq_true c2.1, sx_eqp_ok hd c2.2.1, sx_eqp_ok hd c2.2.2] at hg
        obtain ⟨g1, g2, g3⟩ := hg
        have hfa : sx_ev σ f = ((sx_ev σ f).toNat : Int) := by omega
        cases c3 : (sx_le 256 c && sx_le c 268) with
        | true =>
          rw [c3] at h2
          rw [Bool.and_eq_true] at c3
          have l1 := sx_le_iff.mp c3.1
          have l2 := sx_le_iff.mp c3.2
          have hw : c = 256 + ((c - 256).toNat : Int) := by omega
          have hwd := tr_word (A := φ C) (n := (sx_ev σ n).toNat) (f := (sx_ev σ f).toNat) (w := (c - 256).toNat) (by omega)
          rw [← hw] at hwd
          rw [← g2, ← g3, ← hfa] at hwd
          cases c4 : sx_nzb P D (sx_pk t (-1)) with
          | true =>
            rw [c4] at h2
            have h2 : some false = some b := h2
            cases h2
            have n4 := sx_nzb_ok hd c4
            rw [sx_ev_pk] at n4
            exact ⟨fun z => (by cases z), fun _ => hwd.2 (fun z => by omega)⟩
          | false =>
            rw [c4] at h2
            have h2 : sx_first (sx_kR2 P D C c t f u) D.2.2.2.2.1 = some b := h2
            obtain ⟨g', h3, h4⟩ := sx_first_ok h2
            have hg' := hd.2.2.2.2 g' h3
            unfold sx_kR2 at h4
            split at h4
            · next C2 wd r t' f2 u' =>
              cases c5 : ((Nat.beq C2 C && sx_eqp P D wd (sx_k (tr_isw (c - 256).toNat))) && (sx_eqp P D t' t && (sx_eqp P D f2 f && sx_eqp P D u' u))) with
              | false =>
                rw [c5] at h4
                have h4 : none = some b := h4
                cases h4
              | true =>
                rw [c5] at h4
                simp only [Bool.and_eq_true] at c5
                obtain ⟨⟨k1, k2⟩, k3, k4, k5⟩ := c5
                have hg' := sx_n5.mp hg'
                rw [Nat.eq_of_beq_eq_true k1, sx_eqp_ok hd k2, sx_eqp_ok hd k3, sx_eqp_ok hd k4, sx_eqp_ok hd k5, sx_ev_k] at hg'
                cases c6 : sx_eqp P D r (sx_k 1) with
                | true =>
                  rw [c6] at h4
                  have h4 : some true = some b := h4
                  cases h4
                  have e6 := sx_eqp_ok hd c6
                  rw [sx_ev_k, hg'] at e6
                  refine ⟨fun _ => ?_, fun z => (by cases z)⟩
                  by_cases hq : sx_ev σ t = 1 ∧ sx_ev σ u - sx_ev σ f ≤ 12 ∧ tg_wd (φ C) (sx_ev σ f).toNat (sx_ev σ u - sx_ev σ f).toNat = tr_isw (c - 256).toNat
                  · exact hwd.1 hq.1 hq.2
                  · rw [if_neg hq] at e6
                    omega
                | false =>
                  rw [c6] at h4
                  cases c7 : sx_eqp P D r (sx_k 0) with
                  | true =>
                    rw [c7] at h4
                    have h4 : some false = some b := h4
                    cases h4
                    have e6 := sx_eqp_ok hd c7
                    rw [sx_ev_k, hg'] at e6
                    refine ⟨fun z => (by cases z), fun _ => hwd.2 (fun hq => ?_)⟩
                    rw [if_pos hq] at e6
                    omega
                  | false =>
                    rw [c7] at h4
                    have h4 : none = some b := h4
                    cases h4
            · cases h4
        | false =>
          rw [c3] at h2
          cases c4 : ((c == 0) || (sx_le 2 c && sx_le c 255)) with
          | false =>
            rw [c4] at h2
            have h2 : none = some b := h2
            cases h2
          | true =>
            rw [c4] at h2
            have hc : c = 0 ∨ (2 ≤ c ∧ c ≤ 255) := by
              rw [Bool.or_eq_true, Bool.and_eq_true] at c4
              rcases c4 with c4 | c4
              · exact Or.inl (eq_of_beq c4)
              · exact Or.inr ⟨sx_le_iff.mp c4.1, sx_le_iff.mp c4.2⟩
            have hs := tr_same (A := φ C) (n := (sx_ev σ n).toNat) (f := (sx_ev σ f).toNat) hc
            rw [← g2] at hs
            cases c5 : sx_eqp P D t (sx_k c) with
            | true =>
              rw [c5] at h2
              have h2 : some true = some b := h2
              cases h2
              exact ⟨fun _ => hs.mp ((sx_eqp_ok hd c5).trans sx_ev_k), fun z => (by cases z)⟩
            | false =>
              rw [c5] at h2
              cases c6 : sx_nzb P D (sx_pk t (-c)) with
              | true =>
                rw [c6] at h2
                have h2 : some false = some b := h2
                cases h2
                have n6 := sx_nzb_ok hd c6
                rw [sx_ev_pk] at n6
                exact ⟨fun z => (by cases z), fun _ z => n6 (by have := hs.mpr z; omega)⟩
              | false =>
                rw [c6] at h2
                have h2 : none = some b := h2
                cases h2
    · cases h2
theorem sx_nR_ok {C : Nat} {n f : sx_E} {b : Bool} (hd : sx_d P sx_TGm σ φ D) (h : sx_nR P D C n f = some b) : (b = true → 256 ≤ tr_kd (φ C) (sx_ev σ n).toNat (sx_ev σ f).toNat ∧ tr_kd (φ C) (sx_ev σ n).toNat (sx_ev σ f).toNat ≤ 261) ∧ (b = false → ¬ (256 ≤ tr_kd (φ C) (sx_ev σ n).toNat (sx_ev σ f).toNat ∧ tr_kd (φ C) (sx_ev σ n).toNat (sx_ev σ f).toNat ≤ 261)) := by
  unfold sx_nR at h
  cases c1 : sx_any (fun c => sx_isT (sx_kR P D C n f (sx_k c))) sx_nms with
  | true =>
    rw [c1] at h
    have h : some true = some b := h
    cases h
    obtain ⟨c, h1, h2⟩ := sx_any_ok c1
    have h3 := (sx_kR_ok hd (sx_isT_ok h2)).1 rfl
    rw [sx_ev_k] at h3
    unfold sx_nms at h1
    simp only [List.mem_cons, List.not_mem_nil, or_false] at h1
    exact ⟨fun _ => by omega, fun z => (by cases z)⟩
  | false =>
    rw [c1] at h
    cases c2 : sx_ql (fun c => sx_isF (sx_kR P D C n f (sx_k c))) sx_nms with
    | true =>
      rw [c2] at h
      have h : some false = some b := h
      cases h
      refine ⟨fun z => (by cases z), fun _ z => ?_⟩
      have h1 : tr_kd (φ C) (sx_ev σ n).toNat (sx_ev σ f).toNat ∈ sx_nms := by
        unfold sx_nms
        simp only [List.mem_cons, List.not_mem_nil, or_false]
        omega
      have h2 := (sx_kR_ok hd (sx_isF_ok (sx_ql_ok c2 _ h1))).2 rfl
      rw [sx_ev_k] at h2
      exact h2 rfl
    | false =>
      rw [c2] at h
      have h : none = some b := h
      cases h
theorem sx_xR_ok {C : Nat} {n f f1 : sx_E} (hd : sx_d P sx_TGm σ φ D) (h : sx_xR P D C n f f1 = true) : sx_ev σ f1 = (tr_nx (φ C) (sx_ev σ n).toNat (sx_ev σ f).toNat : Int) := by
  obtain ⟨g, h1, h2⟩ := sx_any_ok h
  have hg := hd.2.2.2.2 g h1
  unfold sx_xR1 at h2
  split at h2
  · next C' n' f' t u =>
    simp only [Bool.and_eq_true] at h2
    obtain ⟨⟨k1, k2, k3⟩, k4, k5⟩ := h2
    have hg := sx_n45.mp hg
    rw [Nat.eq_of_beq_eq_true k1, sx_eqp_ok hd k2, sx_eqp_ok hd k3] at hg
    obtain ⟨g1, g2, g3⟩ := hg
    have e4 := sx_ge_ok hd k4
    rw [sx_ev_pk, sx_ev_sb] at e4
    have e5 := (sx_r41_ok hd k5).2
    have e6 : tr_ru (φ C) (sx_ev σ n).toNat (sx_ev σ f).toNat = tr_ut (φ C) (sx_ev σ n).toNat (sx_ev σ f).toNat := by
      unfold tr_ru
      rw [tr_blef (by omega)]
      rfl
    rw [e5, g3, e6, tr_nn]
    rfl
  · cases h2
end SXRD
