/-! TEXTS: what is emitted: what can be said holds -/
section SXEM
variable {P : sx_P} {σ : Nat → Int} {φ : sx_R} {D : sx_D} {X : sx_KE} {T V : Nat → Int} {nx : Nat → Nat} {E : List Nat → Int → Nat → Prop} {Q : List sx_E → Int → Prop}
theorem sx_n84 {a b : Nat} {k : sx_E} : sx_fk sx_TGm σ φ (1084, [a, b], [k]) ↔ ∀ i : Nat, (i : Int) < sx_ev σ k → φ b i = φ a i := Iff.rfl
theorem sx_n42 {C : Nat} {f i v : sx_E} : sx_fk sx_TGm σ φ (1042, [C], [f, i, v]) ↔ 0 ≤ sx_ev σ f ∧ sx_ev σ f ≤ sx_ev σ i ∧ sx_ev σ v = tr_nb (φ C) (sx_ev σ f).toNat (sx_ev σ i - sx_ev σ f).toNat := Iff.rfl
theorem sx_n43 {C : Nat} {f u v : sx_E} : sx_fk sx_TGm σ φ (1043, [C], [f, u, v]) ↔ 0 ≤ sx_ev σ f ∧ sx_ev σ f ≤ sx_ev σ u ∧ sx_ev σ v = tr_nb (φ C) (sx_ev σ f).toNat (if 5 ≤ sx_ev σ u - sx_ev σ f then 5 else (sx_ev σ u - sx_ev σ f).toNat) := Iff.rfl
theorem sx_n44 {C : Nat} {n f t v : sx_E} : sx_fk sx_TGm σ φ (1044, [C], [n, f, t, v]) ↔ (sx_ev σ t = 2 → sx_ev σ v = tr_vl (φ C) (sx_ev σ n).toNat (sx_ev σ f).toNat) := Iff.rfl
theorem sx_n98 {C T V : Nat} {n m : sx_E} : sx_fk sx_TGm σ φ (1098, [C, T, V], [n, m]) ↔ ∀ k : Nat, (k : Int) < sx_ev σ m → φ T k = 2 → φ V k = tr_vl (φ C) (sx_ev σ n).toNat (tr_pc (φ C) (sx_ev σ n).toNat k) := Iff.rfl
theorem sx_n62 {T V C : Nat} {w j o f r a u e : sx_E} : sx_fk sx_TGm σ φ (1062, [T, V, C], [w, j, o, f, r, a, u, e]) ↔ tr_ems (φ T) (φ V) (fun i => i + 1) (tr_ec (φ C)) (sx_ev σ w) (sx_ev σ j) (sx_ev σ o) (sx_ev σ f) (sx_ev σ r) (sx_ev σ a) (sx_ev σ u) (sx_ev σ e) := Iff.rfl
theorem sx_n63 {C A W : Nat} {n w j o f r a u e : sx_E} : sx_fk sx_TGm σ φ (1063, [C, A, W], [n, w, j, o, f, r, a, u, e]) ↔ tr_ems (tr_kd (φ C) (sx_ev σ n).toNat) (tr_vl (φ C) (sx_ev σ n).toNat) (tr_nx (φ C) (sx_ev σ n).toNat) (tr_er (φ A) (φ W)) (sx_ev σ w) (sx_ev σ j) (sx_ev σ o) (sx_ev σ f) (sx_ev σ r) (sx_ev σ a) (sx_ev σ u) (sx_ev σ e) := Iff.rfl
theorem sx_fq_ok {a : Nat} {k : sx_E} (hd : sx_d P sx_TGm σ φ D) : ∀ {n b : Nat}, sx_fq P D k a n b = true → ∀ i : Nat, (i : Int) < sx_ev σ k → φ b i = φ a i
  | 0, b, h, i, _ => by
    have h : Nat.beq a b = true := h
    rw [Nat.eq_of_beq_eq_true h]
  | n + 1, b, h, i, hi => by
    unfold sx_fq at h
    rw [Bool.or_eq_true, Bool.or_eq_true] at h
    rcases h with h | h | h
    · rw [Nat.eq_of_beq_eq_true h]
    · obtain ⟨c, h1, h2⟩ := sx_any_ok h
      obtain ⟨g, h3, h4⟩ := tr_fm_ok h1
      have hg := hd.2.2.2.2 g h3
      unfold sx_fr1 at h4
      split at h4
      · next a' b' k' =>
        cases c1 : (Nat.beq b' b && sx_ge P D (sx_sb k' k)) with
        | false =>
          rw [c1] at h4
          have h4 : none = some c := h4
          cases h4
        | true =>
          rw [c1] at h4
          have h4 : some a' = some c := h4
          cases h4
          rw [Bool.and_eq_true] at c1
          have hg := sx_n84.mp hg
          have e1 := sx_ge_ok hd c1.2
          rw [sx_ev_sb] at e1
          rw [← Nat.eq_of_beq_eq_true c1.1, hg i (by omega)]
          exact sx_fq_ok hd h2 i hi
      · cases h4
    · split at h
      · next x hx =>
        rw [Bool.and_eq_true] at h
        have e1 := sx_ge_ok hd h.1
        rw [sx_ev_sb] at e1
        rw [sx_fru_ok hd hx i, if_neg (by omega)]
        exact sx_fq_ok hd h.2 i hi
      · cases h
theorem sx_frm_ok {a b : Nat} {k : sx_E} (hd : sx_d P sx_TGm σ φ D) (h : sx_frm P D a b k = true) : ∀ i : Nat, (i : Int) < sx_ev σ k → φ b i = φ a i := sx_fq_ok hd h
theorem sx_rs2_ok {o : Nat} {z : sx_E} {x : sx_E × sx_E} (hd : sx_d P sx_TGm σ φ D) (ho : o = 109 ∨ o = 110 ∨ o = 111) (h : sx_rs D o z = some x) : sx_fn (o - 100) (sx_ev σ x.1) (sx_ev σ x.2) = sx_ev σ z := by
  obtain ⟨f, h1, h2⟩ := sx_first_ok h
  have hf := hd.2.2.2.2 f h1
  unfold sx_rs1 at h2
  split at h2
  · next o' x' y' r' =>
    cases hb : Nat.beq o' o && sx_eq r' z with
    | false => rw [hb] at h2; cases h2
    | true =>
      rw [hb] at h2
      cases h2
      rw [Bool.and_eq_true] at hb
      rw [Nat.eq_of_beq_eq_true hb.1, sx_eq_eq hb.2] at hf
      rcases ho with rfl | rfl | rfl
      · exact hf
      · exact hf
      · exact hf
  · cases h2
theorem sx_ns_ok {z v x : sx_E} {r : Bool} (hd : sx_d P sx_TGm σ φ D) (h : sx_ns P D z v x r = true) : sx_ev σ z = sx_fn 10 (sx_fn 9 (sx_fn 11 (sx_ev σ v) 10) (sx_ev σ x)) 48 := by
  unfold sx_ns at h
  split at h
  · next y hy =>
    rw [Bool.and_eq_true] at h
    obtain ⟨k1, h⟩ := h
    split at h
    · next q hq =>
      rw [Bool.and_eq_true] at h
      obtain ⟨k2, h⟩ := h
      split at h
      · next w hw =>
        have e1 := sx_rs2_ok hd (Or.inr (Or.inl rfl)) hy
        have e2 := sx_rs2_ok hd (Or.inl rfl) hq
        have e3 := sx_rs2_ok hd (Or.inr (Or.inr rfl)) hw
        rw [sx_eq_eq k1, sx_ev_k, ← e2, sx_eqp_ok hd k2, ← e3] at e1
        rw [← e1]
        cases r with
        | true =>
          have h : (sx_eq w.1 (sx_k 10) && sx_eqp P D w.2 v) = true := h
          rw [Bool.and_eq_true] at h
          rw [sx_eq_eq h.1, sx_ev_k, sx_eqp_ok hd h.2]
          show sx_fn 10 (sx_fn 9 (sx_fn 11 10 (sx_ev σ v)) (sx_ev σ x)) 48 = _
          rw [tr_fn11c]
        | false =>
          have h : (sx_eq w.2 (sx_k 10) && sx_eqp P D w.1 v) = true := h
          rw [Bool.and_eq_true] at h
          rw [sx_eq_eq h.1, sx_ev_k, sx_eqp_ok hd h.2]
      · cases h
    · cases h
  · cases h
theorem sx_h42_ok {C : Nat} {f i v : sx_E} {g : sx_F} (hd : sx_d P sx_TGm σ φ D) (hg : sx_fk sx_TGm σ φ g) (h : sx_h42 P D C f i v g = true) : sx_fk sx_TGm σ φ (1042, [C], [f, i, v]) := by
  rw [sx_n42]
  unfold sx_h42 at h
  split at h
  · next C' f' i' v' =>
    simp only [Bool.and_eq_true, Bool.or_eq_true] at h
    obtain ⟨⟨k1, k2⟩, h⟩ := h
    have hg := sx_n42.mp hg
    rw [Nat.eq_of_beq_eq_true k1, sx_eqp_ok hd k2] at hg
    rcases h with ⟨k3, k4⟩ | ⟨⟨k3, k4, k5⟩, k6⟩
    · rw [sx_eqp_ok hd k3, sx_eqp_ok hd k4] at hg
      exact hg
    · have e3 := (sx_eqp_ok hd k3).trans sx_ev_pk
      have e4 := sx_ge_ok hd k4
      have e5 := sx_ge_ok hd k5
      rw [sx_ev_sb] at e4
      obtain ⟨x, x1, x2⟩ := sx_o_ok k6
      refine ⟨e5, by omega, ?_⟩
      rw [sx_ns_ok hd x2, hg.2.2, show (sx_ev σ i - sx_ev σ f).toNat = (sx_ev σ i' - sx_ev σ f).toNat + 1 by omega]
      show _ = sx_fn 10 (sx_fn 9 (sx_fn 11 (tr_nb (φ C) (sx_ev σ f).toNat (sx_ev σ i' - sx_ev σ f).toNat) 10) (φ C ((sx_ev σ f).toNat + (sx_ev σ i' - sx_ev σ f).toNat))) 48
      rw [show (sx_ev σ f).toNat + (sx_ev σ i' - sx_ev σ f).toNat = (sx_ev σ i').toNat by omega, sx_sel_ok hd x1]
  · cases h
theorem sx_h43_ok {C : Nat} {f u v : sx_E} {g : sx_F} (hd : sx_d P sx_TGm σ φ D) (hg : sx_fk sx_TGm σ φ g) (h : sx_h43 P D C f u v g = true) : sx_fk sx_TGm σ φ (1043, [C], [f, u, v]) := by
  rw [sx_n43]
  unfold sx_h43 at h
  split at h
  · next C' f' u' v' =>
    simp only [Bool.and_eq_true, Bool.or_eq_true] at h
    obtain ⟨⟨k1, k2⟩, h⟩ := h
    have hg := sx_n43.mp hg
    rw [Nat.eq_of_beq_eq_true k1, sx_eqp_ok hd k2] at hg
    rcases h with ⟨k3, k4⟩ | ⟨⟨k3, k4, k5⟩, h⟩
    · rw [sx_eqp_ok hd k3, sx_eqp_ok hd k4] at hg
      exact hg
    · have e3 := (sx_eqp_ok hd k3).trans sx_ev_pk
      have e4 := sx_ge_ok hd k4
      have e5 := sx_ge_ok hd k5
      rw [sx_ev_sb] at e4
      refine ⟨e5, by omega, ?_⟩
      rcases h with ⟨k6, k7⟩ | ⟨k6, k7⟩
      · have e6 := sx_ge_ok hd k6
        rw [sx_ev_pk, sx_ev_sb] at e6
        obtain ⟨x, x1, x2⟩ := sx_o_ok k7
        have hg3 := hg.2.2
        rw [if_neg (by omega)] at hg3
        have ee : (if 5 ≤ sx_ev σ u - sx_ev σ f then 5 else (sx_ev σ u - sx_ev σ f).toNat) = (sx_ev σ u' - sx_ev σ f).toNat + 1 := by
          split <;> omega
        rw [sx_ns_ok hd x2, hg3, ee]
        show _ = sx_fn 10 (sx_fn 9 (sx_fn 11 (tr_nb (φ C) (sx_ev σ f).toNat (sx_ev σ u' - sx_ev σ f).toNat) 10) (φ C ((sx_ev σ f).toNat + (sx_ev σ u' - sx_ev σ f).toNat))) 48
        rw [show (sx_ev σ f).toNat + (sx_ev σ u' - sx_ev σ f).toNat = (sx_ev σ u').toNat by omega, sx_sel_ok hd x1]
      · have e6 := sx_ge_ok hd k6
        rw [sx_ev_pk, sx_ev_sb] at e6
        have hg3 := hg.2.2
        rw [if_pos (by omega)] at hg3
        rw [sx_eqp_ok hd k7, hg3, if_pos (by omega)]
  · cases h
theorem sx_h44_ok {C : Nat} {n f t v : sx_E} {g : sx_F} (hd : sx_d P sx_TGm σ φ D) (hg : sx_fk sx_TGm σ φ g) (h : sx_h44 P D C n f t v g = true) : sx_fk sx_TGm σ φ (1044, [C], [n, f, t, v]) := by
  rw [sx_n44]
  unfold sx_h44 at h
  split at h
  · next C' n' f' t' v' =>
    simp only [Bool.and_eq_true] at h
    obtain ⟨⟨k1, k2, k3⟩, k4, k5⟩ := h
    have hg := sx_n44.mp hg
    rw [Nat.eq_of_beq_eq_true k1, sx_eqp_ok hd k2, sx_eqp_ok hd k3, sx_eqp_ok hd k4, sx_eqp_ok hd k5] at hg
    exact hg
  · next C' f' u v' =>
    simp only [Bool.and_eq_true] at h
    obtain ⟨⟨k1, k2, k3⟩, ⟨k4, k5⟩, ⟨k6, k7⟩, k8⟩ := h
    have hg := sx_n43.mp hg
    rw [Nat.eq_of_beq_eq_true k1, sx_eqp_ok hd k2, sx_eqp_ok hd k3] at hg
    have e4 := sx_ge_ok hd k4
    have e5 := sx_ge_ok hd k5
    have e6 := sx_ge_ok hd k6
    rw [sx_ev_pk, sx_ev_sb] at e4 e5
    obtain ⟨x, x1, x2⟩ := sx_o_ok k7
    have er := (sx_r41_ok hd k8).2
    intro _
    have hg3 := hg.2.2
    rw [if_neg (by omega)] at hg3
    have h2 : tr_is 2 (φ C (sx_ev σ f).toNat) = true := by
      rw [sx_sel_ok hd x1]
      exact sx_qi_ok hd x2
    unfold tr_vl
    rw [(tr_kd_2 (A := φ C) (n := (sx_ev σ n).toNat) (f := (sx_ev σ f).toNat) (by omega) h2).2.1, hg3]
    congr 1
    omega
  · cases h
theorem sx_h98_ok {C T V : Nat} {n m : sx_E} {g : sx_F} (hd : sx_d P sx_TGm σ φ D) (hg : sx_fk sx_TGm σ φ g) (h : sx_h98 P D C T V n m g = true) : sx_fk sx_TGm σ φ (1098, [C, T, V], [n, m]) := by
  rw [sx_n98]
  unfold sx_h98 at h
  split at h
  · next C' T' V' n' m' =>
    rw [Bool.and_eq_true, Bool.and_eq_true, Bool.or_eq_true] at h
    obtain ⟨⟨k1, k2⟩, h⟩ := h
    have hg := sx_n98.mp hg
    rw [Nat.eq_of_beq_eq_true k1, sx_eqp_ok hd k2] at hg
    rcases h with h | h
    · simp only [Bool.and_eq_true] at h
      rw [Nat.eq_of_beq_eq_true h.1.1, Nat.eq_of_beq_eq_true h.1.2, sx_eqp_ok hd h.2] at hg
      exact hg
    · rw [Bool.and_eq_true] at h
      have em := (sx_eqp_ok hd h.1).trans sx_ev_pk
      obtain ⟨x, x1, h⟩ := sx_o_ok h.2
      obtain ⟨y, y1, h⟩ := sx_o_ok h
      rw [Bool.and_eq_true, Bool.and_eq_true, Bool.or_eq_true] at h
      obtain ⟨⟨k3, k4⟩, h⟩ := h
      have hX := sx_up_ok hd x1
      have hY := sx_up_ok hd y1
      rw [sx_eqp_ok hd k3] at hX
      rw [sx_eqp_ok hd k4] at hY
      intro k hk
      rw [hX k, hY k]
      by_cases hk2 : k = (sx_ev σ m').toNat
      · rw [if_pos hk2, if_pos hk2]
        intro h2
        rcases h with h | h
        · have := sx_nzb_ok hd h
          rw [sx_ev_pk] at this
          omega
        · obtain ⟨g1, j1, j2⟩ := sx_any_ok h
          have hg1 := hd.2.2.2.2 g1 j1
          unfold sx_p98 at j2
          split at j2
          · next C1 T1 L1 n1 m1 q =>
            simp only [Bool.and_eq_true] at j2
            obtain ⟨⟨l1, l2⟩, ⟨l3, l4⟩, l5⟩ := j2
            have hg1 := sx_n48.mp hg1
            rw [Nat.eq_of_beq_eq_true l1, sx_eqp_ok hd l3, sx_eqp_ok hd l4] at hg1
            obtain ⟨g2, j3, j4⟩ := sx_any_ok l5
            have hg2 := hd.2.2.2.2 g2 j3
            unfold sx_q98 at j4
            split at j4
            · next C2 f u v =>
              simp only [Bool.and_eq_true] at j4
              obtain ⟨⟨m1', m2'⟩, ⟨m3, m4⟩, m5, m6⟩ := j4
              have hg2 := sx_n42.mp hg2
              rw [Nat.eq_of_beq_eq_true m1', sx_eqp_ok hd m2'] at hg2
              have e1 := (sx_r41_ok hd m3).2
              have e2 := (sx_r41_ok hd m4).2
              rw [← hg1.2.2.1] at e1
              obtain ⟨z, z1, z2⟩ := sx_o_ok m5
              have e6 := sx_ge_ok hd m6
              rw [sx_ev_pk, sx_ev_sb] at e6
              have hd2 : tr_is 2 (φ C (sx_ev σ f).toNat) = true := by
                rw [sx_sel_ok hd z1]
                exact sx_qi_ok hd z2
              rw [hg2.2.2, hk2]
              have ef : (sx_ev σ f).toNat = tr_pc (φ C) (sx_ev σ n).toNat (sx_ev σ m').toNat := by omega
              have hu := (tr_kd_2 (A := φ C) (n := (sx_ev σ n).toNat) (f := (sx_ev σ f).toNat) (by omega) hd2).2.1
              unfold tr_vl
              rw [← ef, hu]
              congr 1
              omega
            · cases j4
          · cases j2
      · rw [if_neg hk2, if_neg hk2]
        exact hg k (by omega)
  · cases h
/-! emitting -/
/-- what each check gives -/
def sx_eH (σ : Nat → Int) (X : sx_KE) (T V : Nat → Int) (nx : Nat → Nat) (E : List Nat → Int → Nat → Prop) (Q : List sx_E → Int → Prop) : Prop :=
  sx_pH σ X.1 T nx ∧
  (∀ h ∈ X.2.1, tr_ems T V nx (E h.1) (sx_ev σ h.2.1) (sx_ev σ h.2.2.1) (sx_ev σ h.2.2.2.1) (sx_ev σ h.2.2.2.2.1) (sx_ev σ h.2.2.2.2.2.1) (sx_ev σ (sx_e2 h)) (sx_ev σ (sx_e0 h)) (sx_ev σ (sx_e1 h))) ∧
  (∀ A u q, q ∈ X.2.2.1 A u → 0 ≤ sx_ev σ u → (∀ c i, ¬ i = (sx_ev σ u).toNat → E A c i → E q.1 c i) ∧ ∀ c, Q q.2 c → E q.1 c (sx_ev σ u).toNat) ∧
  (∀ l f, X.2.2.2.1 l f = true → T (sx_ev σ f).toNat = 2 → Q l (V (sx_ev σ f).toNat)) ∧
  (∀ l f, X.2.2.2.2.1 l f = true → Q l (-1 - T (sx_ev σ f).toNat)) ∧
  (∀ l c, X.2.2.2.2.2.1 l c = true → (c = 3 ∨ c = 268 ∨ c ∈ sx_jal) → Q l (-1 - c)) ∧
  (∀ A B k, X.2.2.2.2.2.2.1 A B k = true → ∀ c (i : Nat), (i : Int) < sx_ev σ k → E A c i → E B c i) ∧
  ∀ A u l, X.2.2.2.2.2.2.2 A u = some l → ∀ c, Q l c → E A c (sx_ev σ u).toNat
theorem sx_ea_ok {w o u : sx_E} {h : sx_H} (hd : sx_d P sx_TGm σ φ D) (H : sx_eH σ X T V nx E Q) (hh : h ∈ X.2.1) (he : sx_ea P D w o u h = true) : 0 ≤ sx_ev σ h.2.2.2.2.1 ∧ 0 ≤ sx_ev σ (sx_e2 h) ∧ 0 ≤ sx_ev σ u ∧ ∃ m L, tr_em T V nx m (sx_ev σ w) (tr_nj (sx_ev σ w) (sx_ev σ h.2.2.1)) (sx_ev σ o) (sx_ev σ h.2.2.2.2.1).toNat (sx_ev σ (sx_e2 h)).toNat L ∧ sx_ev σ (sx_e1 h) = sx_ev σ u + (L.length : Int) ∧ tr_sw (E h.1) (sx_ev σ u).toNat L := by
  unfold sx_ea at he
  simp only [Bool.and_eq_true] at he
  obtain ⟨⟨k1, k2⟩, k3, k4⟩ := he
  have hG := H.2.1 h hh ((sx_eqp_ok hd k3).trans sx_ev_k)
  rw [sx_eqp_ok hd k1, sx_eqp_ok hd k2, sx_eqp_ok hd k4] at hG
  exact hG
/-- one item behind a part -/
theorem sx_put_ok {A : List Nat} {u : sx_E} {q : List Nat × List sx_E} {L : List Int} {c : Int} {u0 : Nat} (H : sx_eH σ X T V nx E Q) (hq : q ∈ X.2.2.1 A u) (hu : sx_ev σ u = (u0 : Int) + (L.length : Int)) (hs : tr_sw (E A) u0 L) (hc : Q q.2 c) : tr_sw (E q.1) u0 (L ++ [c]) := by
  obtain ⟨h1, h2⟩ := H.2.2.1 A u q hq (by omega)
  refine tr_sw_app.mpr ⟨tr_sw_cg (fun c i z1 z2 => h1 c i (by omega)) hs, ?_, trivial⟩
  rw [show u0 + L.length = (sx_ev σ u).toNat by omega]
  exact h2 c hc
theorem sx_etk_ok {A : List Nat} {c : Int} {e : sx_E} {h : sx_H} {L : List Int} {u0 : Nat} (hd : sx_d P sx_TGm σ φ D) (H : sx_eH σ X T V nx E Q) (hc : c = 3 ∨ c = 268) (hu : sx_ev σ (sx_e1 h) = (u0 : Int) + (L.length : Int)) (hs : tr_sw (E h.1) u0 L) (he : sx_etk P D X A c e h = true) : sx_ev σ e = (u0 : Int) + ((L ++ [-1 - c]).length : Int) ∧ tr_sw (E A) u0 (L ++ [-1 - c]) := by
  unfold sx_etk at he
  rw [Bool.and_eq_true] at he
  obtain ⟨q, q1, q2⟩ := sx_any_ok he.2
  rw [Bool.and_eq_true] at q2
  have e1 := (sx_eqp_ok hd he.1).trans sx_ev_pk
  refine ⟨?_, ?_⟩
  · rw [List.length_append, List.length_singleton]
    omega
  · rw [← sx_eN_eq q2.1]
    exact sx_put_ok H q1 hu hs (H.2.2.2.2.2.1 _ _ q2.2 (by omega))
theorem sx_E5_ok {A : List Nat} {o f a u e : sx_E} {F : Nat} {r j : Int} (hd : sx_d P sx_TGm σ φ D) (H : sx_eH σ X T V nx E Q) (hF : sx_ev σ f = (F : Int)) (h : sx_E5 P D X A o f a u e = true) : tr_ems T V nx (E A) 5 j (sx_ev σ o) (F : Int) r (sx_ev σ a) (sx_ev σ u) (sx_ev σ e) := by
  have hT : ∀ {c : Int}, sx_isT (X.1.1 f (sx_k c)) = true → T F = c := fun {c} z => by
    have := sx_pH_T H.1 z
    rw [hF, tr_nn] at this
    exact this
  unfold sx_E5 at h
  rw [Bool.or_eq_true] at h
  intro _
  have nj : tr_nj 5 j = 0 := tr_nj0 (by omega) (by omega)
  rcases h with h | h
  · rw [Bool.and_eq_true, Bool.and_eq_true, Bool.and_eq_true] at h
    obtain ⟨⟨k1, k2, k3⟩, h⟩ := h
    have e1 := (sx_eqp_ok hd k1).trans sx_ev_pk
    have e2 := sx_ge_ok hd k2
    have e3 := sx_pH_x H.1 hF k3
    obtain ⟨l, l1, l2⟩ := sx_o_ok h
    rw [Bool.or_eq_true, Bool.and_eq_true, Bool.and_eq_true] at l2
    have hia := H.2.2.2.2.2.2.2 A u l l1
    rcases l2 with ⟨m1, m2⟩ | ⟨m1, m2⟩
    · have hq := H.2.2.2.1 l f m2 (by rw [hF, tr_nn]; exact hT m1)
      refine ⟨by omega, by omega, e2, 1, [V F], Or.inl ⟨rfl, ?_, ?_, ?_⟩, by
        show sx_ev σ e = sx_ev σ u + ((1 : Nat) : Int)
        omega, ?_, trivial⟩
      · rw [tr_nn]; exact hT m1
      · rw [tr_nn]; omega
      · rw [tr_nn]
      · rw [hF, tr_nn] at hq
        exact hia _ hq
    · have hq := H.2.2.2.2.1 l f m2
      have hn := (H.1.2.1 _ _ (sx_isT_ok m1)).1 rfl
      rw [hF, tr_nn] at hn hq
      refine ⟨by omega, by omega, e2, 1, [-1 - T F], Or.inr (Or.inl ⟨rfl, ?_, ?_, ?_, ?_⟩), by
        show sx_ev σ e = sx_ev σ u + ((1 : Nat) : Int)
        omega, ?_, trivial⟩
      · rw [tr_nn]; exact hn.1
      · rw [tr_nn]; exact hn.2
      · rw [tr_nn]; omega
      · rw [tr_nn]
      · exact hia _ hq
  · rw [Bool.and_eq_true, Bool.or_eq_true, Bool.and_eq_true, Bool.and_eq_true] at h
    obtain ⟨k0, h⟩ := h
    have ho := sx_ge_ok hd k0
    rw [sx_ev_pk, sx_ev_ng] at ho
    rcases h with ⟨k1, h⟩ | ⟨k1, h⟩
    · obtain ⟨h', hh, hx⟩ := sx_any_ok h
      simp only [Bool.and_eq_true] at hx
      obtain ⟨x1, ⟨x2, x3⟩, x4, x5, x6⟩ := hx
      obtain ⟨g1, g2, g3, m, L, g4, g5, g6⟩ := sx_ea_ok hd H hh x1
      rw [sx_ev_k, sx_ev_pk, sx_pH_x H.1 hF x4, tr_nn, tr_nj0 (by omega) (by omega)] at g4
      obtain ⟨B, hB⟩ : ∃ B : Nat, sx_ev σ (sx_e2 h') = (B : Int) := ⟨(sx_ev σ (sx_e2 h')).toNat, by omega⟩
      have t41 := sx_pH_T H.1 x5
      rw [hB, tr_nn] at t41 g4
      have ea := sx_pH_x H.1 hB x6
      rw [← sx_eN_eq x2, ← sx_eqp_ok hd x3]
      refine ⟨by omega, by omega, g3, m + 1, L, ?_, g5, g6⟩
      rw [nj, tr_nn]
      exact Or.inr (Or.inr (Or.inl ⟨rfl, by omega, hT k1, B, g4, t41, by omega⟩))
    · obtain ⟨h', hh, hx⟩ := sx_any_ok h
      simp only [Bool.and_eq_true] at hx
      obtain ⟨x1, x2, x3, x4⟩ := hx
      obtain ⟨g1, g2, g3, m, L, g4, g5, g6⟩ := sx_ea_ok hd H hh x1
      rw [sx_ev_k, sx_ev_pk, sx_pH_x H.1 hF x2, tr_nn, tr_nj0 (by omega) (by omega), sx_eqp_ok hd x3] at g4
      obtain ⟨U, hU⟩ : ∃ U : Nat, sx_ev σ u = (U : Int) := ⟨(sx_ev σ u).toNat, by omega⟩
      rw [hU, tr_nn] at g6
      rw [hU] at g5
      obtain ⟨y1, y2⟩ := sx_etk_ok (c := 3) hd H (Or.inl rfl) g5 g6 x4
      rw [sx_eqp_ok hd x3] at g2
      refine ⟨by omega, g2, by omega, m + 1, L ++ [-1 - 3], ?_, by omega, by rw [hU, tr_nn]; exact y2⟩
      rw [nj, tr_nn]
      exact Or.inr (Or.inr (Or.inr (Or.inl ⟨rfl, by omega, hT k1, L, g4, rfl⟩)))
theorem sx_eb_ok {w o r a u e : sx_E} {A : List Nat} {h : sx_H} (hd : sx_d P sx_TGm σ φ D) (H : sx_eH σ X T V nx E Q) (hh : h ∈ X.2.1) (he : sx_eb P D w o r a u e A h = true) : tr_ems T V nx (E A) (sx_ev σ w) (sx_ev σ h.2.2.1) (sx_ev σ o) (sx_ev σ h.2.2.2.2.1) (sx_ev σ r) (sx_ev σ a) (sx_ev σ u) (sx_ev σ e) := by
  unfold sx_eb at he
  simp only [Bool.and_eq_true] at he
  obtain ⟨⟨k1, k2, k3⟩, ⟨k4, k5⟩, k6, k7⟩ := he
  have hG := H.2.1 h hh
  rw [sx_eN_eq k1, sx_eqp_ok hd k2, sx_eqp_ok hd k3, sx_eqp_ok hd k4, sx_eqp_ok hd k5, sx_eqp_ok hd k6, sx_eqp_ok hd k7] at hG
  exact hG
/-- what is joined, from a part h on: one item and what follows -/
theorem sx_El1_ok {A : List Nat} {lv : Nat} {j o r a e : sx_E} {c : Int} {h : sx_H} {q : List Nat × List sx_E} {L : List Int} {U : Nat} {w : Int} (hlv : lv ≤ 4) (hw : w = 10 + (lv : Int)) (hd : sx_d P sx_TGm σ φ D) (H : sx_eH σ X T V nx E Q) (hr : sx_ev σ r = 1) (hc : c ∈ sx_jl lv) (hj0 : lv = 2 → sx_ev σ j = 0) (h2 : 0 ≤ sx_ev σ (sx_e2 h)) (hq : q ∈ X.2.2.1 h.1 (sx_e1 h)) (hu : sx_ev σ (sx_e1 h) = (U : Int) + (L.length : Int)) (hs : tr_sw (E h.1) U L) (he : sx_El1 P D X A lv j o r a e c h q = true) : 0 ≤ sx_ev σ a ∧ ∃ m L2, tr_em T V nx m w (if w = 12 then tr_nj w (sx_ev σ j) + 1 else 0) (sx_ev σ o) (sx_ev σ (sx_e2 h)).toNat (sx_ev σ a).toNat L2 ∧ sx_ev σ e = (U : Int) + ((L ++ (-1 - c) :: L2).length : Int) ∧ tr_sw (E A) U (L ++ (-1 - c) :: L2) := by
  unfold sx_El1 at he
  rw [Bool.and_eq_true, Bool.or_eq_true] at he
  obtain ⟨k1, he⟩ := he
  have hcj : c = 3 ∨ c = 268 ∨ c ∈ sx_jal := by
    refine Or.inr (Or.inr ?_)
    have : ∀ lv : Nat, lv < 5 → ∀ c ∈ sx_jl lv, c ∈ sx_jal := by decide
    exact this lv (by omega) c hc
  have hp := sx_put_ok H hq hu hs (H.2.2.2.2.2.1 _ _ k1 hcj)
  have hlen : ∀ L2 : List Int, ((L ++ (-1 - c) :: L2).length : Int) = (L.length : Int) + 1 + (L2.length : Int) := fun L2 => by
    rw [List.length_append, List.length_cons]
    omega
  rcases he with he | he
  · simp only [Bool.and_eq_true] at he
    obtain ⟨⟨m1, m2⟩, m3, m4⟩ := he
    have e3 := sx_eqp_ok hd m3
    have e4 := (sx_eqp_ok hd m4).trans sx_ev_pk
    have l2 := Nat.eq_of_beq_eq_true m1
    rw [sx_eN_eq m2] at hp
    have hz := hj0 l2
    have w12 : w = 12 := by omega
    refine ⟨by omega, 1, [], Or.inr (Or.inr (Or.inr (Or.inr (Or.inl ⟨by omega, by omega, ?_, by omega, rfl⟩)))), by rw [hlen]; show sx_ev σ e = (U : Int) + ((L.length : Int) + 1 + ((0 : Nat) : Int)); omega, hp⟩
    rw [if_pos w12]
    cases hb : tr_jn w (tr_nj w (sx_ev σ j) + 1) (T (sx_ev σ (sx_e2 h)).toNat) with
    | false => rfl
    | true =>
      unfold tr_jn at hb
      rw [decide_eq_true_eq] at hb
      have : tr_nj w (sx_ev σ j) = sx_ev σ j := if_pos (Or.inr w12)
      omega
  · obtain ⟨h', hh, hx⟩ := sx_any_ok he
    simp only [Bool.and_eq_true] at hx
    obtain ⟨x1, x2, x3, x4⟩ := hx
    obtain ⟨g1, g2, g3, m, L2, g4, g5, g6⟩ := sx_eb_ok hd H hh x1 hr
    rw [sx_ev_k, ← hw, sx_eqp_ok hd x3] at g4
    rw [sx_ev_pk] at g3 g5 g6
    have hfr := H.2.2.2.2.2.2.1 _ _ _ x4
    rw [sx_ev_pk] at hfr
    have hnj : tr_nj w (sx_ev σ h'.2.2.1) = (if w = 12 then tr_nj w (sx_ev σ j) + 1 else 0) := by
      unfold tr_nj
      by_cases c12 : w = 12
      · rw [if_pos (Or.inr c12), if_pos c12, if_pos (Or.inr c12)]
        rw [Bool.or_eq_true] at x2
        rcases x2 with x2 | x2
        · rw [show lv = 2 by omega] at x2
          have x2 : false = true := x2
          cases x2
        · exact (sx_eqp_ok hd x2).trans sx_ev_pk
      · rw [if_neg (by omega), if_neg c12]
    rw [hnj] at g4
    refine ⟨g2, m, L2, g4, by rw [hlen]; omega, ?_⟩
    have hp2 : tr_sw (E A) U (L ++ [-1 - c]) := tr_sw_cg (fun c' i z1 z2 => hfr c' i (by
      rw [List.length_append, List.length_singleton] at z2
      omega)) hp
    rw [show L ++ (-1 - c) :: L2 = (L ++ [-1 - c]) ++ L2 from (List.append_assoc L [-1 - c] L2).symm]
    refine tr_sw_app.mpr ⟨hp2, ?_⟩
    rw [show U + (L ++ [-1 - c]).length = (sx_ev σ (sx_e1 h) + 1).toNat by
      rw [List.length_append, List.length_singleton]
      omega]
    exact g6
theorem sx_Em_ok {A : List Nat} {lv : Nat} {j o f r a u e : sx_E} {F : Nat} (hlv : lv ≤ 4) (hd : sx_d P sx_TGm σ φ D) (H : sx_eH σ X T V nx E Q) (hF : sx_ev σ f = (F : Int)) (h : sx_Em P D X A lv j o f r a u e = true) : tr_ems T V nx (E A) (10 + (lv : Int)) (sx_ev σ j) (sx_ev σ o) (F : Int) (sx_ev σ r) (sx_ev σ a) (sx_ev σ u) (sx_ev σ e) := by
  intro hr
  unfold sx_Em at h
  rw [Bool.or_eq_true] at h
  rcases h with h | h
  · rw [Bool.and_eq_true, Bool.and_eq_true, Bool.and_eq_true] at h
    obtain ⟨h3, k1, k2, k3⟩ := h
    have e1 := sx_eqp_ok hd k1
    have e2 := sx_eqp_ok hd k2
    have e3 := sx_ge_ok hd k3
    refine ⟨by omega, by omega, e3, 1, [], Or.inr (Or.inr (Or.inr (Or.inr (Or.inl ⟨by omega, by omega, ?_, by omega, rfl⟩)))), by show sx_ev σ e = sx_ev σ u + ((0 : Nat) : Int); omega, trivial⟩
    rw [tr_nn]
    cases hb : tr_jn (10 + (lv : Int)) (tr_nj (10 + (lv : Int)) (sx_ev σ j)) (T F) with
    | false => rfl
    | true =>
      obtain ⟨h1, h2⟩ := (tr_jn_iff hlv).mp hb
      rw [Bool.or_eq_true] at h3
      rcases h3 with h3 | h3
      · have h4 := sx_pH_F H.1 (sx_ql_ok h3 _ h1)
        rw [hF, tr_nn] at h4
        exact absurd rfl h4
      · rw [Bool.and_eq_true] at h3
        have h4 := h2 (Nat.eq_of_beq_eq_true h3.1)
        have h5 := sx_ge_ok hd h3.2
        rw [sx_ev_pk] at h5
        omega
  · rw [Bool.and_eq_true] at h
    obtain ⟨k1, h⟩ := h
    obtain ⟨c, hc, h⟩ := sx_any_ok h
    rw [Bool.and_eq_true] at h
    have hT := sx_pH_T H.1 h.1
    rw [hF, tr_nn] at hT
    have hj0 : lv = 2 → sx_ev σ j = 0 := fun z => by
      rw [Bool.or_eq_true] at k1
      rcases k1 with k1 | k1
      · rw [z] at k1
        have k1 : false = true := k1
        cases k1
      · exact (sx_eqp_ok hd k1).trans sx_ev_k
    have hjn : tr_jn (10 + (lv : Int)) (tr_nj (10 + (lv : Int)) (sx_ev σ j)) (T F) = true := (tr_jn_iff hlv).mpr ⟨by rw [hT]; exact hc, hj0⟩
    obtain ⟨h', hh, hx⟩ := sx_any_ok h.2
    unfold sx_Em2 at hx
    rw [Bool.and_eq_true, Bool.and_eq_true] at hx
    obtain ⟨⟨x1, x2⟩, x3⟩ := hx
    obtain ⟨q, hq, x4⟩ := sx_any_ok x3
    obtain ⟨g1, g2, g3, m, L, g4, g5, g6⟩ := sx_ea_ok hd H hh x1
    obtain ⟨U, hU⟩ : ∃ U : Nat, sx_ev σ u = (U : Int) := ⟨(sx_ev σ u).toNat, by omega⟩
    rw [hU, tr_nn] at g6
    rw [hU] at g5
    obtain ⟨y0, m2, L2, y1, y2, y3⟩ := sx_El1_ok hlv rfl hd H hr hc hj0 g2 hq g5 g6 x4
    rw [sx_ev_k, sx_pH_x H.1 hF x2, tr_nn, tr_nj0 (by omega) (by omega), show (lv : Int) + 1 = 10 + (lv : Int) - 9 by omega] at g4
    refine ⟨by omega, y0, by omega, m + m2 + 1, L ++ (-1 - c) :: L2, ?_, by rw [hU]; exact y2, by rw [hU, tr_nn]; exact y3⟩
    rw [tr_nn]
    exact Or.inr (Or.inr (Or.inr (Or.inr (Or.inr (Or.inl ⟨by omega, by omega, hjn, _, L, L2, tr_em_up g4 (by omega), tr_em_up y1 (by omega), by rw [hT]⟩)))))
/-- the reference's level 2, which has no loop: from rows R and place u on -/
theorem sx_El_ok {A R : List Nat} {lv : Nat} {j o f r a u e : sx_E} {F : Nat} {U0 : Nat} {L0 : List Int} (hlv : lv ≤ 4) (hd : sx_d P sx_TGm σ φ D) (H : sx_eH σ X T V nx E Q) (hr : sx_ev σ r = 1) (hF : sx_ev σ f = (F : Int)) (hu : sx_ev σ u = (U0 : Int) + (L0.length : Int)) (hs : tr_sw (E R) U0 L0) (h : sx_El P D X A R lv j o f r a u e = true) : 0 ≤ sx_ev σ a ∧ ∃ m L, tr_em T V nx m (10 + (lv : Int)) (tr_nj (10 + (lv : Int)) (sx_ev σ j)) (sx_ev σ o) F (sx_ev σ a).toNat L ∧ sx_ev σ e = (U0 : Int) + ((L0 ++ L).length : Int) ∧ tr_sw (E A) U0 (L0 ++ L) := by
  unfold sx_El at h
  rw [Bool.or_eq_true] at h
  rcases h with h | h
  · rw [Bool.and_eq_true, Bool.and_eq_true, Bool.and_eq_true] at h
    obtain ⟨h3, k0, k1, k2⟩ := h
    have e1 := sx_eqp_ok hd k1
    have e2 := sx_eqp_ok hd k2
    rw [← sx_eN_eq k0]
    refine ⟨by omega, 1, [], Or.inr (Or.inr (Or.inr (Or.inr (Or.inl ⟨by omega, by omega, ?_, by omega, rfl⟩)))), by rw [List.append_nil]; omega, by rw [List.append_nil]; exact hs⟩
    cases hb : tr_jn (10 + (lv : Int)) (tr_nj (10 + (lv : Int)) (sx_ev σ j)) (T F) with
    | false => rfl
    | true =>
      obtain ⟨h1, h2⟩ := (tr_jn_iff hlv).mp hb
      rw [Bool.or_eq_true] at h3
      rcases h3 with h3 | h3
      · have h4 := sx_pH_F H.1 (sx_ql_ok h3 _ h1)
        rw [hF, tr_nn] at h4
        exact absurd rfl h4
      · rw [Bool.and_eq_true] at h3
        have h4 := h2 (Nat.eq_of_beq_eq_true h3.1)
        have h5 := sx_ge_ok hd h3.2
        rw [sx_ev_pk] at h5
        omega
  · rw [Bool.and_eq_true] at h
    obtain ⟨k1, h⟩ := h
    obtain ⟨c, hc, h⟩ := sx_any_ok h
    rw [Bool.and_eq_true] at h
    have hT := sx_pH_T H.1 h.1
    rw [hF, tr_nn] at hT
    have hj0 : lv = 2 → sx_ev σ j = 0 := fun z => by
      rw [Bool.or_eq_true] at k1
      rcases k1 with k1 | k1
      · rw [z] at k1
        have k1 : false = true := k1
        cases k1
      · exact (sx_eqp_ok hd k1).trans sx_ev_k
    have hjn : tr_jn (10 + (lv : Int)) (tr_nj (10 + (lv : Int)) (sx_ev σ j)) (T F) = true := (tr_jn_iff hlv).mpr ⟨by rw [hT]; exact hc, hj0⟩
    obtain ⟨h', hh, hx⟩ := sx_any_ok h.2
    unfold sx_El2 at hx
    rw [Bool.and_eq_true, Bool.and_eq_true, Bool.and_eq_true] at hx
    obtain ⟨⟨x1, x2, x5⟩, x3⟩ := hx
    obtain ⟨q, hq, x4⟩ := sx_any_ok x3
    obtain ⟨g1, g2, g3, m, L, g4, g5, g6⟩ := sx_ea_ok hd H hh x1
    have hfr := H.2.2.2.2.2.2.1 _ _ _ x5
    have hs2 : tr_sw (E h'.1) U0 (L0 ++ L) := by
      refine tr_sw_app.mpr ⟨tr_sw_cg (fun c i z1 z2 => hfr c i (by omega)) hs, ?_⟩
      rw [show U0 + L0.length = (sx_ev σ u).toNat by omega]
      exact g6
    have hu2 : sx_ev σ (sx_e1 h') = (U0 : Int) + ((L0 ++ L).length : Int) := by
      rw [List.length_append]
      omega
    obtain ⟨y0, m2, L2, y1, y2, y3⟩ := sx_El1_ok hlv rfl hd H hr hc hj0 g2 hq hu2 hs2 x4
    rw [sx_ev_k, sx_pH_x H.1 hF x2, tr_nn, tr_nj0 (by omega) (by omega), show (lv : Int) + 1 = 10 + (lv : Int) - 9 by omega] at g4
    rw [List.append_assoc] at y2 y3
    exact ⟨y0, m + m2 + 1, L ++ (-1 - c) :: L2, Or.inr (Or.inr (Or.inr (Or.inr (Or.inr (Or.inl ⟨by omega, by omega, hjn, _, L, L2, tr_em_up g4 (by omega), tr_em_up y1 (by omega), by rw [hT]⟩))))), y2, y3⟩
theorem sx_Ev_ok {A : List Nat} {w o f r a u e : sx_E} {F : Nat} {j : Int} (hd : sx_d P sx_TGm σ φ D) (H : sx_eH σ X T V nx E Q) (hF : sx_ev σ f = (F : Int)) (hw : 0 ≤ sx_ev σ w ∧ sx_ev σ w ≤ 4) (h : sx_Ev P D X A w o f r a u e = true) : tr_ems T V nx (E A) (sx_ev σ w) j (sx_ev σ o) (F : Int) (sx_ev σ r) (sx_ev σ a) (sx_ev σ u) (sx_ev σ e) := by
  intro hr
  have nj : tr_nj (sx_ev σ w) j = 0 := tr_nj0 (by omega) (by omega)
  unfold sx_Ev at h
  rw [Bool.or_eq_true] at h
  rcases h with h | h
  · rw [Bool.and_eq_true, Bool.and_eq_true, Bool.and_eq_true] at h
    obtain ⟨⟨k1, k2⟩, k3, h⟩ := h
    have ew := (sx_eqp_ok hd k1).trans sx_ev_k
    have hT := sx_pH_T H.1 k2
    rw [hF, tr_nn] at hT
    have ho := sx_ge_ok hd k3
    rw [sx_ev_pk, sx_ev_ng] at ho
    obtain ⟨h', hh, hx⟩ := sx_any_ok h
    simp only [Bool.and_eq_true] at hx
    obtain ⟨x1, x2, x3, x4⟩ := hx
    obtain ⟨g1, g2, g3, m, L, g4, g5, g6⟩ := sx_ea_ok hd H hh x1
    rw [sx_ev_k, sx_ev_pk, sx_pH_x H.1 hF x2, tr_nn, tr_nj0 (by omega) (by omega), sx_eqp_ok hd x3] at g4
    obtain ⟨U, hU⟩ : ∃ U : Nat, sx_ev σ u = (U : Int) := ⟨(sx_ev σ u).toNat, by omega⟩
    rw [hU, tr_nn] at g6
    rw [hU] at g5
    obtain ⟨y1, y2⟩ := sx_etk_ok (c := 268) hd H (Or.inr rfl) g5 g6 x4
    rw [sx_eqp_ok hd x3] at g2
    refine ⟨by omega, g2, by omega, m + 1, L ++ [-1 - 268], ?_, by omega, by rw [hU, tr_nn]; exact y2⟩
    rw [nj, tr_nn]
    exact Or.inr (Or.inr (Or.inr (Or.inr (Or.inr (Or.inr (Or.inl ⟨ew, hT, by omega, L, g4, rfl⟩))))))
  · rw [Bool.and_eq_true, Bool.or_eq_true] at h
    obtain ⟨h1, h⟩ := h
    have hn : ¬ (sx_ev σ w = 2 ∧ T F = 268) := fun z => by
      rcases h1 with h1 | h1
      · have := sx_nzb_ok hd h1
        rw [sx_ev_pk] at this
        omega
      · have := sx_pH_F H.1 h1
        rw [hF, tr_nn] at this
        exact this z.2
    obtain ⟨h', hh, hx⟩ := sx_any_ok h
    rw [Bool.and_eq_true, Bool.and_eq_true, Bool.or_eq_true] at hx
    obtain ⟨⟨x1, x2⟩, hx⟩ := hx
    obtain ⟨g1, g2, g3, m, L, g4, g5, g6⟩ := sx_ea_ok hd H hh x1
    rw [sx_ev_pk, sx_eqp_ok hd x2, hF, tr_nn, tr_nj0 (by omega) (by omega)] at g4
    obtain ⟨B, hB⟩ : ∃ B : Nat, sx_ev σ (sx_e2 h') = (B : Int) := ⟨(sx_ev σ (sx_e2 h')).toNat, by omega⟩
    rw [hB, tr_nn] at g4
    obtain ⟨U, hU⟩ : ∃ U : Nat, sx_ev σ u = (U : Int) := ⟨(sx_ev σ u).toNat, by omega⟩
    rw [hU, tr_nn] at g6
    rw [hU] at g5
    rcases hx with hx | hx
    · rw [Bool.and_eq_true] at hx
      have ew := (sx_eqp_ok hd hx.1).trans sx_ev_k
      obtain ⟨y0, m2, L2, y1, y2, y3⟩ := sx_El_ok (by omega) hd H hr hB g5 g6 hx.2
      rw [sx_ev_k, show (10 : Int) + ((2 : Nat) : Int) = sx_ev σ w + 10 by omega] at y1
      have z0 : tr_nj (sx_ev σ w + 10) 0 = 0 := by
        unfold tr_nj
        split <;> rfl
      rw [z0] at y1
      refine ⟨by omega, y0, by omega, m + m2 + 1, L ++ L2, ?_, by rw [hU]; exact y2, by rw [hU, tr_nn]; exact y3⟩
      rw [nj, tr_nn]
      exact Or.inr (Or.inr (Or.inr (Or.inr (Or.inr (Or.inr (Or.inr ⟨hw.1, hw.2, hn, B, L, L2, tr_em_up g4 (by omega), tr_em_up y1 (by omega), rfl⟩))))))
    · obtain ⟨h2, hh2, hy⟩ := sx_any_ok hx
      simp only [Bool.and_eq_true] at hy
      obtain ⟨y1, ⟨y2, y3⟩, y4⟩ := hy
      obtain ⟨f1, f2, f3, m2, L2, f4, f5, f6⟩ := sx_eb_ok hd H hh2 y1 hr
      rw [sx_ev_pk, (sx_eqp_ok hd y2).trans sx_ev_k, sx_eqp_ok hd y3, hB, tr_nn] at f4
      have z0 : tr_nj (sx_ev σ w + 10) 0 = 0 := by
        unfold tr_nj
        split <;> rfl
      rw [z0] at f4
      have hfr := H.2.2.2.2.2.2.1 _ _ _ y4
      refine ⟨by omega, f2, by omega, m + m2 + 1, L ++ L2, ?_, ?_, ?_⟩
      · rw [nj, tr_nn]
        exact Or.inr (Or.inr (Or.inr (Or.inr (Or.inr (Or.inr (Or.inr ⟨hw.1, hw.2, hn, B, L, L2, tr_em_up g4 (by omega), tr_em_up f4 (by omega), rfl⟩))))))
      · rw [List.length_append]
        omega
      · rw [hU, tr_nn]
        refine tr_sw_app.mpr ⟨tr_sw_cg (fun c i z1 z2 => hfr c i (by omega)) g6, ?_⟩
        rw [show U + L.length = (sx_ev σ (sx_e1 h')).toNat by omega]
        exact f6
theorem sx_EA_ok {A : List Nat} {w j o f r a u e : sx_E} (hd : sx_d P sx_TGm σ φ D) (H : sx_eH σ X T V nx E Q) (h : sx_EA P D X A w j o f r a u e = true) : tr_ems T V nx (E A) (sx_ev σ w) (sx_ev σ j) (sx_ev σ o) (sx_ev σ f) (sx_ev σ r) (sx_ev σ a) (sx_ev σ u) (sx_ev σ e) := by
  unfold sx_EA at h
  rw [Bool.or_eq_true, Bool.or_eq_true] at h
  rcases h with h | h | h
  · intro z
    have := sx_nzb_ok hd h
    rw [sx_ev_pk] at this
    omega
  · obtain ⟨h', hh, hx⟩ := sx_any_ok h
    rw [Bool.and_eq_true, Bool.and_eq_true] at hx
    have := sx_eb_ok hd H hh hx.1
    rw [sx_eqp_ok hd hx.2.1, sx_eqp_ok hd hx.2.2] at this
    exact this
  · rw [Bool.and_eq_true] at h
    obtain ⟨h0, h⟩ := h
    have hf := sx_ge_ok hd h0
    obtain ⟨F, hF⟩ : ∃ F : Nat, sx_ev σ f = (F : Int) := ⟨(sx_ev σ f).toNat, by omega⟩
    rw [hF]
    rw [Bool.or_eq_true, Bool.or_eq_true] at h
    rcases h with h | h | h
    · rw [Bool.and_eq_true] at h
      rw [(sx_eqp_ok hd h.1).trans sx_ev_k]
      exact sx_E5_ok hd H hF h.2
    · rw [Bool.and_eq_true, Bool.and_eq_true] at h
      have w1 := sx_ge_ok hd h.1.1
      have w2 := sx_ge_ok hd h.1.2
      rw [sx_ev_pk, sx_ev_ng] at w2
      exact sx_Ev_ok hd H hF (by omega) h.2
    · rw [Bool.and_eq_true, Bool.and_eq_true, Bool.or_eq_true] at h
      obtain ⟨⟨k1, k2⟩, h⟩ := h
      have w1 := sx_ge_ok hd k1
      have w2 := sx_ge_ok hd k2
      rw [sx_ev_pk] at w1 w2
      rw [sx_ev_ng] at w2
      rcases h with h | h
      · rw [Bool.and_eq_true, Bool.and_eq_true, Bool.and_eq_true] at h
        obtain ⟨h3, k3, k4, k5⟩ := h
        have e1 := sx_eqp_ok hd k3
        have e2 := sx_eqp_ok hd k4
        have e3 := sx_ge_ok hd k5
        intro _
        refine ⟨by omega, by omega, e3, 1, [], Or.inr (Or.inr (Or.inr (Or.inr (Or.inl ⟨by omega, by omega, ?_, by omega, rfl⟩)))), by show sx_ev σ e = sx_ev σ u + ((0 : Nat) : Int); omega, trivial⟩
        rw [tr_nn]
        cases hb : tr_jn (sx_ev σ w) (tr_nj (sx_ev σ w) (sx_ev σ j)) (T F) with
        | false => rfl
        | true =>
          have h1 : T F ∈ sx_jal := by
            unfold tr_jn at hb
            rw [decide_eq_true_eq] at hb
            unfold sx_jal
            simp only [List.mem_cons, List.not_mem_nil, or_false]
            omega
          have h2 := sx_pH_F H.1 (sx_ql_ok h3 _ h1)
          rw [hF, tr_nn] at h2
          exact absurd rfl h2
      · obtain ⟨lv, hlv, h⟩ := sx_any_ok h
        rw [Bool.and_eq_true] at h
        rw [(sx_eqp_ok hd h.1).trans sx_ev_k]
        simp only [List.mem_cons, List.not_mem_nil, or_false] at hlv
        exact sx_Em_ok (by omega) hd H hF h.2
end SXEM
