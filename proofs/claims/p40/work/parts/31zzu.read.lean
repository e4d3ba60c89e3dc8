/-! TEXTS: reading, the fault of a tape, the text of a day -/
section SXRP
variable {P : sx_P} {σ : Nat → Int} {φ : sx_R} {D : sx_D} {X : sx_KD} {T : Nat → Int} {nx : Nat → Nat}
def sx_pH (σ : Nat → Int) (X : sx_KD) (T : Nat → Int) (nx : Nat → Nat) : Prop :=
  (∀ f e b, X.1 f e = some b → (b = true → T (sx_ev σ f).toNat = sx_ev σ e) ∧ (b = false → ¬ T (sx_ev σ f).toNat = sx_ev σ e)) ∧
  (∀ f b, X.2.1 f = some b → (b = true → 256 ≤ T (sx_ev σ f).toNat ∧ T (sx_ev σ f).toNat ≤ 261) ∧ (b = false → ¬ (256 ≤ T (sx_ev σ f).toNat ∧ T (sx_ev σ f).toNat ≤ 261))) ∧
  (∀ f f1, X.2.2.1 f f1 = true → 0 ≤ sx_ev σ f → sx_ev σ f1 = (nx (sx_ev σ f).toNat : Int)) ∧
  ∀ g ∈ X.2.2.2, tr_ps T nx (sx_ev σ g.1) (sx_ev σ g.2.1) (sx_ev σ g.2.2.1) (sx_ev σ g.2.2.2.1) (sx_ev σ g.2.2.2.2.1) (sx_ev σ g.2.2.2.2.2)
theorem sx_pH_T (H : sx_pH σ X T nx) {f : sx_E} {c : Int} (h : sx_isT (X.1 f (sx_k c)) = true) : T (sx_ev σ f).toNat = c := ((H.1 _ _ _ (sx_isT_ok h)).1 rfl).trans sx_ev_k
theorem sx_pH_F (H : sx_pH σ X T nx) {f : sx_E} {c : Int} (h : sx_isF (X.1 f (sx_k c)) = true) : ¬ T (sx_ev σ f).toNat = c := fun z => (H.1 _ _ _ (sx_isF_ok h)).2 rfl (z.trans sx_ev_k.symm)
theorem sx_pH_x (H : sx_pH σ X T nx) {f f1 : sx_E} {a : Nat} (hf : sx_ev σ f = (a : Int)) (h : X.2.2.1 f f1 = true) : sx_ev σ f1 = (nx a : Int) := by
  have := H.2.2.1 f f1 h (by omega)
  rw [hf, tr_nn] at this
  exact this
theorem sx_p0_ok {r a f : sx_E} (hd : sx_d P sx_TGm σ φ D) (h : sx_p0 P D r a f = true) : sx_ev σ r = 0 ∧ sx_ev σ a = sx_ev σ f := by
  unfold sx_p0 at h
  rw [Bool.and_eq_true] at h
  exact ⟨(sx_eqp_ok hd h.1).trans sx_ev_k, sx_eqp_ok hd h.2⟩
theorem sx_p1_ok {r a f : sx_E} (hd : sx_d P sx_TGm σ φ D) (h : sx_p1 P D r a f = true) : sx_ev σ r = 1 ∧ sx_ev σ a = sx_ev σ f := by
  unfold sx_p1 at h
  rw [Bool.and_eq_true] at h
  exact ⟨(sx_eqp_ok hd h.1).trans sx_ev_k, sx_eqp_ok hd h.2⟩
theorem sx_pR_ok {g : sx_G} {r a : sx_E} (hd : sx_d P sx_TGm σ φ D) (h : sx_pR P D g r a = true) : sx_ev σ g.2.2.2.2.1 = sx_ev σ r ∧ sx_ev σ g.2.2.2.2.2 = sx_ev σ a := by
  unfold sx_pR at h
  rw [Bool.and_eq_true] at h
  exact ⟨sx_eqp_ok hd h.1, sx_eqp_ok hd h.2⟩
theorem sx_plk_ok {w j o f r a : sx_E} {g : sx_G} (hd : sx_d P sx_TGm σ φ D) (H : sx_pH σ X T nx) (hg : g ∈ X.2.2.2) (h : sx_plk P D w j o f r a g = true) : tr_ps T nx (sx_ev σ w) (sx_ev σ j) (sx_ev σ o) (sx_ev σ f) (sx_ev σ r) (sx_ev σ a) := by
  unfold sx_plk at h
  simp only [Bool.and_eq_true] at h
  obtain ⟨⟨k1, k2, k3⟩, k4, k5⟩ := h
  obtain ⟨e5, e6⟩ := sx_pR_ok hd k5
  have hG := H.2.2.2 g hg
  rw [sx_eqp_ok hd k1, sx_eqp_ok hd k2, sx_eqp_ok hd k3, sx_eqp_ok hd k4, e5, e6] at hG
  exact hG
theorem sx_p5_ok {o f r a : sx_E} {j : Int} (hd : sx_d P sx_TGm σ φ D) (H : sx_pH σ X T nx) (hf : 0 ≤ sx_ev σ f) (h : sx_p5 P D X o f r a = true) : tr_ps T nx 5 j (sx_ev σ o) (sx_ev σ f) (sx_ev σ r) (sx_ev σ a) := by
  obtain ⟨F, hF⟩ : ∃ F : Nat, sx_ev σ f = (F : Int) := ⟨(sx_ev σ f).toNat, by omega⟩
  have hT : ∀ {c : Int}, sx_isT (X.1 f (sx_k c)) = true → T F = c := fun {c} z => by
    have := sx_pH_T H z
    rw [hF, tr_nn] at this
    exact this
  have hN : ∀ {c : Int}, sx_isF (X.1 f (sx_k c)) = true → ¬ T F = c := fun {c} z => by
    have := sx_pH_F H z
    rw [hF, tr_nn] at this
    exact this
  unfold sx_p5 at h
  rw [hF]
  rw [Bool.or_eq_true, Bool.or_eq_true] at h
  rcases h with h | h | h
  · rw [Bool.and_eq_true, Bool.or_eq_true, Bool.and_eq_true] at h
    obtain ⟨h1, h2, h3⟩ := h
    have hn : T F = 2 ∨ (256 ≤ T F ∧ T F ≤ 261) := by
      rcases h1 with h1 | h1
      · exact Or.inl (hT h1)
      · have := (H.2.1 _ _ (sx_isT_ok h1)).1 rfl
        rw [hF, tr_nn] at this
        exact Or.inr this
    rw [(sx_eqp_ok hd h2).trans sx_ev_k, sx_pH_x H hF h3]
    exact tr_ps_one hn
  · simp only [Bool.and_eq_true, Bool.or_eq_true] at h
    obtain ⟨⟨h1, h2⟩, h3, h4⟩ := h
    obtain ⟨e1, e2⟩ := sx_p0_ok hd h4
    have hn : ¬ (T F = 2 ∨ (256 ≤ T F ∧ T F ≤ 261)) := fun z => by
      rcases z with z | z
      · exact hN h1 z
      · have := (H.2.1 _ _ (sx_isF_ok h2)).2 rfl
        rw [hF, tr_nn] at this
        exact this z
    have h5 : 5 ≤ sx_ev σ o ∨ (¬ T F = 40 ∧ ¬ T F = 45) := by
      rcases h3 with h3 | h3
      · have := sx_ge_ok hd h3
        rw [sx_ev_pk] at this
        exact Or.inl (by omega)
      · exact Or.inr ⟨hN h3.1, hN h3.2⟩
    rw [e1, e2, hF]
    exact tr_ps_no hn h5
  · rw [Bool.and_eq_true, Bool.or_eq_true] at h
    obtain ⟨h0, h⟩ := h
    have ho := sx_ge_ok hd h0
    rw [sx_ev_pk, sx_ev_ng] at ho
    rcases h with h | h
    · rw [Bool.and_eq_true] at h
      have h40 := hT h.1
      obtain ⟨g, hg, h⟩ := sx_any_ok h.2
      unfold sx_p5a at h
      simp only [Bool.and_eq_true, Bool.or_eq_true] at h
      obtain ⟨⟨k1, k2, k3⟩, h⟩ := h
      have hG := H.2.2.2 g hg
      rw [(sx_eqp_ok hd k1).trans sx_ev_k, (sx_eqp_ok hd k2).trans sx_ev_pk] at hG
      have hpar := tr_ps_par (j := j) (by omega) h40 hG (sx_pH_x H hF k3)
      obtain ⟨B, hB⟩ : ∃ B : Nat, sx_ev σ g.2.2.2.2.2 = (B : Int) := ⟨(sx_ev σ g.2.2.2.2.2).toNat, by have := hG.2.1; omega⟩
      rcases h with ⟨c1, c2⟩ | ⟨c1, c2⟩
      · obtain ⟨e1, e2⟩ := sx_p0_ok hd c2
        rw [e1, e2]
        exact hpar.1 ((sx_eqp_ok hd c1).trans sx_ev_k)
      · have er := (sx_eqp_ok hd c1).trans sx_ev_k
        rcases c2 with ⟨c2, c3, c4⟩ | ⟨c2, c3⟩
        · rw [(sx_eqp_ok hd c3).trans sx_ev_k, sx_pH_x H hB c4]
          have := hpar.2.1 er (sx_pH_T H c2)
          rw [hB, tr_nn] at this
          exact this
        · obtain ⟨e1, e2⟩ := sx_p0_ok hd c3
          rw [e1, e2]
          exact hpar.2.2 er (sx_pH_F H c2)
    · rw [Bool.and_eq_true] at h
      have h45 := hT h.1
      obtain ⟨g, hg, h⟩ := sx_any_ok h.2
      unfold sx_p5b at h
      simp only [Bool.and_eq_true] at h
      obtain ⟨⟨k1, k2, k3⟩, k4⟩ := h
      obtain ⟨e5, e6⟩ := sx_pR_ok hd k4
      have hG := H.2.2.2 g hg
      rw [(sx_eqp_ok hd k1).trans sx_ev_k, (sx_eqp_ok hd k2).trans sx_ev_pk, e5, e6] at hG
      exact tr_ps_min (by omega) h45 hG (sx_pH_x H hF k3)
theorem tr_jn_iff : ∀ {lv : Nat}, lv ≤ 4 → ∀ {J t : Int}, tr_jn (10 + (lv : Int)) (tr_nj (10 + (lv : Int)) J) t = true ↔ (t ∈ sx_jl lv ∧ (lv = 2 → J = 0))
  | 0, _, J, t => by
    have e : tr_jn (10 + ((0 : Nat) : Int)) (tr_nj (10 + ((0 : Nat) : Int)) J) t = true ↔ t = 266 := by
      unfold tr_jn
      rw [decide_eq_true_eq]
      omega
    exact e.trans ⟨fun h => ⟨List.mem_singleton.mpr h, fun z => by omega⟩, fun h => List.mem_singleton.mp h.1⟩
  | 1, _, J, t => by
    have e : tr_jn (10 + ((1 : Nat) : Int)) (tr_nj (10 + ((1 : Nat) : Int)) J) t = true ↔ t = 267 := by
      unfold tr_jn
      rw [decide_eq_true_eq]
      omega
    exact e.trans ⟨fun h => ⟨List.mem_singleton.mpr h, fun z => by omega⟩, fun h => List.mem_singleton.mp h.1⟩
  | 2, _, J, t => by
    have e0 : tr_nj (10 + ((2 : Nat) : Int)) J = J := if_pos (by omega)
    have e : tr_jn (10 + ((2 : Nat) : Int)) (tr_nj (10 + ((2 : Nat) : Int)) J) t = true ↔ (J = 0 ∧ (t = 60 ∨ t = 61)) := by
      unfold tr_jn
      rw [decide_eq_true_eq, e0]
      omega
    exact e.trans ⟨fun h => ⟨List.mem_cons.mpr (h.2.imp_right List.mem_singleton.mpr), fun _ => h.1⟩, fun h => ⟨h.2 rfl, (List.mem_cons.mp h.1).imp_right List.mem_singleton.mp⟩⟩
  | 3, _, J, t => by
    have e : tr_jn (10 + ((3 : Nat) : Int)) (tr_nj (10 + ((3 : Nat) : Int)) J) t = true ↔ (t = 43 ∨ t = 45) := by
      unfold tr_jn
      rw [decide_eq_true_eq]
      omega
    exact e.trans ⟨fun h => ⟨List.mem_cons.mpr (h.imp_right List.mem_singleton.mpr), fun z => by omega⟩, fun h => (List.mem_cons.mp h.1).imp_right List.mem_singleton.mp⟩
  | 4, _, J, t => by
    have e : tr_jn (10 + ((4 : Nat) : Int)) (tr_nj (10 + ((4 : Nat) : Int)) J) t = true ↔ t = 42 := by
      unfold tr_jn
      rw [decide_eq_true_eq]
      omega
    exact e.trans ⟨fun h => ⟨List.mem_singleton.mpr h, fun z => by omega⟩, fun h => List.mem_singleton.mp h.1⟩
  | n + 5, h, _, _ => absurd h (by omega)
theorem sx_pL_ok {lv : Nat} (hlv : lv ≤ 4) {j o f r a : sx_E} (hd : sx_d P sx_TGm σ φ D) (H : sx_pH σ X T nx) (hf : 0 ≤ sx_ev σ f) (h : sx_pL P D X lv j o f r a = true) : tr_ps T nx (10 + (lv : Int)) (sx_ev σ j) (sx_ev σ o) (sx_ev σ f) (sx_ev σ r) (sx_ev σ a) := by
  obtain ⟨F, hF⟩ : ∃ F : Nat, sx_ev σ f = (F : Int) := ⟨(sx_ev σ f).toNat, by omega⟩
  unfold sx_pL at h
  rw [hF]
  rw [Bool.or_eq_true] at h
  rcases h with h | h
  · rw [Bool.and_eq_true] at h
    obtain ⟨e1, e2⟩ := sx_p1_ok hd h.2
    rw [e1, e2, hF]
    refine tr_ps_end (by omega) ?_
    cases hb : tr_jn (10 + (lv : Int)) (tr_nj (10 + (lv : Int)) (sx_ev σ j)) (T F) with
    | false => rfl
    | true =>
      obtain ⟨h1, h2⟩ := (tr_jn_iff hlv).mp hb
      have h3 := h.1
      rw [Bool.or_eq_true] at h3
      rcases h3 with h3 | h3
      · have h4 := sx_pH_F H (sx_ql_ok h3 _ h1)
        rw [hF, tr_nn] at h4
        exact absurd rfl h4
      · rw [Bool.and_eq_true] at h3
        have h4 := h2 (Nat.eq_of_beq_eq_true h3.1)
        have h5 := sx_ge_ok hd h3.2
        rw [sx_ev_pk] at h5
        omega
  · rw [Bool.and_eq_true, Bool.and_eq_true] at h
    obtain ⟨⟨h1, h2⟩, h3⟩ := h
    obtain ⟨c, c1, c2⟩ := sx_any_ok h1
    have h4 := sx_pH_T H c2
    rw [hF, tr_nn] at h4
    have hj0 : lv = 2 → sx_ev σ j = 0 := fun z => by
      rw [Bool.or_eq_true] at h2
      rcases h2 with h2 | h2
      · rw [z] at h2
        have h2 : false = true := h2
        cases h2
      · exact (sx_eqp_ok hd h2).trans sx_ev_k
    have hjn : tr_jn (10 + (lv : Int)) (tr_nj (10 + (lv : Int)) (sx_ev σ j)) (T F) = true := (tr_jn_iff hlv).mpr ⟨by rw [h4]; exact c1, hj0⟩
    obtain ⟨g, hg, h⟩ := sx_any_ok h3
    unfold sx_pLa at h
    simp only [Bool.and_eq_true, Bool.or_eq_true] at h
    obtain ⟨⟨k1, k2, k3⟩, h⟩ := h
    have hG := H.2.2.2 g hg
    rw [(sx_eqp_ok hd k1).trans sx_ev_k, sx_eqp_ok hd k2, show (lv : Int) + 1 = 10 + (lv : Int) - 9 by omega] at hG
    have hj := tr_ps_join (j := sx_ev σ j) (by omega) hjn hG (sx_pH_x H hF k3)
    obtain ⟨B, hB⟩ : ∃ B : Nat, sx_ev σ g.2.2.2.2.2 = (B : Int) := ⟨(sx_ev σ g.2.2.2.2.2).toNat, by have := hG.2.1; omega⟩
    rcases h with ⟨c1, c2⟩ | ⟨c1, c2⟩
    · obtain ⟨e1, e2⟩ := sx_p0_ok hd c2
      rw [e1, e2]
      exact hj.1 ((sx_eqp_ok hd c1).trans sx_ev_k)
    · have er := (sx_eqp_ok hd c1).trans sx_ev_k
      rcases c2 with ⟨c2, c3⟩ | c2
      · have h22 := Nat.eq_of_beq_eq_true c2
        obtain ⟨e1, e2⟩ := sx_p1_ok hd c3
        rw [e1, e2]
        have hz := hj0 h22
        refine hj.2 er (j'' := sx_ev σ j + 1) ?_ (fun _ => rfl)
        rw [hB]
        refine tr_ps_end (by omega) ?_
        cases hb : tr_jn (10 + (lv : Int)) (tr_nj (10 + (lv : Int)) (sx_ev σ j + 1)) (T B) with
        | false => rfl
        | true =>
          have := ((tr_jn_iff hlv).mp hb).2 h22
          omega
      · obtain ⟨h', hh', hb⟩ := sx_any_ok c2
        unfold sx_pLb at hb
        simp only [Bool.and_eq_true] at hb
        obtain ⟨⟨k5, k6, k7⟩, k8, k9⟩ := hb
        obtain ⟨e5, e6⟩ := sx_pR_ok hd k9
        have hG' := H.2.2.2 h' hh'
        rw [(sx_eqp_ok hd k5).trans sx_ev_k, sx_eqp_ok hd k7, sx_eqp_ok hd k8, e5, e6] at hG'
        refine hj.2 er hG' (fun z => ?_)
        rw [Bool.or_eq_true] at k6
        rcases k6 with k6 | k6
        · rw [show lv = 2 by omega] at k6
          have k6 : false = true := k6
          cases k6
        · exact (sx_eqp_ok hd k6).trans sx_ev_pk
theorem sx_pV_ok {w o f r a : sx_E} {j : Int} (hd : sx_d P sx_TGm σ φ D) (H : sx_pH σ X T nx) (hf : 0 ≤ sx_ev σ f) (hw : 0 ≤ sx_ev σ w ∧ sx_ev σ w ≤ 4) (h : sx_pV P D X w o f r a = true) : tr_ps T nx (sx_ev σ w) j (sx_ev σ o) (sx_ev σ f) (sx_ev σ r) (sx_ev σ a) := by
  obtain ⟨F, hF⟩ : ∃ F : Nat, sx_ev σ f = (F : Int) := ⟨(sx_ev σ f).toNat, by omega⟩
  unfold sx_pV at h
  rw [Bool.or_eq_true] at h
  rcases h with h | h
  · simp only [Bool.and_eq_true, Bool.or_eq_true] at h
    obtain ⟨⟨h1, h2⟩, h⟩ := h
    have hT := sx_pH_T H h2
    rw [hF, tr_nn] at hT
    rw [(sx_eqp_ok hd h1).trans sx_ev_k, hF]
    rcases h with ⟨h3, h4⟩ | ⟨h3, h4⟩
    · obtain ⟨e1, e2⟩ := sx_p0_ok hd h4
      have ho := sx_ge_ok hd h3
      rw [sx_ev_pk] at ho
      rw [e1, e2, hF]
      exact tr_ps_not0 (by omega) hT
    · have ho := sx_ge_ok hd h3
      rw [sx_ev_pk, sx_ev_ng] at ho
      obtain ⟨g, hg, h⟩ := sx_any_ok h4
      unfold sx_p5b at h
      simp only [Bool.and_eq_true] at h
      obtain ⟨⟨k1, k2, k3⟩, k4⟩ := h
      obtain ⟨e5, e6⟩ := sx_pR_ok hd k4
      have hG := H.2.2.2 g hg
      rw [(sx_eqp_ok hd k1).trans sx_ev_k, (sx_eqp_ok hd k2).trans sx_ev_pk, e5, e6] at hG
      exact tr_ps_not (by omega) hT hG (sx_pH_x H hF k3)
  · rw [Bool.and_eq_true, Bool.or_eq_true] at h
    obtain ⟨h1, h2⟩ := h
    have hn : ¬ (sx_ev σ w = 2 ∧ T F = 268) := fun z => by
      rcases h1 with h1 | h1
      · have := sx_nzb_ok hd h1
        rw [sx_ev_pk] at this
        omega
      · have := sx_pH_F H h1
        rw [hF, tr_nn] at this
        exact this z.2
    obtain ⟨g, hg, h⟩ := sx_any_ok h2
    unfold sx_pVa at h
    simp only [Bool.and_eq_true, Bool.or_eq_true] at h
    obtain ⟨⟨k1, k2, k3⟩, h⟩ := h
    have hG := H.2.2.2 g hg
    rw [(sx_eqp_ok hd k1).trans sx_ev_pk, sx_eqp_ok hd k2, sx_eqp_ok hd k3, hF] at hG
    rw [hF]
    have hl := tr_ps_lev (j := j) hw hn hG
    rcases h with ⟨c1, c2⟩ | ⟨c1, c2⟩
    · obtain ⟨e1, e2⟩ := sx_p0_ok hd c2
      rw [e1, e2]
      exact hl.1 ((sx_eqp_ok hd c1).trans sx_ev_k)
    · have er := (sx_eqp_ok hd c1).trans sx_ev_k
      rcases c2 with ⟨c2, c3⟩ | c2
      · have e2 := (sx_eqp_ok hd c2).trans sx_ev_k
        have hL := sx_pL_ok (lv := 2) (by omega) hd H hG.2.1 c3
        rw [sx_ev_k, show (10 : Int) + ((2 : Nat) : Int) = sx_ev σ w + 10 by omega] at hL
        exact hl.2 er hL (fun _ => rfl)
      · obtain ⟨h', hh', hb⟩ := sx_any_ok c2
        unfold sx_pVb at hb
        simp only [Bool.and_eq_true] at hb
        obtain ⟨⟨k5, k6, k7⟩, k8, k9⟩ := hb
        obtain ⟨e5, e6⟩ := sx_pR_ok hd k9
        have hG' := H.2.2.2 h' hh'
        rw [(sx_eqp_ok hd k5).trans sx_ev_pk, (sx_eqp_ok hd k6).trans sx_ev_k, sx_eqp_ok hd k7, sx_eqp_ok hd k8, e5, e6] at hG'
        exact hl.2 er hG' (fun _ => rfl)
theorem sx_pT_ok {j f r a : sx_E} {o : Int} (hd : sx_d P sx_TGm σ φ D) (H : sx_pH σ X T nx) (hf : 0 ≤ sx_ev σ f) (h : sx_pT P D X j f r a = true) : tr_ps T nx 7 (sx_ev σ j) o (sx_ev σ f) (sx_ev σ r) (sx_ev σ a) := by
  obtain ⟨F, hF⟩ : ∃ F : Nat, sx_ev σ f = (F : Int) := ⟨(sx_ev σ f).toNat, by omega⟩
  unfold sx_pT at h
  rw [Bool.or_eq_true] at h
  rcases h with h | h
  · simp only [Bool.and_eq_true, Bool.or_eq_true] at h
    obtain ⟨h1, h⟩ := h
    have ej := (sx_eqp_ok hd h1).trans sx_ev_k
    rw [hF]
    rcases h with ⟨h2, h3⟩ | ⟨h2, h3⟩
    · obtain ⟨e1, e2⟩ := sx_p1_ok hd h3
      have hT := sx_pH_T H h2
      rw [hF, tr_nn] at hT
      rw [e1, e2, hF]
      exact (tr_ps_t4 (by omega)).1 hT
    · obtain ⟨e1, e2⟩ := sx_p0_ok hd h3
      have hT := sx_pH_F H h2
      rw [hF, tr_nn] at hT
      rw [e1, e2, hF]
      exact (tr_ps_t4 (by omega)).2 hT
  · rw [Bool.and_eq_true, Bool.and_eq_true] at h
    obtain ⟨⟨h1, h2⟩, h⟩ := h
    have j1 := sx_ge_ok hd h1
    have j2 := sx_ge_ok hd h2
    rw [sx_ev_pk, sx_ev_ng] at j2
    rw [hF]
    rw [Bool.or_eq_true, Bool.and_eq_true, Bool.and_eq_true] at h
    rcases h with ⟨h3, h4⟩ | ⟨h3, h4⟩
    · obtain ⟨e1, e2⟩ := sx_p0_ok hd h4
      have hT := (H.1 _ _ _ (sx_isF_ok h3)).2 rfl
      rw [hF, tr_nn, sx_ev_pk] at hT
      rw [e1, e2, hF]
      exact tr_ps_t0 (by omega) (by omega)
    · have hT := (H.1 _ _ _ (sx_isT_ok h3)).1 rfl
      rw [hF, tr_nn, sx_ev_pk] at hT
      obtain ⟨g, hg, h⟩ := sx_any_ok h4
      unfold sx_pTa at h
      simp only [Bool.and_eq_true, Bool.or_eq_true] at h
      obtain ⟨⟨k1, k2, k3⟩, h⟩ := h
      have hG := H.2.2.2 g hg
      rw [(sx_eqp_ok hd k1).trans sx_ev_k, (sx_eqp_ok hd k2).trans sx_ev_k] at hG
      have hl := tr_ps_t1 (j := sx_ev σ j) (o := o) (by omega) (by omega) hG (sx_pH_x H hF k3)
      obtain ⟨B, hB⟩ : ∃ B : Nat, sx_ev σ g.2.2.2.2.2 = (B : Int) := ⟨(sx_ev σ g.2.2.2.2.2).toNat, by have := hG.2.1; omega⟩
      rcases h with ⟨c1, c2⟩ | ⟨c1, c2⟩
      · obtain ⟨e1, e2⟩ := sx_p0_ok hd c2
        rw [e1, e2]
        exact hl.1 ((sx_eqp_ok hd c1).trans sx_ev_k)
      · have er := (sx_eqp_ok hd c1).trans sx_ev_k
        rcases c2 with ⟨c2, c3⟩ | ⟨c2, c3⟩
        · obtain ⟨e1, e2⟩ := sx_p0_ok hd c3
          rw [e1, e2]
          exact hl.2.1 er (sx_pH_F H c2)
        · obtain ⟨h', hh', hb⟩ := sx_any_ok c3
          unfold sx_pTb at hb
          simp only [Bool.and_eq_true] at hb
          obtain ⟨⟨k5, k6, k7⟩, k8, k9⟩ := hb
          obtain ⟨e5, e6⟩ := sx_pR_ok hd k9
          have hG' := H.2.2.2 h' hh'
          rw [(sx_eqp_ok hd k5).trans sx_ev_k, (sx_eqp_ok hd k6).trans sx_ev_pk, (sx_eqp_ok hd k7).trans sx_ev_k, e5, e6] at hG'
          refine hl.2.2 er (sx_pH_T H c2) hG' ?_
          rw [hB, tr_nn]
          exact sx_pH_x H hB k8
theorem sx_pA_ok {w j o f r a : sx_E} (hd : sx_d P sx_TGm σ φ D) (H : sx_pH σ X T nx) (h : sx_pA P D X w j o f r a = true) : tr_ps T nx (sx_ev σ w) (sx_ev σ j) (sx_ev σ o) (sx_ev σ f) (sx_ev σ r) (sx_ev σ a) := by
  unfold sx_pA at h
  rw [Bool.or_eq_true] at h
  rcases h with h | h
  · obtain ⟨g, hg, h⟩ := sx_any_ok h
    exact sx_plk_ok hd H hg h
  · rw [Bool.and_eq_true] at h
    obtain ⟨h0, h⟩ := h
    have hf := sx_ge_ok hd h0
    rw [Bool.or_eq_true, Bool.or_eq_true, Bool.or_eq_true] at h
    rcases h with h | h | h | h
    · rw [Bool.and_eq_true] at h
      rw [(sx_eqp_ok hd h.1).trans sx_ev_k]
      exact sx_p5_ok hd H hf h.2
    · rw [Bool.and_eq_true, Bool.and_eq_true] at h
      have w1 := sx_ge_ok hd h.1.1
      have w2 := sx_ge_ok hd h.1.2
      rw [sx_ev_pk, sx_ev_ng] at w2
      exact sx_pV_ok hd H hf (by omega) h.2
    · rw [Bool.and_eq_true] at h
      rw [(sx_eqp_ok hd h.1).trans sx_ev_k]
      exact sx_pT_ok hd H hf h.2
    · rw [Bool.and_eq_true, Bool.and_eq_true, Bool.or_eq_true] at h
      obtain ⟨⟨k1, k2⟩, h⟩ := h
      have w1 := sx_ge_ok hd k1
      have w2 := sx_ge_ok hd k2
      rw [sx_ev_pk] at w1 w2
      rw [sx_ev_ng] at w2
      rcases h with h | h
      · rw [Bool.and_eq_true] at h
        obtain ⟨e1, e2⟩ := sx_p1_ok hd h.2
        obtain ⟨F, hF⟩ : ∃ F : Nat, sx_ev σ f = (F : Int) := ⟨(sx_ev σ f).toNat, by omega⟩
        rw [e1, e2, hF]
        refine tr_ps_end (by omega) ?_
        cases hb : tr_jn (sx_ev σ w) (tr_nj (sx_ev σ w) (sx_ev σ j)) (T F) with
        | false => rfl
        | true =>
          have h1 : T F ∈ sx_jal := by
            unfold tr_jn at hb
            rw [decide_eq_true_eq] at hb
            unfold sx_jal
            simp only [List.mem_cons, List.not_mem_nil, or_false]
            omega
          have h2 := sx_pH_F H (sx_ql_ok h.1 _ h1)
          rw [hF, tr_nn] at h2
          exact absurd rfl h2
      · obtain ⟨lv, hlv, h⟩ := sx_any_ok h
        rw [Bool.and_eq_true] at h
        rw [(sx_eqp_ok hd h.1).trans sx_ev_k]
        simp only [List.mem_cons, List.not_mem_nil, or_false] at hlv
        exact sx_pL_ok (by omega) hd H hf h.2
theorem sx_KC_ok {t : Nat} (hd : sx_d P sx_TGm σ φ D) : sx_pH σ (sx_KC P D t) (φ t) (fun i => i + 1) := by
  refine ⟨fun f e b h => sx_kC_ok hd h, fun f b h => sx_nC_ok hd h, fun f f1 h h0 => ?_, fun g hg => ?_⟩
  · have h : sx_eqp P D f1 (sx_pk f 1) = true := h
    have h1 := (sx_eqp_ok hd h).trans sx_ev_pk
    show sx_ev σ f1 = (((sx_ev σ f).toNat + 1 : Nat) : Int)
    omega
  · have hg : g ∈ tr_fm (sx_gC t) D.2.2.2.2.1 := hg
    obtain ⟨z, h1, h2⟩ := tr_fm_ok hg
    have hz := hd.2.2.2.2 z h1
    unfold sx_gC at h2
    split at h2
    · next T' w j o f r a =>
      cases c1 : Nat.beq T' t with
      | false =>
        rw [c1] at h2
        have h2 : none = some g := h2
        cases h2
      | true =>
        rw [c1] at h2
        have h2 : some (w, j, o, f, r, a) = some g := h2
        cases h2
        have hz := sx_n60.mp hz
        rw [Nat.eq_of_beq_eq_true c1] at hz
        exact hz
    · cases h2
theorem sx_KR_ok {C : Nat} {n : sx_E} (hd : sx_d P sx_TGm σ φ D) : sx_pH σ (sx_KR P D C n) (tr_kd (φ C) (sx_ev σ n).toNat) (tr_nx (φ C) (sx_ev σ n).toNat) := by
  refine ⟨fun f e b h => sx_kR_ok hd h, fun f b h => sx_nR_ok hd h, fun f f1 h _ => sx_xR_ok hd h, fun g hg => ?_⟩
  have hg : g ∈ tr_fm (sx_gR P D C n) D.2.2.2.2.1 := hg
  obtain ⟨z, h1, h2⟩ := tr_fm_ok hg
  have hz := hd.2.2.2.2 z h1
  unfold sx_gR at h2
  split at h2
  · next C' n' w j o f r a =>
    cases c1 : (Nat.beq C' C && sx_eqp P D n' n) with
    | false =>
      rw [c1] at h2
      have h2 : none = some g := h2
      cases h2
    | true =>
      rw [c1] at h2
      have h2 : some (w, j, o, f, r, a) = some g := h2
      cases h2
      rw [Bool.and_eq_true] at c1
      have hz := sx_n61.mp hz
      rw [Nat.eq_of_beq_eq_true c1.1, sx_eqp_ok hd c1.2] at hz
      exact hz
  · cases h2
theorem sx_q70R_ok {C : Nat} {n x : sx_E} {g : sx_F} (hd : sx_d P sx_TGm σ φ D) (hg : sx_fk sx_TGm σ φ g) (h : sx_q70R P D C n x g = true) : tr_fa (φ C) (sx_ev σ n).toNat (sx_ev σ x) := by
  unfold sx_q70R at h
  split at h
  · next C' n' w j o f r a =>
    simp only [Bool.and_eq_true, Bool.or_eq_true] at h
    obtain ⟨⟨k1, k2, k3, k4, k5⟩, k6, h⟩ := h
    have hg := sx_n61.mp hg
    rw [Nat.eq_of_beq_eq_true k1, sx_eqp_ok hd k2, (sx_eqp_ok hd k3).trans sx_ev_k, (sx_eqp_ok hd k4).trans sx_ev_k, (sx_eqp_ok hd k5).trans sx_ev_k] at hg
    have er := (sx_r41_ok hd k6).2
    rw [sx_ev_k] at er
    have er : sx_ev σ f = (tr_e 0 (φ C) (sx_ev σ n).toNat 0 : Int) := er
    obtain ⟨m, a1, b1, ha, hb, hm⟩ := tr_ps_get hg
    rw [tr_nj7] at hm
    have ea : a1 = tr_e 0 (φ C) (sx_ev σ n).toNat 0 := by omega
    rw [ea] at hm
    refine ⟨m, sx_ev σ r, b1, hm, ?_⟩
    rcases h with ⟨c1, c2⟩ | ⟨c1, c2⟩
    · exact Or.inl ⟨(sx_eqp_ok hd c1).trans sx_ev_k, (sx_eqp_ok hd c2).trans hb⟩
    · exact Or.inr ⟨(sx_eqp_ok hd c1).trans sx_ev_k, (sx_eqp_ok hd c2).trans sx_ev_k⟩
  · cases h
theorem sx_q70C_ok {C : Nat} {n x : sx_E} {g : sx_F} (hd : sx_d P sx_TGm σ φ D) (hg : sx_fk sx_TGm σ φ g) (h : sx_q70C P D C n x g = true) : tr_fa (φ C) (sx_ev σ n).toNat (sx_ev σ x) := by
  unfold sx_q70C at h
  split at h
  · next C' t l n' m =>
    simp only [Bool.and_eq_true] at h
    obtain ⟨⟨k1, k2, k3⟩, k4, k5⟩ := h
    have hg := sx_n50.mp hg
    rw [Nat.eq_of_beq_eq_true k1, sx_eqp_ok hd k2] at hg
    have e3 := sx_ge_ok hd k3
    rw [sx_ev_pk] at e3
    obtain ⟨q, q1, q2⟩ := sx_o_ok k4
    rw [Bool.and_eq_true] at q2
    have hq := sx_sel_ok hd q1
    have q3 := sx_ge_ok hd q2.1
    have q4 := sx_ge_ok hd q2.2
    rw [sx_ev_pk, sx_ev_ng] at q4
    rw [sx_ev_pk] at hq
    obtain ⟨M, hM⟩ : ∃ M : Nat, sx_ev σ m = (M : Int) := ⟨(sx_ev σ m).toNat, by omega⟩
    rw [hM, show ((M : Int) + -1).toNat = M - 1 by omega] at hq
    rw [hM] at hg
    obtain ⟨h', hh', h⟩ := sx_any_ok k5
    have hz := hd.2.2.2.2 h' hh'
    unfold sx_q70T at h
    split at h
    · next T' w j o f r a =>
      simp only [Bool.and_eq_true, Bool.or_eq_true] at h
      obtain ⟨⟨c1, c2, c3, c4, c5⟩, h⟩ := h
      have hz := sx_n60.mp hz
      rw [Nat.eq_of_beq_eq_true c1, (sx_eqp_ok hd c2).trans sx_ev_k, (sx_eqp_ok hd c3).trans sx_ev_k, (sx_eqp_ok hd c4).trans sx_ev_k, (sx_eqp_ok hd c5).trans sx_ev_k] at hz
      refine tr_fa_row (T := φ t) (L := φ l) (M := M) (fun k hk => hg k (by omega)) (by omega) (by omega) hz ?_
      rcases h with ⟨d1, d2⟩ | ⟨d1, d2⟩
      · obtain ⟨y, y1, y2⟩ := sx_o_ok d2
        exact Or.inl ⟨(sx_eqp_ok hd d1).trans sx_ev_k, (sx_eqp_ok hd y2).trans (sx_sel_ok hd y1).symm⟩
      · exact Or.inr ⟨(sx_eqp_ok hd d1).trans sx_ev_k, (sx_eqp_ok hd d2).trans sx_ev_k⟩
    · cases h
  · cases h
theorem sx_l40_ok {a b : Nat} (hd : sx_d P sx_TGm σ φ D) (h : sx_any (sx_l40 a b) D.2.2.2.2.1 = true) : tr_al (φ a) (φ b) := by
  obtain ⟨g, h1, h2⟩ := sx_any_ok h
  have hg := hd.2.2.2.2 g h1
  unfold sx_l40 at h2
  split at h2
  · next a' b' =>
    rw [Bool.and_eq_true] at h2
    have hg := sx_n40.mp hg
    rw [Nat.eq_of_beq_eq_true h2.1, Nat.eq_of_beq_eq_true h2.2] at hg
    exact hg
  · cases h2
theorem sx_q40a_ok {x y : sx_E} {g : sx_F} (hd : sx_d P sx_TGm σ φ D) (hg : sx_fk sx_TGm σ φ g) (h : sx_q40a P D x y g = true) : sx_ev σ x = sx_ev σ y ∨ (sx_ev σ y < 0 ∧ 128 ≤ sx_ev σ x) := by
  unfold sx_q40a at h
  split at h
  · next t c v =>
    simp only [Bool.and_eq_true] at h
    obtain ⟨⟨k1, k2⟩, ⟨k3, k4⟩, k5⟩ := h
    have hg : (Int32.ofInt (sx_ev σ t) &&& Int32.ofInt (sx_ev σ c)).toInt = sx_ev σ v := hg
    rw [sx_eq_eq k1, sx_ev_k, sx_eqp_ok hd k2, show Int32.ofInt 255 = (255 : Int32) by decide] at hg
    have e3 := sx_ge_ok hd k3
    have e4 := sx_ge_ok hd k4
    rw [sx_ev_pk] at e3 e4
    rw [sx_ev_ng] at e4
    obtain ⟨g', h1, h2⟩ := sx_any_ok k5
    have hg' := hd.2.2.2.2 g' h1
    unfold sx_q40b at h2
    split at h2
    · next t' z v' =>
      simp only [Bool.and_eq_true] at h2
      obtain ⟨m1, m2, m3⟩ := h2
      have hg' : (Int32.ofInt (sx_ev σ t')).toInt8.toInt32.toInt = sx_ev σ v' := hg'
      rw [sx_eq_eq m1, sx_eqp_ok hd m3, sn_i2b] at hg'
      rw [← hg, ← hg']
      exact tr_byte
    · cases h2
  · cases h
theorem sx_q40_ok (hd : sx_d P sx_TGm σ φ D) : ∀ {n a b : Nat}, sx_q40 P D n a b = true → tr_al (φ a) (φ b)
  | 0, a, b, h => sx_l40_ok hd h
  | n + 1, a, b, h => by
    unfold sx_q40 at h
    rw [Bool.or_eq_true] at h
    rcases h with h | h
    · exact sx_l40_ok hd h
    · split at h
      · next x y hx hy =>
        simp only [Bool.and_eq_true] at h
        obtain ⟨k1, k2, k3⟩ := h
        have ih := sx_q40_ok hd k3
        have e1 := sx_eqp_ok hd k1
        obtain ⟨g, h1, h2⟩ := sx_any_ok k2
        have hv := sx_q40a_ok hd (hd.2.2.2.2 g h1) h2
        intro i
        rw [sx_fru_ok hd hx i, sx_fru_ok hd hy i, e1]
        by_cases hi : i = (sx_ev σ y.2.1).toNat
        · rw [if_pos hi, if_pos hi]
          exact hv
        · rw [if_neg hi, if_neg hi]
          exact ih i
      · cases h
theorem tr_bt_lt {F : Nat → Int} {d : Int} : ∀ n : Nat, -1 ≤ tr_bt F d n ∧ tr_bt F d n < n
  | 0 => by
    show -1 ≤ (-1 : Int) ∧ (-1 : Int) < ((0 : Nat) : Int)
    omega
  | n + 1 => by
    have ih := tr_bt_lt (F := F) (d := d) n
    unfold tr_bt
    split
    · omega
    · omega
theorem sx_h17_ok {F : Nat} {n d b : sx_E} {g : sx_F} (hd : sx_d P sx_TGm σ φ D) (hg : sx_fk sx_TGm σ φ g) (h : sx_h17 P D F n d b g = true) : 0 ≤ sx_ev σ n ∧ sx_ev σ b = tr_bt (φ F) (sx_ev σ d) (sx_ev σ n).toNat := by
  unfold sx_h17 at h
  split at h
  · next F' n' d' b' =>
    rw [Bool.and_eq_true] at h
    obtain ⟨h1, h2⟩ := h
    simp only [Bool.and_eq_true] at h1
    obtain ⟨k1, k2, k3⟩ := h1
    have hg := sx_n17.mp hg
    rw [Nat.eq_of_beq_eq_true k1, sx_eqp_ok hd k3] at hg
    have e2 := sx_eqp_ok hd k2
    rw [sx_ev_pk] at e2
    obtain ⟨g1, g2⟩ := hg
    refine ⟨by omega, ?_⟩
    rw [show (sx_ev σ n).toNat = (sx_ev σ n').toNat + 1 by omega]
    show _ = (if φ F (sx_ev σ n').toNat ≤ sx_ev σ d ∧ (tr_bt (φ F) (sx_ev σ d) (sx_ev σ n').toNat < 0 ∨ φ F (tr_bt (φ F) (sx_ev σ d) (sx_ev σ n').toNat).toNat ≤ φ F (sx_ev σ n').toNat) then ((sx_ev σ n').toNat : Int) else tr_bt (φ F) (sx_ev σ d) (sx_ev σ n').toNat)
    rw [← g2]
    obtain ⟨w, w1, w2⟩ := sx_o_ok h2
    rw [sx_sel_ok hd w1]
    rw [Bool.or_eq_true] at w2
    rcases w2 with z | z
    · rw [Bool.and_eq_true, Bool.and_eq_true, Bool.or_eq_true] at z
      obtain ⟨z1, z2, z3⟩ := z
      have e3 := sx_eqp_ok hd z1
      have e4 := sx_ge_ok hd z2
      rw [sx_ev_sb] at e4
      rw [if_pos]
      · omega
      · refine ⟨by omega, ?_⟩
        rcases z3 with z3 | z3
        · have := sx_ge_ok hd z3
          rw [sx_ev_pk, sx_ev_ng] at this
          exact Or.inl (by omega)
        · rw [Bool.and_eq_true] at z3
          obtain ⟨u, u1, u2⟩ := sx_o_ok z3.2
          have := sx_ge_ok hd u2
          rw [sx_ev_sb] at this
          rw [sx_sel_ok hd u1]
          exact Or.inr (by omega)
    · rw [Bool.and_eq_true, Bool.or_eq_true] at z
      rw [if_neg]
      · exact sx_eqp_ok hd z.1
      · intro ⟨y1, y2⟩
        rcases z.2 with z2 | z2
        · have := sx_ge_ok hd z2
          rw [sx_ev_pk, sx_ev_sb] at this
          omega
        · rw [Bool.and_eq_true] at z2
          have b0 := sx_ge_ok hd z2.1
          obtain ⟨u, u1, u2⟩ := sx_o_ok z2.2
          have := sx_ge_ok hd u2
          rw [sx_ev_pk, sx_ev_sb] at this
          rw [sx_sel_ok hd u1] at y2
          omega
  · cases h
theorem sx_h16_ok {C F : Nat} {n d f l : sx_E} {g : sx_F} (hd : sx_d P sx_TGm σ φ D) (hg : sx_fk sx_TGm σ φ g) (h : sx_h16 P D C F n d f l g = true) : 0 ≤ sx_ev σ n ∧ sx_ev σ f = tr_at (φ C) 0 (tr_bt (φ F) (sx_ev σ d) (sx_ev σ n).toNat) ∧ sx_ev σ l = tr_at (φ F) (-1) (tr_bt (φ F) (sx_ev σ d) (sx_ev σ n).toNat) := by
  unfold sx_h16 at h
  split at h
  · next C' F' n' d' f' l' =>
    rw [Bool.and_eq_true] at h
    obtain ⟨h1, h2⟩ := h
    simp only [Bool.and_eq_true] at h1
    obtain ⟨k1, k2, k3, k4⟩ := h1
    have hg := sx_n16.mp hg
    rw [Nat.eq_of_beq_eq_true k1, Nat.eq_of_beq_eq_true k2, sx_eqp_ok hd k4] at hg
    have e3 := sx_eqp_ok hd k3
    rw [sx_ev_pk] at e3
    obtain ⟨g1, g2, g3⟩ := hg
    refine ⟨by omega, ?_⟩
    rw [show (sx_ev σ n).toNat = (sx_ev σ n').toNat + 1 by omega]
    have hb := tr_bt_lt (F := φ F) (d := sx_ev σ d) (sx_ev σ n').toNat
    have hs : tr_bt (φ F) (sx_ev σ d) ((sx_ev σ n').toNat + 1) = (if φ F (sx_ev σ n').toNat ≤ sx_ev σ d ∧ (tr_bt (φ F) (sx_ev σ d) (sx_ev σ n').toNat < 0 ∨ φ F (tr_bt (φ F) (sx_ev σ d) (sx_ev σ n').toNat).toNat ≤ φ F (sx_ev σ n').toNat) then ((sx_ev σ n').toNat : Int) else tr_bt (φ F) (sx_ev σ d) (sx_ev σ n').toNat) := rfl
    generalize tr_bt (φ F) (sx_ev σ d) (sx_ev σ n').toNat = B at hs hb g2 g3
    rw [hs]
    unfold tr_at at g3
    obtain ⟨w, w1, w2⟩ := sx_o_ok h2
    rw [sx_sel_ok hd w1]
    have hB : ∀ z : Int, B < 0 ∨ φ F B.toNat ≤ z ↔ (B < 0 ∨ sx_ev σ l' ≤ z) := fun z => by
      by_cases c : B < 0
      · exact ⟨fun _ => Or.inl c, fun _ => Or.inl c⟩
      · rw [if_neg c] at g3
        rw [g3]
    rw [Bool.or_eq_true] at w2
    rcases w2 with z | z
    · rw [Bool.and_eq_true, Bool.and_eq_true, Bool.and_eq_true] at z
      obtain ⟨z1, z2, z3, z4⟩ := z
      obtain ⟨c, c1, c2⟩ := sx_o_ok z1
      have e4 := sx_ge_ok hd z3
      have e5 := sx_ge_ok hd z4
      rw [sx_ev_sb] at e4 e5
      rw [if_pos ⟨by omega, (hB _).mpr (Or.inr (by omega))⟩]
      have hn0 : ¬ ((sx_ev σ n').toNat : Int) < 0 := by omega
      unfold tr_at
      rw [if_neg hn0, if_neg hn0, tr_nn, sx_sel_ok hd c1, sx_sel_ok hd w1]
      exact ⟨sx_eqp_ok hd c2, sx_eqp_ok hd z2⟩
    · rw [Bool.and_eq_true, Bool.and_eq_true, Bool.or_eq_true] at z
      obtain ⟨⟨z1, z2⟩, z3⟩ := z
      have hno : ¬ (sx_ev σ w ≤ sx_ev σ d ∧ (B < 0 ∨ φ F B.toNat ≤ sx_ev σ w)) := by
        intro ⟨y1, y2⟩
        rcases z3 with z3 | z3
        · have := sx_ge_ok hd z3
          rw [sx_ev_pk, sx_ev_sb] at this
          omega
        · rw [Bool.and_eq_true] at z3
          have b1 := sx_ge_ok hd z3.1
          have b2 := sx_ge_ok hd z3.2
          rw [sx_ev_pk, sx_ev_sb] at b1
          rw [sx_ev_pk] at b2
          rcases y2 with y2 | y2
          · rw [if_pos y2] at g3
            omega
          · by_cases c : B < 0
            · rw [if_pos c] at g3
              omega
            · rw [if_neg c] at g3
              omega
      rw [if_neg hno]
      exact ⟨(sx_eqp_ok hd z1).trans g2, (sx_eqp_ok hd z2).trans g3⟩
  · cases h
theorem sx_h18_ok {C F : Nat} {n d f : sx_E} {g : sx_F} (hd : sx_d P sx_TGm σ φ D) (hg : sx_fk sx_TGm σ φ g) (h : sx_h18 P D C F n d f g = true) : sx_ev σ f = tr_at (φ C) 0 (tr_bt (φ F) (sx_ev σ d) (sx_ev σ n).toNat) := by
  unfold sx_h18 at h
  split at h
  · next C' F' n' d' f' l' =>
    simp only [Bool.and_eq_true] at h
    obtain ⟨⟨k1, k2⟩, k3, k4, k5⟩ := h
    have hg := sx_n16.mp hg
    rw [Nat.eq_of_beq_eq_true k1, Nat.eq_of_beq_eq_true k2, sx_eqp_ok hd k3, sx_eqp_ok hd k4] at hg
    exact (sx_eqp_ok hd k5).trans hg.2.1
  · next F' n' d' b' =>
    simp only [Bool.and_eq_true, Bool.or_eq_true] at h
    obtain ⟨⟨k1, k2, k3⟩, h⟩ := h
    have hg := sx_n17.mp hg
    rw [Nat.eq_of_beq_eq_true k1, sx_eqp_ok hd k2, sx_eqp_ok hd k3] at hg
    rw [← hg.2]
    unfold tr_at
    rcases h with ⟨c1, c2⟩ | ⟨c1, c2⟩
    · have := sx_ge_ok hd c1
      rw [sx_ev_pk, sx_ev_ng] at this
      rw [if_pos (by omega)]
      exact (sx_eqp_ok hd c2).trans sx_ev_k
    · have := sx_ge_ok hd c1
      obtain ⟨v, v1, v2⟩ := sx_o_ok c2
      rw [if_neg (by omega), sx_sel_ok hd v1]
      exact sx_eqp_ok hd v2
  · cases h
theorem sx_hR_ok {f : sx_F} (hd : sx_d P sx_TGm σ φ D) (h : sx_hR P D f = true) : sx_fk sx_TGm σ φ f := by
  unfold sx_hR at h
  split at h
  · next C F n d f l =>
    rw [sx_n16]
    rw [Bool.or_eq_true] at h
    rcases h with h | h
    · simp only [Bool.and_eq_true] at h
      rw [(sx_eqp_ok hd h.1).trans sx_ev_k, (sx_eqp_ok hd h.2.1).trans sx_ev_k, (sx_eqp_ok hd h.2.2).trans sx_ev_k]
      exact ⟨Int.le_refl _, rfl, rfl⟩
    · obtain ⟨g, h1, h2⟩ := sx_any_ok h
      exact sx_h16_ok hd (hd.2.2.2.2 g h1) h2
  · next F n d b =>
    rw [sx_n17]
    rw [Bool.or_eq_true] at h
    rcases h with h | h
    · rw [Bool.and_eq_true] at h
      rw [(sx_eqp_ok hd h.1).trans sx_ev_k, (sx_eqp_ok hd h.2).trans sx_ev_k]
      exact ⟨Int.le_refl _, rfl⟩
    · obtain ⟨g, h1, h2⟩ := sx_any_ok h
      exact sx_h17_ok hd (hd.2.2.2.2 g h1) h2
  · next C F n d f =>
    rw [sx_n18]
    obtain ⟨g, h1, h2⟩ := sx_any_ok h
    exact sx_h18_ok hd (hd.2.2.2.2 g h1) h2
  · next a b => exact sx_n40.mpr (sx_q40_ok hd h)
  · next C p n i e =>
    rw [sx_n41, show sx_ev σ (p, []) = p from sx_ev_k]
    exact sx_h41_ok hd h
  · next C n f t u => exact sx_n45.mpr (sx_h45_ok hd h)
  · next C w f u r =>
    rw [sx_n46, show sx_ev σ (w, []) = w from sx_ev_k]
    exact sx_h46_ok hd h
  · next C n f t u => exact sx_n47.mpr (sx_h47_ok hd h)
  · next C T L n m q =>
    rw [Bool.or_eq_true] at h
    rcases h with h | h
    · rw [Bool.and_eq_true] at h
      rw [sx_n48, (sx_eqp_ok hd h.1).trans sx_ev_k, (sx_eqp_ok hd h.2).trans sx_ev_k]
      exact ⟨Int.le_refl _, Int.le_refl _, rfl, fun k hk => by omega⟩
    · obtain ⟨g, h1, h2⟩ := sx_any_ok h
      exact sx_h48_ok hd (hd.2.2.2.2 g h1) h2
  · next C f u t =>
    rw [Bool.and_eq_true, Bool.and_eq_true] at h
    exact sx_n49.mpr ⟨sx_ge_ok hd h.1.1, sx_ge_ok hd h.1.2, sx_q49_ok hd h.2⟩
  · next C T L n m =>
    obtain ⟨g, h1, h2⟩ := sx_any_ok h
    have hg := hd.2.2.2.2 g h1
    unfold sx_l48 at h2
    split at h2
    · next C' T' L' n' m' q' =>
      simp only [Bool.and_eq_true] at h2
      obtain ⟨⟨k1, k2, k3⟩, k4, k5⟩ := h2
      have hg := sx_n48.mp hg
      rw [Nat.eq_of_beq_eq_true k1, Nat.eq_of_beq_eq_true k2, Nat.eq_of_beq_eq_true k3, sx_eqp_ok hd k4, sx_eqp_ok hd k5] at hg
      exact sx_n50.mpr hg.2.2.2
    · cases h2
  · next T w j o f r a => exact sx_n60.mpr (sx_pA_ok hd (sx_KC_ok hd) h)
  · next C n w j o f r a => exact sx_n61.mpr (sx_pA_ok hd (sx_KR_ok hd) h)
  · next C n x =>
    rw [sx_n70]
    rw [Bool.or_eq_true] at h
    rcases h with h | h
    · obtain ⟨g, h1, h2⟩ := sx_any_ok h
      exact sx_q70R_ok hd (hd.2.2.2.2 g h1) h2
    · obtain ⟨g, h1, h2⟩ := sx_any_ok h
      exact sx_q70C_ok hd (hd.2.2.2.2 g h1) h2
  · cases h
end SXRP
