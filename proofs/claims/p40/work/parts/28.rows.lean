/-! ROWS -/
section SXR
variable {P : sx_P} {SA : mx_S} {TG : sx_TG} {σ : Nat → Int} {φ : sx_R} {D D' : sx_D} {c c' : sx_C} {d : mx_C} {os : List sx_C} {r : Option mx_C} {v : Int} {p : sx_E × sx_D}
def sx_an2 (P : sx_P) (TG : sx_TG) (D : sx_D) (p : sx_E × sx_D) (v : Int) (H : (Nat → Int) → sx_R → Prop) : Prop :=
  sx_kp D p.2 ∧ ∀ σ φ, sx_d P TG σ φ D → H σ φ → (∀ i, D.2.2.2.2.2.1 ≤ i → i < p.2.2.2.2.2.2.1 → σ i = v) → sx_d P TG σ φ p.2 ∧ sx_ev σ p.1 = v
theorem sp_an2 {pc n : Nat} {lv : sx_L} {st st' : List sx_V} {b : Bool} {p : sx_E × sx_D} {H : (Nat → Int) → sx_R → Prop} {v : Int} {w : Value} {rs : List Value} (hc : (pc + n, lv, .inr (b, p.1) :: st', p.2) ∈ os) (ha : sx_an2 P TG D p v H) (hst : sx_str P SA TG (pc, lv, st, D) d σ φ)
    (hH : ∀ σ φ, sx_rel P SA TG σ φ (pc, lv, st, D) d → H σ φ ∧ sx_vs σ st' rs) (hw : ∀ σ e, sx_ev σ e = v → sx_vr σ (.inr (b, e)) w) (hr : r = some (d.1 + n, d.2.1, w :: rs, d.2.2.2)) : sx_suc P SA TG (pc, lv, st, D) d r os σ φ := by
  refine sp_go hc ha.1.2.2.1 (Nat.le_of_eq ha.1.2.2.2.symm) (fun _ => v) (fun _ _ => 0) hst fun σ φ h1 h2 _ => ⟨_, hr, ?_⟩
  obtain ⟨z1, z2⟩ := hH σ φ h1
  obtain ⟨a1, a2⟩ := ha.2 σ φ h1.2.2.2.2.1 z1 h2
  have e1 : pc = d.1 := h1.1
  exact ⟨by show pc + n = d.1 + n; rw [e1], h1.2.1, ⟨hw σ _ a2, z2⟩, sx_ok_kp ha.1 h1.2.2.2 a1⟩
theorem sx_nb1_ok {k a : Nat} {f : sx_F} {u : Int} (h : sx_nb1 k a f = some u) (hf : sx_fk TG σ φ f) (hk : k = 3 ∨ k = 4) : if k = 3 then ∀ j, φ a j ≤ u else ∀ j, u ≤ φ a j := by
  unfold sx_nb1 at h
  split at h
  · next k' b e =>
    cases hb : (Nat.beq k' k && (Nat.beq b a && sx_isk e)) with
    | false => rw [hb] at h; cases h
    | true =>
      rw [hb] at h
      cases h
      simp only [Bool.and_eq_true] at hb
      obtain ⟨h1, h2, h3⟩ := hb
      have h1 := Nat.eq_of_beq_eq_true h1
      have h2 := Nat.eq_of_beq_eq_true h2
      subst h1
      subst h2
      have he := sx_isk_ok (σ := σ) h3
      rcases hk with rfl | rfl
      · have hf : ∀ j, φ b j ≤ sx_ev σ e := hf
        rw [he] at hf
        rw [if_pos rfl]
        exact hf
      · have hf : ∀ j, sx_ev σ e ≤ φ b j := hf
        rw [he] at hf
        rw [if_neg (by omega)]
        exact hf
  · cases h
theorem sx_nlo_ok {a : Nat} {l : Int} (h : sx_nlo P D a = some l) (hd : sx_d P TG σ φ D) : ∀ j, l ≤ φ a j := by
  unfold sx_nlo at h
  split at h
  · next u hu =>
    cases h
    obtain ⟨f, h1, h2⟩ := sx_first_ok hu
    have := sx_nb1_ok h2 (hd.2.2.2.2 f h1) (Or.inr rfl)
    rw [if_neg (by omega)] at this
    exact this
  · split at h
    · next p hp =>
      cases h
      exact fun j => (hd.2.1 a p hp j).1
    · cases h
theorem sx_nhi_ok {a : Nat} {l : Int} (h : sx_nhi P D a = some l) (hd : sx_d P TG σ φ D) : ∀ j, φ a j ≤ l := by
  unfold sx_nhi at h
  split at h
  · next u hu =>
    cases h
    obtain ⟨f, h1, h2⟩ := sx_first_ok hu
    have := sx_nb1_ok h2 (hd.2.2.2.2 f h1) (Or.inl rfl)
    rw [if_pos rfl] at this
    exact this
  · split at h
    · next p hp =>
      cases h
      exact fun j => (hd.2.1 a p hp j).2
    · cases h
theorem sx_rd1_kq {a : Nat} {e x : sx_E} {f : sx_F} : sx_kq D (sx_rd1 P a e x f D) := by
  unfold sx_rd1
  split
  · next b i l h =>
    cases (Nat.beq b a && sx_eq i e) with
    | true => exact sx_add_kq.tr sx_add_kq
    | false => exact sx_kq.rf
  · next b u =>
    cases (Nat.beq b a && !(sx_isk u)) with
    | true => exact sx_add_kq
    | false => exact sx_kq.rf
  · next b u =>
    cases (Nat.beq b a && !(sx_isk u)) with
    | true => exact sx_add_kq
    | false => exact sx_kq.rf
  · exact sx_kq.rf
theorem sx_rdU_kq {a : Nat} {e x : sx_E} : ∀ {F : List sx_F} {D : sx_D}, sx_kq D (sx_rdU P a e x F D)
  | [], _ => sx_kq.rf
  | _ :: F, _ => sx_kq.tr sx_rd1_kq (sx_rdU_kq (F := F))
theorem sx_rd1_ok {a : Nat} {e x : sx_E} {j : Nat} {f : sx_F} (hj : j = (sx_ev σ e).toNat) (hx : sx_ev σ x = φ a j) (hf : sx_fk TG σ φ f) (h : sx_d P TG σ φ D) : sx_d P TG σ φ (sx_rd1 P a e x f D) := by
  unfold sx_rd1
  split
  · next b i l u =>
    cases hb : (Nat.beq b a && sx_eq i e) with
    | false => exact h
    | true =>
      rw [Bool.and_eq_true] at hb
      have hf : sx_ev σ l ≤ φ b (sx_ev σ i).toNat ∧ φ b (sx_ev σ i).toNat ≤ sx_ev σ u := hf
      rw [Nat.eq_of_beq_eq_true hb.1, sx_eq_eq hb.2, ← hj, ← hx] at hf
      exact sx_add_ok (sx_add_ok h (by rw [sx_ev_sb]; omega)) (by rw [sx_ev_sb]; omega)
  · next b u =>
    cases hb : (Nat.beq b a && !(sx_isk u)) with
    | false => exact h
    | true =>
      rw [Bool.and_eq_true] at hb
      have e := Nat.eq_of_beq_eq_true hb.1
      subst e
      have hf : ∀ j, φ b j ≤ sx_ev σ u := hf
      exact sx_add_ok h (by rw [sx_ev_sb, hx]; have := hf j; omega)
  · next b u =>
    cases hb : (Nat.beq b a && !(sx_isk u)) with
    | false => exact h
    | true =>
      rw [Bool.and_eq_true] at hb
      have e := Nat.eq_of_beq_eq_true hb.1
      subst e
      have hf : ∀ j, sx_ev σ u ≤ φ b j := hf
      exact sx_add_ok h (by rw [sx_ev_sb, hx]; have := hf j; omega)
  · exact h
theorem sx_rdU_ok {a : Nat} {e x : sx_E} {j : Nat} (hj : j = (sx_ev σ e).toNat) (hx : sx_ev σ x = φ a j) : ∀ {F : List sx_F} {D : sx_D}, (∀ f ∈ F, sx_fk TG σ φ f) → sx_d P TG σ φ D → sx_d P TG σ φ (sx_rdU P a e x F D)
  | [], _, _, h => h
  | f :: F, _, hF, h => sx_rdU_ok hj hx (F := F) (fun f hf => hF f (List.mem_cons_of_mem _ hf)) (sx_rd1_ok hj hx (hF f List.mem_cons_self) h)
theorem sx_eqp_ok (hd : sx_d P TG σ φ D) {a b : sx_E} (h : sx_eqp P D a b = true) : sx_ev σ a = sx_ev σ b := by
  unfold sx_eqp at h
  rw [Bool.or_eq_true, Bool.and_eq_true] at h
  rcases h with h | h
  · rw [sx_eq_eq h]
  · have h1 := sx_ge_ok hd h.1
    have h2 := sx_ge_ok hd h.2
    rw [sx_ev_sb] at h1 h2
    omega
theorem sx_sel_ok {a : Nat} {e r : sx_E} (hd : sx_d P TG σ φ D) (h : sx_sel P D a e = some r) : φ a (sx_ev σ e).toNat = sx_ev σ r := by
  unfold sx_sel at h
  split at h
  · next r2 hr =>
    cases h
    obtain ⟨f, h1, h2⟩ := sx_first_ok hr
    have hf := hd.2.2.2.2 f h1
    unfold sx_sel1 at h2
    split at h2
    · next b i r2 =>
      cases hb : (Nat.beq b a && sx_eq i e) with
      | false => rw [hb] at h2; cases h2
      | true =>
        rw [hb] at h2
        cases h2
        rw [Bool.and_eq_true] at hb
        have e1 := Nat.eq_of_beq_eq_true hb.1
        subst e1
        have hf : φ b (sx_ev σ i).toNat = sx_ev σ r := hf
        rw [← hf, sx_eq_eq hb.2]
    · cases h2
  · obtain ⟨f, h1, h2⟩ := sx_first_ok h
    have hf := hd.2.2.2.2 f h1
    unfold sx_sel2 at h2
    split at h2
    · next b i r2 =>
      cases hb : (Nat.beq b a && sx_eqp P D i e) with
      | false => rw [hb] at h2; cases h2
      | true =>
        rw [hb] at h2
        cases h2
        rw [Bool.and_eq_true] at hb
        have e1 := Nat.eq_of_beq_eq_true hb.1
        subst e1
        have hf : φ b (sx_ev σ i).toNat = sx_ev σ r := hf
        rw [← hf, sx_eqp_ok hd hb.2]
    · cases h2
theorem sx_rd_ok {w : Bool} {a : Nat} {e : sx_E} (hv : sx_lo w ≤ v ∧ v ≤ sx_hi w) : sx_an2 P TG D (sx_rd P w a e D) v (fun σ φ => φ a (sx_ev σ e).toNat = v) := by
  unfold sx_rd
  split
  · next r hr => exact ⟨sx_kq.rf.kp, fun σ φ hd hH _ => ⟨hd, (sx_sel_ok hd hr).symm.trans hH⟩⟩
  · have k1 : sx_kp D (sx_wF (sx_newv D (sx_or (sx_nlo P D a) (sx_lo w)) (sx_or (sx_nhi P D a) (sx_hi w))) ((2, [a], [e, sx_v D.2.2.2.2.2.1]) :: D.2.2.2.2.1)) := ⟨rfl, rfl, Nat.le_succ _, rfl⟩
    refine ⟨k1.tr sx_rdU_kq.kp, fun σ φ hd hH hn => ?_⟩
    have e2 := (sx_rdU_kq (P := P) (a := a) (e := e) (x := sx_v D.2.2.2.2.2.1) (F := D.2.2.2.2.1) (D := sx_wF (sx_newv D (sx_or (sx_nlo P D a) (sx_lo w)) (sx_or (sx_nhi P D a) (sx_hi w))) ((2, [a], [e, sx_v D.2.2.2.2.2.1]) :: D.2.2.2.2.1))).2.2.1
    have e1 : σ D.2.2.2.2.2.1 = v := hn _ (Nat.le_refl _) (by rw [e2]; exact Nat.lt_succ_self _)
    have hx : sx_ev σ (sx_v D.2.2.2.2.2.1) = v := by rw [sx_ev_v]; exact e1
    refine ⟨sx_rdU_ok (j := (sx_ev σ e).toNat) rfl (by rw [hx]; exact hH.symm) hd.2.2.2.2 (sx_dr_F1 (D := sx_newv D _ _) (sx_dr_v hd ?_) ?_), hx⟩
    · rw [e1]
      constructor
      · cases hl : sx_nlo P D a with
        | none => exact hv.1
        | some l =>
          have := sx_nlo_ok hl hd (sx_ev σ e).toNat
          rw [hH] at this
          exact this
      · cases hl : sx_nhi P D a with
        | none => exact hv.2
        | some l =>
          have := sx_nhi_ok hl hd (sx_ev σ e).toNat
          rw [hH] at this
          exact this
    · show φ a (sx_ev σ e).toNat = sx_ev σ (sx_v D.2.2.2.2.2.1)
      rw [hx]
      exact hH
/-! what is known of a new row -/
theorem sx_bn_lo {g : Nat} {u : Option Int} {F : List sx_F} (hF : ∀ f ∈ F, sx_fk TG σ φ f) (hu : ∀ l, u = some l → ∀ j, l ≤ φ g j) : ∀ f ∈ sx_bnF 4 g u F, sx_fk TG σ φ f := by
  cases u with
  | none => exact hF
  | some l =>
    refine List.forall_mem_cons.mpr ⟨fun j => ?_, hF⟩
    rw [sx_ev_k]
    exact hu l rfl j
theorem sx_bn_hi {g : Nat} {u : Option Int} {F : List sx_F} (hF : ∀ f ∈ F, sx_fk TG σ φ f) (hu : ∀ l, u = some l → ∀ j, φ g j ≤ l) : ∀ f ∈ sx_bnF 3 g u F, sx_fk TG σ φ f := by
  cases u with
  | none => exact hF
  | some l =>
    refine List.forall_mem_cons.mpr ⟨fun j => ?_, hF⟩
    rw [sx_ev_k]
    exact hu l rfl j
theorem sx_opt2_some {f : Int → Int → Int} {a b : Option Int} {l : Int} (h : sx_opt2 f a b = some l) : ∃ x y, a = some x ∧ b = some y ∧ l = f x y := by
  unfold sx_opt2 at h
  split at h
  · next x y => exact ⟨x, y, rfl, rfl, (Option.some.inj h).symm⟩
  · cases h
theorem sx_hull_ok {a g : Nat} {e : sx_E} {F : List sx_F} (hd : sx_d P TG σ φ D) (hF : ∀ f ∈ F, sx_fk TG σ φ f) (hg : ∀ j, φ g j = sx_ev σ e ∨ φ g j = φ a j) : ∀ f ∈ sx_hull P D a g e F, sx_fk TG σ φ f := by
  refine sx_bn_lo (sx_bn_hi hF fun l hl j => ?_) fun l hl j => ?_
  · obtain ⟨x, y, h1, h2, rfl⟩ := sx_opt2_some hl
    have z1 := sx_nhi_ok h1 hd j
    have z2 := sx_ub_ok hd.1 hd.2.2.1 h2
    rcases hg j with h | h
    · exact sx_le_mx (Or.inr (by omega))
    · exact sx_le_mx (Or.inl (by omega))
  · obtain ⟨x, y, h1, h2, rfl⟩ := sx_opt2_some hl
    have z1 := sx_nlo_ok h1 hd j
    have z2 := sx_lb_ok hd.1 hd.2.2.1 h2
    rcases hg j with h | h
    · exact sx_mn_le (Or.inr (by omega))
    · exact sx_mn_le (Or.inl (by omega))
theorem sx_inh1_ok {a g : Nat} {e u : sx_E} {f f' : sx_F} (hd : sx_d P TG σ φ D) (he : 0 ≤ sx_ev σ e) (hg : ∀ j, φ g j = if j = (sx_ev σ e).toNat then sx_ev σ u else φ a j) (hf : sx_fk TG σ φ f) (h : sx_inh1 P D a g e u f = some f') : sx_fk TG σ φ f' := by
  unfold sx_inh1 at h
  split at h
  · next b w =>
    cases hb : (Nat.beq b a && (!(sx_isk w) && sx_ge P D (sx_sb w u))) with
    | false => rw [hb] at h; cases h
    | true =>
      rw [hb] at h
      cases h
      simp only [Bool.and_eq_true] at hb
      obtain ⟨h1, -, h3⟩ := hb
      have e1 := Nat.eq_of_beq_eq_true h1
      subst e1
      have hf : ∀ j, φ b j ≤ sx_ev σ w := hf
      have h4 := sx_ge_ok hd h3
      rw [sx_ev_sb] at h4
      intro j
      show φ g j ≤ sx_ev σ w
      rw [hg j]
      split
      · omega
      · exact hf j
  · next b w =>
    cases hb : (Nat.beq b a && (!(sx_isk w) && sx_ge P D (sx_sb u w))) with
    | false => rw [hb] at h; cases h
    | true =>
      rw [hb] at h
      cases h
      simp only [Bool.and_eq_true] at hb
      obtain ⟨h1, -, h3⟩ := hb
      have e1 := Nat.eq_of_beq_eq_true h1
      subst e1
      have hf : ∀ j, sx_ev σ w ≤ φ b j := hf
      have h4 := sx_ge_ok hd h3
      rw [sx_ev_sb] at h4
      intro j
      show sx_ev σ w ≤ φ g j
      rw [hg j]
      split
      · omega
      · exact hf j
  · next b i w =>
    cases hb : (Nat.beq b a && (sx_nn P.1 D.2.2.1 i && (sx_nn P.1 D.2.2.1 (sx_pk (sx_sb i e) (-1)) || sx_nn P.1 D.2.2.1 (sx_pk (sx_sb e i) (-1))))) with
    | false => rw [hb] at h; cases h
    | true =>
      rw [hb] at h
      cases h
      simp only [Bool.and_eq_true, Bool.or_eq_true] at hb
      obtain ⟨h1, h2, h3⟩ := hb
      have e1 := Nat.eq_of_beq_eq_true h1
      subst e1
      have hf : φ b (sx_ev σ i).toNat = sx_ev σ w := hf
      have h2 := sx_nn_ok hd.1 hd.2.2.1 h2
      have h4 : ¬ (sx_ev σ i).toNat = (sx_ev σ e).toNat := by
        rcases h3 with h3 | h3
        · have h3 := sx_nn_ok hd.1 hd.2.2.1 h3
          rw [sx_ev_pk, sx_ev_sb] at h3
          omega
        · have h3 := sx_nn_ok hd.1 hd.2.2.1 h3
          rw [sx_ev_pk, sx_ev_sb] at h3
          omega
      show φ g (sx_ev σ i).toNat = sx_ev σ w
      rw [hg, if_neg h4]
      exact hf
  · cases h
theorem sx_inh_ok {a g : Nat} {e u : sx_E} (hd : sx_d P TG σ φ D) (he : 0 ≤ sx_ev σ e) (hg : ∀ j, φ g j = if j = (sx_ev σ e).toNat then sx_ev σ u else φ a j) : ∀ {F : List sx_F}, (∀ f ∈ F, sx_fk TG σ φ f) → ∀ f ∈ sx_inh P D a g e u F, sx_fk TG σ φ f
  | [], hF => hF
  | f :: F, hF => by
    have ih2 := sx_inh_ok hd he hg (F := F) fun f hf => hF f (List.mem_cons_of_mem _ hf)
    unfold sx_inh
    split
    · next f' h => exact List.forall_mem_cons.mpr ⟨sx_inh1_ok hd he hg (hF f List.mem_cons_self) h, ih2⟩
    · exact ih2
theorem sx_all_app {F G : List sx_F} (h1 : ∀ f ∈ F, sx_fk TG σ φ f) (h2 : ∀ f ∈ G, sx_fk TG σ φ f) : ∀ f ∈ F ++ G, sx_fk TG σ φ f := fun f hf => (List.mem_append.mp hf).elim (h1 f) (h2 f)
/-- one row of the memory is another one -/
theorem sx_mm_set {tp : sx_tp} {nc : Nat} {M : mx_M} {q t n j g : Nat} {y : vp_A} {e0 : mx_E} (ho : sx_own tp) (h : sx_mm tp nc σ φ D M) (hq : tp q = some (.inr (t, n, j))) (hM : M[q]? = some e0) (h1 : D'.1 = D.1) (h2 : ∀ i, sx_ag D' i = if i = j then g else sx_ag D i) (hy : y.1 = n) (hk : mx_kd t y = true) (hc : ∀ i, i < n → sx_iv (mx_con y i) = φ g i) : sx_mm tp nc σ φ D' (M.set q (.inr (t, y))) := by
  refine ⟨by rw [List.length_set]; exact h.1, fun q' c hq' => ?_⟩
  by_cases hqq : q = q'
  · subst hqq
    rw [hq] at hq'
    cases hq'
    refine ⟨_, List.getElem?_set_self (List.getElem?_eq_some_iff.mp hM).1, y, rfl, hy, hk, fun i hi => ?_⟩
    rw [h2, if_pos rfl]
    exact hc i hi
  · obtain ⟨e', e1, e2⟩ := h.2 q' c hq'
    refine ⟨e', by rw [List.getElem?_set_ne hqq]; exact e1, ?_⟩
    match c, hq', e2 with
    | .inl (ci', fs'), hq', ⟨gs', a1, a2⟩ => exact ⟨gs', a1, sx_fm_cg h1 a2⟩
    | .inr (t', n', i), hq', ⟨y', a1, a2, a3, a4⟩ =>
      refine ⟨y', a1, a2, a3, fun i' hi' => ?_⟩
      rw [h2, if_neg (fun z => hqq (ho.2.1 q q' t t' n n' j hq (by rw [← z]; exact hq')))]
      exact a4 i' hi'
theorem sx_ok_row {M : mx_M} {q t n j g : Nat} {y : vp_A} {e0 : mx_E} (ho : sx_own P.2.2.1) (h : sx_ok P SA TG σ φ D M) (hq : P.2.2.1 q = some (.inr (t, n, j))) (hM : M[q]? = some e0) (h1 : D'.1 = D.1) (h2 : ∀ i, sx_ag D' i = if i = j then g else sx_ag D i) (hn : D.2.2.2.2.2.1 ≤ D'.2.2.2.2.2.1) (hm : D.2.2.2.2.2.2 ≤ D'.2.2.2.2.2.2) (hg : g < D'.2.2.2.2.2.2) (hd : sx_d P TG σ φ D')
    (hy : y.1 = n) (hk : mx_kd t y = true) (hc : ∀ i, i < n → sx_iv (mx_con y i) = φ g i) : sx_ok P SA TG σ φ D' (M.set q (.inr (t, y))) :=
  ⟨sx_mm_set ho h.1 hq hM h1 h2 hy hk hc, hd, h.2.2.1, h.2.2.2.1, Nat.le_trans h.2.2.2.2.1 hn, Nat.le_trans h.2.2.2.2.2.1 hm, fun i hi => by
    rw [h2]
    split
    · exact hg
    · exact Nat.lt_of_lt_of_le (h.2.2.2.2.2.2 i hi) hm⟩
theorem sn_inb {i : Int32} {n : Nat} (h1 : 0 ≤ i.toInt) (h2 : i.toInt < n) : mx_inb i n = true := by
  unfold mx_inb
  split
  · next k hk =>
    have hk : i.toInt = (k : Int) := hk
    exact Nat.ble_eq_true_of_le (by omega)
  · next k hk =>
    rw [hk, Int.negSucc_eq] at h1
    omega
theorem sn_nat {i : Int32} : i.toNatClampNeg = i.toInt.toNat := rfl
theorem sx_inr_ok {e n : sx_E} (hd : sx_d P TG σ φ D) (h : sx_inr P D e n = true) : 0 ≤ sx_ev σ e ∧ sx_ev σ e < sx_ev σ n := by
  unfold sx_inr at h
  rw [Bool.and_eq_true] at h
  have h1 := sx_ge_ok hd h.1
  have h2 := sx_ge_ok hd h.2
  rw [sx_ev_pk, sx_ev_sb] at h2
  omega
end SXR
