/-! SUMS PUT FOR NUMBERS: WHAT THEY STAND FOR -/
section SXU
variable {P : sx_P} {SA : mx_S} {σ τ : Nat → Int} {φ ψ : sx_R} {D D' : sx_D} {θ : Nat → Option sx_E} {ρ : Nat → Option Nat}
/-- θ says of each number what it is -/
def sx_is (θ : Nat → Option sx_E) (τ σ : Nat → Int) : Prop := ∀ x e, θ x = some e → τ x = sx_ev σ e
def sx_ir (ρ : Nat → Option Nat) (ψ φ : sx_R) : Prop := ∀ a b, ρ a = some b → ψ a = φ b
theorem sx_su_ok (h : sx_is θ τ σ) : ∀ {l : sx_T} {r : sx_E}, sx_su θ l = some r → sx_ev σ r = sx_et τ l
  | [], r, hr => by
    cases hr
    rfl
  | p :: l, r, hr => by
    unfold sx_su at hr
    split at hr
    · next e he =>
      split at hr
      · next r2 hr2 =>
        cases hr
        rw [sx_ev_ad, sx_ev_sc, sx_su_ok h hr2]
        show _ = p.2 * τ p.1 + sx_et τ l
        rw [h _ _ he]
      · cases hr
    · cases hr
theorem sx_sE_ok (h : sx_is θ τ σ) {e r : sx_E} (hr : sx_sE θ e = some r) : sx_ev σ r = sx_ev τ e := by
  unfold sx_sE at hr
  split at hr
  · next r2 hr2 =>
    cases hr
    rw [sx_ev_pk, sx_su_ok h hr2]
    show _ = e.1 + sx_et τ e.2
    omega
  · cases hr
theorem sx_sEs_ok (h : sx_is θ τ σ) : ∀ {l r : List sx_E}, sx_sEs θ l = some r → r.map (sx_ev σ) = l.map (sx_ev τ)
  | [], r, hr => by
    cases hr
    rfl
  | e :: l, r, hr => by
    unfold sx_sEs at hr
    split at hr
    · next a ha =>
      split at hr
      · next r2 hr2 =>
        cases hr
        rw [List.map_cons, List.map_cons, sx_sE_ok h ha, sx_sEs_ok h hr2]
      · cases hr
    · cases hr
theorem sx_sEs_mem : ∀ {l r : List sx_E}, sx_sEs θ l = some r → ∀ e ∈ l, ∃ e' ∈ r, sx_sE θ e = some e'
  | [], r, hr => fun e he => absurd he List.not_mem_nil
  | a :: l, r, hr => by
    unfold sx_sEs at hr
    split at hr
    · next b hb =>
      split at hr
      · next r2 hr2 =>
        cases hr
        intro e he
        rcases List.mem_cons.mp he with rfl | he
        · exact ⟨b, List.mem_cons_self, hb⟩
        · obtain ⟨e', h1, h2⟩ := sx_sEs_mem hr2 e he
          exact ⟨e', List.mem_cons_of_mem _ h1, h2⟩
      · cases hr
    · cases hr
theorem sx_sNs_ok (h : sx_ir ρ ψ φ) : ∀ {l r : List Nat}, sx_sNs ρ l = some r → r.map φ = l.map ψ
  | [], r, hr => by
    cases hr
    rfl
  | e :: l, r, hr => by
    unfold sx_sNs at hr
    split at hr
    · next a ha =>
      split at hr
      · next r2 hr2 =>
        cases hr
        rw [List.map_cons, List.map_cons, h _ _ ha, sx_sNs_ok h hr2]
      · cases hr
    · cases hr
theorem sx_sF_ok (h1 : sx_is θ τ σ) (h2 : sx_ir ρ ψ φ) {f g : sx_F} (hr : sx_sF θ ρ f = some g) : sx_fk sx_TGm σ φ g ↔ sx_fk sx_TGm τ ψ f := by
  unfold sx_sF at hr
  split at hr
  · next a ha =>
    split at hr
    · next e he =>
      cases hr
      show sx_fs sx_TGm f.1 (a.map φ) (e.map (sx_ev σ)) ↔ sx_fs sx_TGm f.1 (f.2.1.map ψ) (f.2.2.map (sx_ev τ))
      rw [sx_sNs_ok h2 ha, sx_sEs_ok h1 he]
    · cases hr
  · cases hr
theorem sx_sFs_mem : ∀ {l r : List sx_F}, sx_sFs θ ρ l = some r → (∀ f ∈ l, ∃ g ∈ r, sx_sF θ ρ f = some g) ∧ ∀ g ∈ r, ∃ f ∈ l, sx_sF θ ρ f = some g
  | [], r, hr => by
    cases hr
    exact ⟨fun e he => absurd he List.not_mem_nil, fun e he => absurd he List.not_mem_nil⟩
  | a :: l, r, hr => by
    unfold sx_sFs at hr
    split at hr
    · next b hb =>
      split at hr
      · next r2 hr2 =>
        cases hr
        obtain ⟨i1, i2⟩ := sx_sFs_mem hr2
        constructor
        · intro e he
          rcases List.mem_cons.mp he with rfl | he
          · exact ⟨b, List.mem_cons_self, hb⟩
          · obtain ⟨e', h1, h2⟩ := i1 e he
            exact ⟨e', List.mem_cons_of_mem _ h1, h2⟩
        · intro e he
          rcases List.mem_cons.mp he with rfl | he
          · exact ⟨a, List.mem_cons_self, hb⟩
          · obtain ⟨e', h1, h2⟩ := i2 e he
            exact ⟨e', List.mem_cons_of_mem _ h1, h2⟩
      · cases hr
    · cases hr
theorem sx_sEs_mem2 : ∀ {l r : List sx_E}, sx_sEs θ l = some r → ∀ e' ∈ r, ∃ e ∈ l, sx_sE θ e = some e'
  | [], r, hr => by
    cases hr
    exact fun e he => absurd he List.not_mem_nil
  | a :: l, r, hr => by
    unfold sx_sEs at hr
    split at hr
    · next b hb =>
      split at hr
      · next r2 hr2 =>
        cases hr
        intro e he
        rcases List.mem_cons.mp he with rfl | he
        · exact ⟨a, List.mem_cons_self, hb⟩
        · obtain ⟨e', h1, h2⟩ := sx_sEs_mem2 hr2 e he
          exact ⟨e', List.mem_cons_of_mem _ h1, h2⟩
      · cases hr
    · cases hr
theorem sx_sV_ok (h : sx_is θ τ σ) {v w : sx_V} (hr : sx_sV θ v = some w) {x : Value} (hx : sx_vr τ v x) : sx_vr σ w x := by
  unfold sx_sV at hr
  split at hr
  · cases hr; exact hx
  · next b e =>
    split at hr
    · next e' he =>
      cases hr
      have := sx_sE_ok h he
      cases b with
      | true =>
        obtain ⟨y, y1, y2⟩ := hx
        exact ⟨y, y1, by rw [this]; exact y2⟩
      | false =>
        obtain ⟨y, y1, y2⟩ := hx
        exact ⟨y, y1, by rw [this]; exact y2⟩
    · cases hr
theorem sx_alb_ok {α : Type} {f : α → Bool} : ∀ {l : List α}, sx_alb f l = true → ∀ a ∈ l, f a = true
  | [], _ => fun a ha => absurd ha List.not_mem_nil
  | b :: l, h => by
    unfold sx_alb at h
    rw [Bool.and_eq_true] at h
    intro a ha
    rcases List.mem_cons.mp ha with rfl | ha
    · exact h.1
    · exact sx_alb_ok h.2 a ha
theorem sx_eqW_ok {a b : Value} (h : sx_eqW a b = true) : a = b := by
  unfold sx_eqW at h
  split at h
  · rw [Nat.eq_of_beq_eq_true h]
  · rfl
  · cases h
theorem sx_mV_ok (hd : sx_d P sx_TGm σ φ D) (h : sx_is θ τ σ) {p v : sx_V} (hm : sx_mV P D θ p v = true) {x : Value} (hx : sx_vr σ v x) : sx_vr τ p x := by
  unfold sx_mV at hm
  split at hm
  · next w w' =>
    have hx : x = w' := hx
    rw [hx, sx_eqW_ok hm]
    rfl
  · next b e b' e' =>
    rw [Bool.and_eq_true] at hm
    have hb : b = b' := eq_of_beq hm.1
    subst hb
    have hm2 := hm.2
    split at hm2
    · next e2 he =>
      have h1 := sx_sE_ok h he
      have h2 := sx_eqp_ok hd hm2
      cases b with
      | true =>
        obtain ⟨y, y1, y2⟩ := hx
        exact ⟨y, y1, by rw [y2, ← h2, h1]⟩
      | false =>
        obtain ⟨y, y1, y2⟩ := hx
        exact ⟨y, y1, by rw [y2, ← h2, h1]⟩
    · cases hm2
  · cases hm
theorem sx_eqN_eq : ∀ {a b : List Nat}, sx_eqN a b = true → a = b
  | [], [], _ => rfl
  | [], _ :: _, h => by cases h
  | _ :: _, [], h => by cases h
  | a :: l, b :: r, h => by
    have h : (Nat.beq a b && sx_eqN l r) = true := h
    rw [Bool.and_eq_true] at h
    rw [Nat.eq_of_beq_eq_true h.1, sx_eqN_eq h.2]
theorem sx_eqL_eq : ∀ {a b : List sx_E}, sx_eqL a b = true → a = b
  | [], [], _ => rfl
  | [], _ :: _, h => by cases h
  | _ :: _, [], h => by cases h
  | a :: l, b :: r, h => by
    have h : (sx_eq a b && sx_eqL l r) = true := h
    rw [Bool.and_eq_true] at h
    rw [sx_eq_eq h.1, sx_eqL_eq h.2]
theorem sx_eqF_eq {f g : sx_F} (h : sx_eqF f g = true) : f = g := by
  unfold sx_eqF at h
  rw [Bool.and_eq_true, Bool.and_eq_true] at h
  exact Prod.ext (Nat.eq_of_beq_eq_true h.1) (Prod.ext (sx_eqN_eq h.2.1) (sx_eqL_eq h.2.2))
theorem sx_hF_ok (hd : sx_d P sx_TGm σ φ D) {f : sx_F} (h : sx_hF P D f = true) : sx_fk sx_TGm σ φ f := by
  unfold sx_hF at h
  rw [Bool.or_eq_true, Bool.or_eq_true] at h
  rcases h with h | h | h
  · obtain ⟨g, h1, h2⟩ := sx_any_ok h
    rw [sx_eqF_eq h2]
    exact hd.2.2.2.2 g h1
  · unfold sx_hF1 at h
    split at h
    · next e => exact sx_nz hd h
    · next a u =>
      split at h
      · next l hl =>
        have h1 := sx_ge_ok hd h
        rw [sx_ev_pk] at h1
        have h2 := sx_nhi_ok hl hd
        intro j
        have := h2 j
        omega
      · cases h
    · next a u =>
      split at h
      · next l hl =>
        have h1 := sx_ge_ok hd h
        rw [sx_ev_sb, sx_ev_k] at h1
        have h2 := sx_nlo_ok hl hd
        intro j
        have := h2 j
        omega
      · cases h
    · cases h
  · cases hb : Nat.ble 1000 f.1 with
    | true =>
      rw [hb] at h
      simp only [cond_true, Bool.or_eq_true] at h
      rcases h with h | h | h
      · exact sx_hT_ok hd h
      · exact sx_hN_ok hd h
      · exact sx_hR_ok hd h
    | false =>
      rw [hb] at h
      obtain ⟨g, h1, h2⟩ := sx_any_ok h
      have hg := hd.2.2.2.2 g h1
      unfold sx_hU1 at h2
      split at h2
      · next a u b w =>
        rw [Bool.and_eq_true] at h2
        have e1 := Nat.eq_of_beq_eq_true h2.1
        have e2 := sx_ge_ok hd h2.2
        rw [sx_ev_sb] at e2
        subst e1
        have hg : ∀ j, φ a j ≤ sx_ev σ w := hg
        intro j
        have := hg j
        omega
      · next a u b w =>
        rw [Bool.and_eq_true] at h2
        have e1 := Nat.eq_of_beq_eq_true h2.1
        have e2 := sx_ge_ok hd h2.2
        rw [sx_ev_sb] at e2
        subst e1
        have hg : ∀ j, sx_ev σ w ≤ φ a j := hg
        intro j
        have := hg j
        omega
      · next a i v b j w =>
        rw [Bool.and_eq_true, Bool.and_eq_true] at h2
        have e1 := Nat.eq_of_beq_eq_true h2.1
        subst e1
        have hg : φ a (sx_ev σ j).toNat = sx_ev σ w := hg
        show φ a (sx_ev σ i).toNat = sx_ev σ v
        rw [sx_eqp_ok hd h2.2.1, sx_eqp_ok hd h2.2.2]
        exact hg
      · cases h2
theorem sx_gf_ok (hd : sx_d P sx_TGm σ φ D) {e : sx_E} (h : sx_gf P D e = true) : 0 ≤ sx_ev σ e := by
  unfold sx_gf at h
  exact sx_pv_ok hd.1 hd.2.2.1 hd.2.2.2.1 h
theorem sx_hL_ok (hd : sx_d P sx_TGm σ φ D) (h : sx_is θ τ σ) {e : sx_E} (hm : sx_hL P D θ e = true) : 0 ≤ sx_ev τ e := by
  unfold sx_hL at hm
  split at hm
  · next e' he =>
    rw [← sx_sE_ok h he]
    exact sx_gf_ok hd hm
  · cases hm
theorem sx_hFs_ok (hd : sx_d P sx_TGm σ φ D) (h : sx_is θ τ σ) (h2 : sx_ir ρ ψ φ) {f : sx_F} (hm : sx_hFs P D θ ρ f = true) : sx_fk sx_TGm τ ψ f := by
  unfold sx_hFs at hm
  split at hm
  · next g hg => exact (sx_sF_ok h h2 hg).mp (sx_hF_ok hd hm)
  · cases hm
theorem sx_pair_ok {e f : sx_E} {p : Nat × Int × Int} (h : sx_pair P D e f = some p) (he : 0 ≤ sx_ev σ e) (hf : 0 ≤ sx_ev σ f) : p.2.1 ≤ σ p.1 ∧ σ p.1 ≤ p.2.2 := by
  unfold sx_pair at h
  split at h
  · next x y hx hy =>
    cases hb : (Nat.beq x.1 y.1 && (x.2 == 1 && (y.2 == -1 && (sx_bd P.1 D.2.2.1 x.1).isNone))) with
    | false => rw [hb] at h; cases h
    | true =>
      rw [hb] at h
      cases h
      simp only [Bool.and_eq_true] at hb
      obtain ⟨h1, h2, h3, -⟩ := hb
      have h1 := Nat.eq_of_beq_eq_true h1
      have h2 : x.2 = 1 := eq_of_beq h2
      have h3 : y.2 = -1 := eq_of_beq h3
      have e1 : sx_ev σ e = e.1 + (x.2 * σ x.1 + 0) := by
        show e.1 + sx_et σ e.2 = _
        rw [hx]
        rfl
      have e2 : sx_ev σ f = f.1 + (y.2 * σ y.1 + 0) := by
        show f.1 + sx_et σ f.2 = _
        rw [hy]
        rfl
      rw [h2] at e1
      rw [h3, ← h1] at e2
      show -e.1 ≤ σ x.1 ∧ σ x.1 ≤ f.1
      omega
  · cases h
theorem sx_adds_kq : ∀ {L : List sx_E} {D : sx_D}, sx_kq D (sx_adds P L D)
  | [], _ => sx_kq.rf
  | [_], _ => sx_add_kq
  | e :: f :: l, D => by
    unfold sx_adds
    split
    · exact sx_kq.tr (⟨rfl, rfl, rfl, rfl⟩ : sx_kq D (sx_wB D _)) (sx_adds_kq (L := l))
    · exact sx_kq.tr sx_add_kq (sx_adds_kq (L := f :: l))
theorem sx_adds_ok : ∀ {L : List sx_E} {D : sx_D}, (∀ e ∈ L, 0 ≤ sx_ev σ e) → sx_d P sx_TGm σ φ D → sx_d P sx_TGm σ φ (sx_adds P L D)
  | [], _, _, h => h
  | [e], _, hL, h => sx_add_ok h (hL e List.mem_cons_self)
  | e :: f :: l, D, hL, h => by
    have he := hL e List.mem_cons_self
    have hf := hL f (List.mem_cons_of_mem _ List.mem_cons_self)
    unfold sx_adds
    split
    · next p hp => exact sx_adds_ok (L := l) (fun a ha => hL a (List.mem_cons_of_mem _ (List.mem_cons_of_mem _ ha))) (sx_dr_B h (sx_pair_ok hp he hf))
    · exact sx_adds_ok (L := f :: l) (fun a ha => hL a (List.mem_cons_of_mem _ ha)) (sx_add_ok h he)
theorem sx_blw_ok {n : Nat} (h : ∀ i, i < n → τ i = σ i) : ∀ {l : sx_T}, sx_blw n l = true → sx_et τ l = sx_et σ l
  | [], _ => rfl
  | p :: l, hb => by
    unfold sx_blw at hb
    rw [Bool.and_eq_true] at hb
    show p.2 * τ p.1 + sx_et τ l = p.2 * σ p.1 + sx_et σ l
    rw [h p.1 (Nat.le_of_ble_eq_true hb.1), sx_blw_ok h hb.2]
theorem sx_scp_ok {n : Nat} {e e' : sx_E} (hs : sx_scp n e = some e') (h : ∀ i, i < n → τ i = σ i) : e' = e ∧ sx_ev τ e' = sx_ev σ e' := by
  unfold sx_scp at hs
  cases hb : sx_blw n e.2 with
  | false => rw [hb] at hs; cases hs
  | true =>
    rw [hb] at hs
    cases hs
    refine ⟨rfl, ?_⟩
    show e.1 + sx_et τ e.2 = e.1 + sx_et σ e.2
    rw [sx_blw_ok h hb]
theorem sx_insS_ok {S : List (Nat × sx_E)} : ∀ {l r : List (Nat × sx_E)}, sx_insS θ l S = some r → ∀ j, match sx_lkE j l with
    | some e => ∃ e', sx_sE θ e = some e' ∧ sx_lkE j r = some e'
    | none => sx_lkE j r = sx_lkE j S
  | [], r, hr, j => by
    cases hr
    rfl
  | p :: l, r, hr, j => by
    unfold sx_insS at hr
    split at hr
    · next r2 hr2 =>
      split at hr
      · next e he =>
        cases hr
        have ih := sx_insS_ok hr2 j
        rw [show sx_lkE j (p :: l) = (bif Nat.beq p.1 j then some p.2 else sx_lkE j l) from rfl]
        cases hb : Nat.beq p.1 j with
        | true =>
          have e1 := Nat.eq_of_beq_eq_true hb
          refine ⟨e, he, ?_⟩
          rw [sx_lkE_set, if_pos e1.symm]
        | false =>
          have hne : ¬ j = p.1 := fun z => by rw [z, sx_beq_rf] at hb; cases hb
          have e2 : sx_lkE j (sx_setE p.1 e r2) = sx_lkE j r2 := by rw [sx_lkE_set, if_neg hne]
          simp only [cond_false]
          rw [e2]
          exact ih
      · cases hr
    · cases hr
theorem sx_insA_ok {S : List (Nat × Nat)} : ∀ {l r : List (Nat × Nat)}, sx_insA ρ l S = some r → ∀ j, match sx_lkN j l with
    | some e => ∃ e', ρ e = some e' ∧ sx_lkN j r = some e'
    | none => sx_lkN j r = sx_lkN j S
  | [], r, hr, j => by
    cases hr
    rfl
  | p :: l, r, hr, j => by
    unfold sx_insA at hr
    split at hr
    · next r2 hr2 =>
      split at hr
      · next e he =>
        cases hr
        have ih := sx_insA_ok hr2 j
        rw [show sx_lkN j (p :: l) = (bif Nat.beq p.1 j then some p.2 else sx_lkN j l) from rfl]
        cases hb : Nat.beq p.1 j with
        | true =>
          have e1 := Nat.eq_of_beq_eq_true hb
          refine ⟨e, he, ?_⟩
          rw [sx_lkN_set, if_pos e1.symm]
        | false =>
          have hne : ¬ j = p.1 := fun z => by rw [z, sx_beq_rf] at hb; cases hb
          have e2 : sx_lkN j (sx_setN p.1 e r2) = sx_lkN j r2 := by rw [sx_lkN_set, if_neg hne]
          simp only [cond_false]
          rw [e2]
          exact ih
      · cases hr
    · cases hr
end SXU
