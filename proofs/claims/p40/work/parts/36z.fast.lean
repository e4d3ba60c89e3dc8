/-! THE SAME ENDS -/
section SXFA
variable {P : sx_P} {K : sx_K} {σ τ σ0 : Nat → Int} {φ ψ φ0 : sx_R} {D : sx_D} {M : mx_M} {O : sx_O}
theorem sx_nbT_et {n : Nat} (h : ∀ i, n ≤ i → τ i = σ i) : ∀ {l : sx_T}, sx_nbT n l = true → sx_et τ l = sx_et σ l
  | [], _ => rfl
  | p :: l, hb => by
    have hb := (Bool.and_eq_true _ _).mp hb
    show p.2 * τ p.1 + sx_et τ l = p.2 * σ p.1 + sx_et σ l
    rw [h p.1 (Nat.le_of_ble_eq_true hb.1), sx_nbT_et h hb.2]
theorem sx_nbT_ev {n : Nat} (h : ∀ i, n ≤ i → τ i = σ i) {e : sx_E} (hb : sx_nbT n e.2 = true) : sx_ev τ e = sx_ev σ e := by
  show e.1 + sx_et τ e.2 = e.1 + sx_et σ e.2
  rw [sx_nbT_et h hb]
theorem sx_map_eq {α β : Type} {f g : α → β} : ∀ {l : List α}, (∀ a ∈ l, f a = g a) → l.map f = l.map g
  | [], _ => rfl
  | a :: l, h => by
    rw [List.map_cons, List.map_cons, h a List.mem_cons_self, sx_map_eq fun b hb => h b (List.mem_cons_of_mem _ hb)]
theorem sx_nbF_fk {TG : sx_TG} {n : Nat} (h : ∀ i, n ≤ i → τ i = σ i) (h2 : ∀ a, 256 ≤ a → ψ a = φ a) {f : sx_F} (hb : sx_nbF n f = true) (hf : sx_fk TG σ φ f) : sx_fk TG τ ψ f := by
  have hb := (Bool.and_eq_true _ _).mp hb
  unfold sx_fk at hf ⊢
  rw [sx_map_eq (f := ψ) (g := φ) fun a ha => h2 a (Nat.le_of_ble_eq_true (sx_alb_ok hb.1 a ha)), sx_map_eq (f := sx_ev τ) (g := sx_ev σ) fun e he => sx_nbT_ev h (sx_alb_ok hb.2 e he)]
  exact hf
theorem sx_eqW_eq {a b : Value} (h : sx_eqW a b = true) : a = b := by
  unfold sx_eqW at h
  split at h
  · rw [Nat.eq_of_beq_eq_true h]
  · rfl
  · cases h
theorem sx_eqF_eq2 {f g : sx_F} (h : sx_eqF f g = true) : f = g := by
  unfold sx_eqF at h
  rw [Bool.and_eq_true, Bool.and_eq_true] at h
  exact Prod.ext (Nat.eq_of_beq_eq_true h.1) (Prod.ext (sx_eqN_eq h.2.1) (sx_eqL_eq h.2.2))
theorem sx_eqFs_eq : ∀ {a b : List sx_F}, sx_eqFs a b = true → a = b
  | [], [], _ => rfl
  | [], _ :: _, h => by cases h
  | _ :: _, [], h => by cases h
  | a :: l, b :: r, h => by
    have h := (Bool.and_eq_true _ _).mp h
    rw [sx_eqF_eq2 h.1, sx_eqFs_eq h.2]
theorem sx_eqS_eq : ∀ {a b : List (Nat × sx_E)}, sx_eqS a b = true → a = b
  | [], [], _ => rfl
  | [], _ :: _, h => by cases h
  | _ :: _, [], h => by cases h
  | a :: l, b :: r, h => by
    have h : ((Nat.beq a.1 b.1 && sx_eq a.2 b.2) && sx_eqS l r) = true := h
    rw [Bool.and_eq_true, Bool.and_eq_true] at h
    rw [Prod.ext (Nat.eq_of_beq_eq_true h.1.1) (sx_eq_eq h.1.2), sx_eqS_eq h.2]
theorem sx_eqA_eq : ∀ {a b : List (Nat × Nat)}, sx_eqA a b = true → a = b
  | [], [], _ => rfl
  | [], _ :: _, h => by cases h
  | _ :: _, [], h => by cases h
  | a :: l, b :: r, h => by
    have h : ((Nat.beq a.1 b.1 && Nat.beq a.2 b.2) && sx_eqA l r) = true := h
    rw [Bool.and_eq_true, Bool.and_eq_true] at h
    rw [Prod.ext (Nat.eq_of_beq_eq_true h.1.1) (Nat.eq_of_beq_eq_true h.1.2), sx_eqA_eq h.2]
theorem sx_eqV_eq {a b : Option sx_V} (h : sx_eqV a b = true) : a = b := by
  unfold sx_eqV at h
  split at h
  · rfl
  · rw [sx_eqW_eq h]
  · next b e b' e' =>
    rw [Bool.and_eq_true] at h
    rw [show b = b' from eq_of_beq h.1, sx_eq_eq h.2]
  · cases h
theorem sx_fast_ok {as : List sx_E} {m0' : Nat} {r : Option Value} {O : sx_O} (ho : sx_own P.2.2.1) (hm : 256 ≤ sx_m0 K) (hm' : 256 ≤ m0') (hag : sx_ag2 (sx_m0 K) 256 σ0 σ φ0 φ) (he : sx_end P sx_TGm m0' O (sx_cσ D as σ) (sx_cφ D φ) r M) (h : sx_fast1 P K D O = true) : sx_post P sx_TGm (sx_m0 K) K.2.2.2.2.2.2.1 σ0 φ0 r M := by
  unfold sx_fast1 at h
  rw [Bool.and_eq_true, Bool.and_eq_true] at h
  obtain ⟨h1, h2, h3⟩ := h
  obtain ⟨O', o1, o2⟩ := sx_any_ok h1
  unfold sx_eqO at o2
  simp only [Bool.and_eq_true] at o2
  obtain ⟨⟨q1, q2⟩, q3, q4, q5⟩ := o2
  have q1 := sx_eqV_eq q1
  have q2 := sx_eqS_eq q2
  have q3 := sx_eqA_eq q3
  have q4 := sx_eqL_eq q4
  have q5 := sx_eqFs_eq q5
  unfold sx_clo at h2
  simp only [Bool.and_eq_true] at h2
  obtain ⟨c1, c2, c3, c4, c5⟩ := h2
  unfold sx_cov at h3
  rw [Bool.and_eq_true] at h3
  obtain ⟨v1, v2⟩ := h3
  obtain ⟨σ', φ', e1, e2, e3, e4, e5⟩ := he
  have hσ : ∀ i, sx_m0 K ≤ i → (fun x => if x < sx_m0 K then σ0 x else σ' x) i = σ' i := fun i hi => if_neg (by omega)
  have hφ : ∀ a, 256 ≤ a → (fun a => if a < 256 then φ0 a else φ' a) a = φ' a := fun a ha => if_neg (by omega)
  refine ⟨O', o1, (fun x => if x < sx_m0 K then σ0 x else σ' x), (fun a => if a < 256 then φ0 a else φ' a), ⟨fun i hi => if_pos hi, fun a ha => if_pos ha⟩, ?_, ?_, ?_, ?_⟩
  · rw [← q1]
    match O.1, r, e2, c1 with
    | none, none, _, _ => trivial
    | none, some _, e2, _ => exact e2.elim
    | some _, none, e2, _ => exact e2.elim
    | some (.inl w), some v, e2, _ => exact e2
    | some (.inr (true, e)), some v, ⟨x, x1, x2⟩, c1 => exact ⟨x, x1, x2.trans (sx_nbT_ev hσ c1).symm⟩
    | some (.inr (false, e)), some v, ⟨x, x1, x2⟩, c1 => exact ⟨x, x1, x2.trans (sx_nbT_ev hσ c1).symm⟩
  · rw [← q2, ← q3]
    refine sx_mm_mk e3.1 e3 (fun q ci k j fs hq hf => ?_) fun q t n j hq i hi => ?_
    · have hj := ho.2.2.1 q ci fs k j hq hf
      rw [sx_sg_list]
      cases hl : sx_lkE j O.2.1 with
      | some e =>
        show sx_ev _ e = sx_ev _ e
        exact sx_nbT_ev hσ (sx_alb_ok c2 _ (sx_lkE_mem hl))
      | none =>
        simp only [sx_ev_v]
        rw [if_pos (by omega), e1.1 j (by omega)]
        unfold sx_cσ
        rw [if_pos (by omega)]
        have e6 : sx_sg D j = sx_v j := by
          unfold sx_sg
          cases hl2 : sx_lkE j D.1 with
          | none => rfl
          | some e =>
            have := sx_alb_ok v1 _ (sx_lkE_mem hl2)
            rw [show (sx_lkE (j, e).1 O.2.1) = sx_lkE j O.2.1 from rfl, hl] at this
            cases this
        rw [e6, sx_ev_v]
        exact (hag.1 j (by omega)).symm
    · have hj := (ho.2.2.2.1 q t n j hq).1
      rw [sx_ag_list]
      cases hl : sx_lkN j O.2.2.1 with
      | some e =>
        show (if e < 256 then φ0 e else φ' e) i = φ' e i
        rw [if_neg (by have := Nat.le_of_ble_eq_true (sx_alb_ok c3 _ (sx_lkN_mem hl)); omega)]
      | none =>
        show (if j < 256 then φ0 j else φ' j) i = φ' j i
        rw [if_pos (by omega), e1.2 j (by omega)]
        unfold sx_cφ
        rw [if_pos (by omega)]
        have e6 : sx_ag D j = j := by
          unfold sx_ag
          cases hl2 : sx_lkN j D.2.1 with
          | none => rfl
          | some e =>
            have := sx_alb_ok v2 _ (sx_lkN_mem hl2)
            rw [show (sx_lkN (j, e).1 O.2.2.1) = sx_lkN j O.2.2.1 from rfl, hl] at this
            cases this
        rw [e6, hag.2 j (by omega)]
  · rw [← q4]
    exact fun e he => by
      rw [sx_nbT_ev hσ (sx_alb_ok c4 e he)]
      exact e4 e he
  · rw [← q5]
    exact fun f hf => sx_nbF_fk hσ hφ (sx_alb_ok c5 f hf) (e5 f hf)
end SXFA
