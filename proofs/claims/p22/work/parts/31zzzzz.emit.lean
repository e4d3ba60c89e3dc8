/-! TEXTS: both readers' checks, all facts -/
section SXEE
variable {P : sx_P} {σ : Nat → Int} {φ : sx_R} {D : sx_D}
def sx_EC (φ : sx_R) (A : List Nat) : Int → Nat → Prop := match A with
  | [a] => tr_ec (φ a)
  | _ => fun _ _ => False
def sx_QC (σ : Nat → Int) (l : List sx_E) (c : Int) : Prop := match l with
  | [x] => sx_ev σ x = c
  | _ => False
def sx_ER (φ : sx_R) (A : List Nat) : Int → Nat → Prop := match A with
  | [a, w] => tr_er (φ a) (φ w)
  | _ => fun _ _ => False
def sx_QR (σ : Nat → Int) (l : List sx_E) (c : Int) : Prop := match l with
  | [x, y] => tr_it c (sx_ev σ x) (sx_ev σ y)
  | _ => False
theorem sx_pu_ok {a : Nat} {u : sx_E} {p : Nat × sx_E} (hd : sx_d P sx_TGm σ φ D) (h : p ∈ sx_pu P D a u) : ∀ j : Nat, φ p.1 j = if j = (sx_ev σ u).toNat then sx_ev σ p.2 else φ a j := by
  obtain ⟨g, h1, h2⟩ := tr_fm_ok h
  have hg := hd.2.2.2.2 g h1
  unfold sx_pu1 at h2
  split at h2
  · next a' b i v =>
    cases c1 : (Nat.beq a' a && sx_eqp P D i u) with
    | false =>
      rw [c1] at h2
      have h2 : none = some p := h2
      cases h2
    | true =>
      rw [c1] at h2
      have h2 : some (b, v) = some p := h2
      cases h2
      rw [Bool.and_eq_true] at c1
      have hg := sx_fk5.mp hg
      rw [Nat.eq_of_beq_eq_true c1.1, sx_eqp_ok hd c1.2] at hg
      exact hg
  · cases h2
theorem sx_XC_ok {T V : Nat} (hd : sx_d P sx_TGm σ φ D) : sx_eH σ (sx_XC P D T V) (φ T) (φ V) (fun i => i + 1) (sx_EC φ) (sx_QC σ) := by
  refine ⟨sx_KC_ok hd, fun h hh => ?_, fun A u q hq hu => ?_, fun l f hl _ => ?_, fun l f hl => ?_, fun l c hl _ => ?_, fun A B k hk c i hi he => ?_, fun A u l hl c hc => ?_⟩
  · have hh : h ∈ tr_fm (sx_eC T V) D.2.2.2.2.1 := hh
    obtain ⟨g, h1, h2⟩ := tr_fm_ok hh
    have hg := hd.2.2.2.2 g h1
    unfold sx_eC at h2
    split at h2
    · next T' V' C w j o f r a u e =>
      cases c1 : (Nat.beq T' T && Nat.beq V' V) with
      | false =>
        rw [c1] at h2
        have h2 : none = some h := h2
        cases h2
      | true =>
        rw [c1] at h2
        have h2 : some ([C], w, j, o, f, r, a, u, e) = some h := h2
        cases h2
        rw [Bool.and_eq_true] at c1
        have hg := sx_n62.mp hg
        rw [Nat.eq_of_beq_eq_true c1.1, Nat.eq_of_beq_eq_true c1.2] at hg
        exact hg
    · cases h2
  · have hq : q ∈ sx_puC P D A u := hq
    unfold sx_puC at hq
    split at hq
    · next a =>
      obtain ⟨p, p1, p2⟩ := List.mem_map.mp hq
      subst p2
      have hp := sx_pu_ok hd p1
      refine ⟨fun c i hi he => ?_, fun c hc => ?_⟩
      · show φ p.1 i = c
        rw [hp i, if_neg hi]
        exact he
      · show φ p.1 (sx_ev σ u).toNat = c
        rw [hp, if_pos rfl]
        exact hc
    · cases hq
  · have hl : sx_inC P D V l f = true := hl
    unfold sx_inC at hl
    split at hl
    · next x _ =>
      obtain ⟨v, v1, v2⟩ := sx_o_ok hl
      show sx_ev σ x = φ V (sx_ev σ f).toNat
      rw [sx_sel_ok hd v1]
      exact sx_eqp_ok hd v2
    · cases hl
  · have hl : sx_imC P D T l f = true := hl
    unfold sx_imC at hl
    split at hl
    · next x _ =>
      obtain ⟨v, v1, v2⟩ := sx_o_ok hl
      show sx_ev σ x = -1 - φ T (sx_ev σ f).toNat
      rw [sx_sel_ok hd v1]
      have := (sx_eqp_ok hd v2).trans sx_ev_pk
      rw [sx_ev_ng] at this
      omega
    · cases hl
  · have hl : sx_icC P D l c = true := hl
    unfold sx_icC at hl
    split at hl
    · next x => exact (sx_eqp_ok hd hl).trans sx_ev_k
    · cases hl
  · have hk : sx_frC P D A B k = true := hk
    unfold sx_frC at hk
    split at hk
    · next a b _ =>
      show φ b i = c
      rw [sx_frm_ok hd hk i hi]
      exact he
    · cases hk
  · have hl : sx_iaC P D A u = some l := hl
    unfold sx_iaC at hl
    split at hl
    · next a =>
      split at hl
      · next x hx =>
        cases hl
        exact (sx_ia_ok hd hx).trans hc
      · cases hl
    · cases hl
theorem sx_cr_mem {q : List Nat × List sx_E} {m : List (Nat × sx_E)} : ∀ {l : List (Nat × sx_E)}, q ∈ sx_cr l m → ∃ p ∈ l, ∃ r ∈ m, q = ([p.1, r.1], [p.2, r.2])
  | [], h => by cases h
  | p :: l, h => by
    rcases List.mem_append.mp h with h | h
    · obtain ⟨r, r1, r2⟩ := List.mem_map.mp h
      exact ⟨p, List.mem_cons_self, r, r1, r2.symm⟩
    · obtain ⟨p', h1, r, h2, h3⟩ := sx_cr_mem (l := l) h
      exact ⟨p', List.mem_cons_of_mem _ h1, r, h2, h3⟩
theorem sx_XR_ok {C : Nat} {n : sx_E} (hd : sx_d P sx_TGm σ φ D) : sx_eH σ (sx_XR P D C n) (tr_kd (φ C) (sx_ev σ n).toNat) (tr_vl (φ C) (sx_ev σ n).toNat) (tr_nx (φ C) (sx_ev σ n).toNat) (sx_ER φ) (sx_QR σ) := by
  refine ⟨sx_KR_ok hd, fun h hh => ?_, fun A u q hq hu => ?_, fun l f hl h2 => ?_, fun l f hl => ?_, fun l c hl hc => ?_, fun A B k hk c i hi he => ?_, fun A u l hl c hc => ?_⟩
  · have hh : h ∈ tr_fm (sx_eR P D C n) D.2.2.2.2.1 := hh
    obtain ⟨g, h1, h2⟩ := tr_fm_ok hh
    have hg := hd.2.2.2.2 g h1
    unfold sx_eR at h2
    split at h2
    · next C' A W n' w j o f r a u e =>
      cases c1 : (Nat.beq C' C && sx_eqp P D n' n) with
      | false =>
        rw [c1] at h2
        have h2 : none = some h := h2
        cases h2
      | true =>
        rw [c1] at h2
        have h2 : some ([A, W], w, j, o, f, r, a, u, e) = some h := h2
        cases h2
        rw [Bool.and_eq_true] at c1
        have hg := sx_n63.mp hg
        rw [Nat.eq_of_beq_eq_true c1.1, sx_eqp_ok hd c1.2] at hg
        exact hg
    · cases h2
  · have hq : q ∈ sx_puR P D A u := hq
    unfold sx_puR at hq
    split at hq
    · next a w =>
      obtain ⟨p, p1, r, r1, e⟩ := sx_cr_mem hq
      subst e
      have hp := sx_pu_ok hd p1
      have hr := sx_pu_ok hd r1
      refine ⟨fun c i hi he => ?_, fun c hc => ?_⟩
      · show tr_it c (φ p.1 i) (φ r.1 i)
        rw [hp i, hr i, if_neg hi, if_neg hi]
        exact he
      · show tr_it c (φ p.1 (sx_ev σ u).toNat) (φ r.1 (sx_ev σ u).toNat)
        rw [hp, hr, if_pos rfl, if_pos rfl]
        exact hc
    · cases hq
  · have hl : sx_inR P D C n l f = true := hl
    unfold sx_inR at hl
    split at hl
    · next x y =>
      rw [Bool.and_eq_true] at hl
      have e1 := (sx_eqp_ok hd hl.1).trans sx_ev_k
      obtain ⟨g, g1, g2⟩ := sx_any_ok hl.2
      have hg := hd.2.2.2.2 g g1
      unfold sx_v44 at g2
      split at g2
      · next C' n' f' t v' =>
        simp only [Bool.and_eq_true] at g2
        obtain ⟨⟨k1, k2, k3⟩, k4, k5⟩ := g2
        have hg := sx_n44.mp hg ((sx_eqp_ok hd k4).trans sx_ev_k)
        rw [Nat.eq_of_beq_eq_true k1, sx_eqp_ok hd k2, sx_eqp_ok hd k3, sx_eqp_ok hd k5] at hg
        exact Or.inl ⟨tr_vl_nn h2, e1, hg⟩
      · cases g2
    · cases hl
  · have hl : sx_imR P D C n l f = true := hl
    unfold sx_imR at hl
    split at hl
    · next x y =>
      rw [Bool.and_eq_true] at hl
      have e1 := (sx_eqp_ok hd hl.1).trans sx_ev_k
      obtain ⟨c, c1, c2⟩ := sx_any_ok hl.2
      rw [Bool.and_eq_true] at c2
      have e2 := (sx_eqp_ok hd c2.1).trans sx_ev_k
      have e3 := (sx_kR_ok hd (sx_isT_ok c2.2)).1 rfl
      rw [sx_ev_k] at e3
      unfold sx_nms at c1
      simp only [List.mem_cons, List.not_mem_nil, or_false] at c1
      exact Or.inr (Or.inl ⟨by omega, by omega, e1, by omega⟩)
    · cases hl
  · have hl : sx_icR P D l c = true := hl
    unfold sx_icR at hl
    split at hl
    · next x y _ =>
      have e1 := (sx_eqp_ok hd hl).trans sx_ev_k
      show tr_it (-1 - c) (sx_ev σ x) (sx_ev σ y)
      rw [e1]
      rcases hc with rfl | rfl | hc
      · exact Or.inr (Or.inr (Or.inl ⟨rfl, rfl⟩))
      · exact Or.inr (Or.inr (Or.inr (Or.inl ⟨rfl, rfl⟩)))
      · unfold sx_jal at hc
        simp only [List.mem_cons, List.not_mem_nil, or_false] at hc
        rcases hc with rfl | rfl | rfl | rfl | rfl | rfl | rfl
        · exact Or.inr (Or.inr (Or.inr (Or.inr (Or.inr (Or.inl ⟨rfl, rfl⟩)))))
        · exact Or.inr (Or.inr (Or.inr (Or.inr (Or.inl ⟨rfl, rfl⟩))))
        · exact Or.inr (Or.inr (Or.inr (Or.inr (Or.inr (Or.inr ⟨by decide, rfl⟩)))))
        · exact Or.inr (Or.inr (Or.inr (Or.inr (Or.inr (Or.inr ⟨by decide, rfl⟩)))))
        · exact Or.inr (Or.inr (Or.inr (Or.inr (Or.inr (Or.inr ⟨by decide, rfl⟩)))))
        · exact Or.inr (Or.inr (Or.inr (Or.inr (Or.inr (Or.inr ⟨by decide, rfl⟩)))))
        · exact Or.inr (Or.inr (Or.inr (Or.inr (Or.inr (Or.inr ⟨by decide, rfl⟩)))))
    · cases hl
  · have hk : sx_frR P D A B k = true := hk
    unfold sx_frR at hk
    split at hk
    · next a w b x _ =>
      rw [Bool.and_eq_true] at hk
      show tr_it c (φ b i) (φ x i)
      rw [sx_frm_ok hd hk.1 i hi, sx_frm_ok hd hk.2 i hi]
      exact he
    · cases hk
  · have hl : sx_iaR P D A u = some l := hl
    unfold sx_iaR at hl
    split at hl
    · next a w _ =>
      split at hl
      · next x y hx hy =>
        cases hl
        show tr_it c (φ a (sx_ev σ u).toNat) (φ w (sx_ev σ u).toNat)
        rw [sx_ia_ok hd hx, sx_ia_ok hd hy]
        exact hc
      · cases hl
    · cases hl
theorem sx_hE_ok {f : sx_F} (hd : sx_d P sx_TGm σ φ D) (h : sx_hE P D f = true) : sx_fk sx_TGm σ φ f := by
  have any : ∀ {q : sx_F → Bool} {p : sx_F}, (∀ g, sx_fk sx_TGm σ φ g → q g = true → sx_fk sx_TGm σ φ p) → sx_any q D.2.2.2.2.1 = true → sx_fk sx_TGm σ φ p := fun hq hx => by
    obtain ⟨g, h1, h2⟩ := sx_any_ok hx
    exact hq g (hd.2.2.2.2 g h1) h2
  unfold sx_hE at h
  split at h
  · next C f i v =>
    rw [Bool.or_eq_true] at h
    rcases h with h | h
    · rw [Bool.and_eq_true, Bool.and_eq_true] at h
      have e1 := sx_eqp_ok hd h.1
      have e3 := sx_ge_ok hd h.2.2
      rw [sx_n42, (sx_eqp_ok hd h.2.1).trans sx_ev_k, ← e1, show (sx_ev σ f - sx_ev σ f).toNat = 0 by omega]
      exact ⟨e3, Int.le_refl _, rfl⟩
    · exact any (fun g hg => sx_h42_ok hd hg) h
  · next C f u v =>
    rw [Bool.or_eq_true] at h
    rcases h with h | h
    · rw [Bool.and_eq_true, Bool.and_eq_true] at h
      have e1 := sx_eqp_ok hd h.1
      have e3 := sx_ge_ok hd h.2.2
      rw [sx_n43, (sx_eqp_ok hd h.2.1).trans sx_ev_k, e1, if_neg (by omega), show (sx_ev σ f - sx_ev σ f).toNat = 0 by omega]
      exact ⟨e3, Int.le_refl _, rfl⟩
    · exact any (fun g hg => sx_h43_ok hd hg) h
  · next C n f t v =>
    rw [Bool.or_eq_true] at h
    rcases h with h | h
    · rw [sx_n44]
      intro z
      have := sx_nzb_ok hd h
      rw [sx_ev_pk] at this
      omega
    · exact any (fun g hg => sx_h44_ok hd hg) h
  · next T V C w j o f r a u e => exact sx_n62.mpr (sx_EA_ok hd (sx_XC_ok hd) h)
  · next C A W n w j o f r a u e => exact sx_n63.mpr (sx_EA_ok hd (sx_XR_ok hd) h)
  · next C ST EN A W PE S => exact any (fun g hg => sx_h81_ok hd hg) h
  · next C C1 ST EN E0 n S => exact sx_h82_ok hd h
  · next R A W PE n S => exact any (fun g hg => sx_h83_ok hd hg) h
  · next a b k => exact sx_n84.mpr (sx_frm_ok hd h)
  · next a b e S =>
    obtain ⟨x, x1, x2⟩ := sx_o_ok h
    have hx := sx_sel_ok hd x1
    rw [sx_ev_pk, sx_ev_sc, show 4 * sx_ev σ S + -1 = 4 * sx_ev σ S - 1 by omega] at hx
    rw [sx_n85, hx]
    exact sx_frm_ok hd x2
  · next R A W PE n p f S l le => exact sx_h86_ok hd h
  · next T V C ST EN p f S u ue => exact sx_h88_ok hd h
  · next a S =>
    rw [Bool.and_eq_true, Bool.or_eq_true] at h
    have eS := sx_ge_ok hd h.1
    rw [sx_ev_pk] at eS
    rcases h.2 with h2 | h2
    · exact any (fun g hg => sx_h89_ok hd (by omega) hg) h2
    · obtain ⟨x, x1, x2⟩ := sx_o_ok h2
      rw [Bool.and_eq_true] at x2
      have hx := sx_ia_ok hd x1
      rw [sx_ev_pk, sx_ev_sc, show 4 * sx_ev σ S + -1 = 4 * sx_ev σ S - 1 by omega] at hx
      have e1 := sx_ge_ok hd x2.1
      have e2 := sx_ge_ok hd x2.2
      rw [sx_ev_sb, sx_ev_sc] at e2
      rw [sx_n89, hx]
      exact ⟨e1, by omega⟩
  · next C F K s i u =>
    rw [Bool.or_eq_true] at h
    rcases h with h | h
    · rw [Bool.and_eq_true, Bool.and_eq_true] at h
      have e1 := sx_eqp_ok hd h.1
      have e3 := sx_ge_ok hd h.2.2
      rw [sx_n91, (sx_eqp_ok hd h.2.1).trans sx_ev_k, ← e1, show (sx_ev σ s - sx_ev σ s).toNat = 0 by omega]
      exact ⟨e3, Int.le_refl _, Int.le_refl _, rfl⟩
    · exact any (fun g hg => sx_h91_ok hd hg) h
  · next t a b x => exact sx_n92.mpr (sx_op1_ok hd h)
  · next C F s e x => exact any (fun g hg => sx_h93_ok hd hg) h
  · next C ST EN F t p x => exact sx_h95_ok hd h
  · next A W PE F t p x => exact any (fun g hg => sx_h96_ok hd hg) h
  · next C T V n m =>
    rw [Bool.or_eq_true] at h
    rcases h with h | h
    · rw [sx_n98, (sx_eqp_ok hd h).trans sx_ev_k]
      intro k hk
      omega
    · exact any (fun g hg => sx_h98_ok hd hg) h
  · next ST EN S => exact any (fun g hg => sx_h99_ok hd hg) h
  · next A W PE F K t p k n =>
    rw [Bool.or_eq_true] at h
    rcases h with h | h
    · exact sx_i01_ok hd h
    · exact any (fun g hg => sx_h01_ok hd hg) h
  · next PE S => exact any (fun g hg => sx_h02_ok hd hg) h
  · next t a b x => exact sx_n04.mpr (sx_ob1_ok hd h)
  · next CP CG CK DY RT RF A W PE m c x => exact sx_h05_ok hd h
  · next A c o n =>
    rw [Bool.or_eq_true] at h
    rcases h with h | h
    · rw [Bool.and_eq_true, Bool.and_eq_true] at h
      have e1 := sx_ge_ok hd h.1
      rw [sx_n07, (sx_eqp_ok hd h.2.1).trans sx_ev_k, (sx_eqp_ok hd h.2.2).trans sx_ev_k]
      exact ⟨e1, Int.le_refl _, rfl⟩
    · exact any (fun g hg => sx_h07_ok hd hg) h
  · cases h
end SXEE
