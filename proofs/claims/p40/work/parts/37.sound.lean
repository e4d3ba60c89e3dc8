/-! A RUN THAT IS GOOD IS GOOD -/
section SXZ
variable {P : sx_P} {SA : mx_S} {CT : sx_T2} {K : sx_K} {σ τ σ0 : Nat → Int} {φ ψ φ0 : sx_R} {D D' : sx_D} {M M' : mx_M} {as : List sx_V} {as' : List Value} {rv : Option sx_V} {r : Option Value}
abbrev sx_rf : Type := Nat × Nat × mx_L × List Value
def sx_crs (σ : Nat → Int) : List sx_fm1 → List sx_rf → Prop
  | [], [] => True
  | a :: as, f :: fs => (a.1 = f.1 ∧ a.2.1 = f.2.1 ∧ sx_lr σ a.2.2.1 f.2.2.1 ∧ sx_vs σ a.2.2.2 f.2.2.2) ∧ sx_crs σ as fs
  | _, _ => False
theorem sx_crs_len : ∀ {as : List sx_fm1} {fs : List sx_rf}, sx_crs σ as fs → as.length = fs.length
  | [], [], _ => rfl
  | [], _ :: _, h => h.elim
  | _ :: _, [], h => h.elim
  | _ :: as, _ :: fs, h => by
    have := sx_crs_len (as := as) (fs := fs) h.2
    simp [this]
abbrev sx_rn (SA : mx_S) (d k n : Nat) (c : mx_C) (r : Option Value) (M : mx_M) : Prop := mx_run (mx_Ev SA mx_code d) (mr_o SA) (sx_cd k) n c r M
def sx_fin (SA : mx_S) (Q : Option Value → mx_M → Prop) : Nat → List sx_rf → Option Value → mx_M → Prop
  | _, [], r, M => Q r M
  | d, f :: fs, r, M => ∃ n r' M', sx_rn SA (d + 1) f.1 n (f.2.1 + 3, f.2.2.1, r.toList ++ f.2.2.2, M) r' M' ∧ sx_fin SA Q (d + 1) fs r' M'
def sx_good (SA : mx_S) (Q : Option Value → mx_M → Prop) (d : Nat) (fs : List sx_rf) (k : Nat) (c : mx_C) : Prop := ∃ n r M', sx_rn SA d k n c r M' ∧ sx_fin SA Q d fs r M'
/-- what a contract says, depth d -/
def sx_cv (P : sx_P) (SA : mx_S) (sx_TGm : sx_TG) (d : Nat) (K : sx_K) (σ : Nat → Int) (φ : sx_R) : Prop := ∀ (lv : mx_L) (M : mx_M), (∀ τ ψ, sx_ag2 (sx_m0 K) 256 σ τ φ ψ → sx_lr τ K.2.2.1 lv ∧ sx_ok P SA sx_TGm τ ψ (sx_D0 P K) M) →
  ∃ n r M', sx_rn SA d K.1 n (K.2.1, lv, [], M) r M' ∧ sx_post P sx_TGm (sx_m0 K) K.2.2.2.2.2.2.1 σ φ r M'
def sx_val (P : sx_P) (SA : mx_S) (sx_TGm : sx_TG) (d : Nat) (K : sx_K) : Prop := ∀ σ φ, sx_ev σ K.2.2.2.2.2.2.2.1 ≤ d → sx_cv P SA sx_TGm d K σ φ
abbrev sx_qs (P : sx_P) (SA : mx_S) (sx_TGm : sx_TG) (q : sx_Q) (fs : List sx_rf) (c : mx_C) (σ : Nat → Int) (φ : sx_R) : Prop := sx_rel P SA sx_TGm σ φ q.2.2 c ∧ sx_crs σ q.2.1 fs
abbrev sx_qst (P : sx_P) (SA : mx_S) (sx_TGm : sx_TG) (q : sx_Q) (fs : List sx_rf) (c : mx_C) (σ : Nat → Int) (φ : sx_R) : Prop := sx_st (sx_nx q.2.2.2.2.2) (sx_nm q.2.2.2.2.2) σ φ (sx_qs P SA sx_TGm q fs c)
/-- what is known of the contract under check -/
def sx_hyp (P : sx_P) (SA : mx_S) (sx_TGm : sx_TG) (CT : sx_T2) (K : sx_K) (d0 : Nat) (σ0 : Nat → Int) : Prop :=
  (sx_own P.2.2.1 ∧ (∀ j x, mx_SAx j = some x → mx_kd x.1 x.2 = true ∧ x.1 < 4 ∧ x.2.1 < 2000) ∧ (∀ x p, P.1 x = some p → x < 256) ∧ (∀ x p, P.2.1 x = some p → x < 256) ∧ P.2.2.2 ≤ 1000) ∧
  (∀ k K', K' ∈ CT.1 k → K'.1 = k) ∧ sx_blw (sx_m0 K) K.2.2.2.2.2.2.2.1.2 = true ∧ sx_blw (sx_m0 K) K.2.2.2.2.2.2.2.2.2 = true ∧
  (∀ d, d < d0 → ∀ k K', K' ∈ CT.1 k → sx_val P SA sx_TGm d K') ∧
  (∀ k K', K' ∈ CT.1 k → ∀ σ φ, sx_ev σ K'.2.2.2.2.2.2.2.1 ≤ d0 → 0 ≤ sx_ev σ K'.2.2.2.2.2.2.2.2 → sx_ev σ K'.2.2.2.2.2.2.2.2 < sx_ev σ0 K.2.2.2.2.2.2.2.2 → sx_cv P SA sx_TGm d0 K' σ φ) ∧
  sx_ev σ0 K.2.2.2.2.2.2.2.1 ≤ d0
abbrev sx_Q0 (P : sx_P) (sx_TGm : sx_TG) (K : sx_K) (σ0 : Nat → Int) (φ0 : sx_R) : Option Value → mx_M → Prop := sx_post P sx_TGm (sx_m0 K) K.2.2.2.2.2.2.1 σ0 φ0
/-- all that a checked state promises -/
def sx_pr (P : sx_P) (SA : mx_S) (sx_TGm : sx_TG) (K : sx_K) (d0 : Nat) (σ0 : Nat → Int) (φ0 : sx_R) (rec : sx_Q → Bool) : Prop := ∀ q, rec q = true → ∀ σ φ d fs c, sx_qst P SA sx_TGm q fs c σ φ → sx_ag2 (sx_m0 K) 256 σ0 σ φ0 φ → sx_m0 K ≤ sx_nx q.2.2.2.2.2 → d + fs.length = d0 → sx_good SA (sx_Q0 P sx_TGm K σ0 φ0) d fs q.1 c
theorem sx_blw_ev {n : Nat} (h : ∀ i, i < n → τ i = σ i) {e : sx_E} (hb : sx_blw n e.2 = true) : sx_ev τ e = sx_ev σ e := by
  show e.1 + sx_et τ e.2 = e.1 + sx_et σ e.2
  rw [sx_blw_ok h hb]
theorem sx_opt_ok {st : List sx_V} {st' : List Value} (hr : sx_rr σ rv r) (hs : sx_vs σ st st') : sx_vs σ (sx_opt rv st) (r.toList ++ st') :=
  match rv, r, hr with
  | none, none, _ => hs
  | some _, some _, hr => ⟨hr, hs⟩
  | none, some _, hr => hr.elim
  | some _, none, hr => hr.elim
/-- back to the caller -/
theorem sx_back_ok {d0 d : Nat} {rec : sx_Q → Bool} {fa : List sx_fm1} {fs : List sx_rf} (H : sx_hyp P SA sx_TGm CT K d0 σ0) (hrec : sx_pr P SA sx_TGm K d0 σ0 φ0 rec) (hst : sx_st (sx_nx D) (sx_nm D) σ φ (fun σ φ => (sx_ok P SA sx_TGm σ φ D M ∧ sx_rr σ rv r) ∧ sx_crs σ fa fs)) (hag : sx_ag2 (sx_m0 K) 256 σ0 σ φ0 φ) (hn : sx_m0 K ≤ sx_nx D) (hd : d + fs.length = d0) (h : sx_back P K rec fa rv D = true) : sx_fin SA (sx_Q0 P sx_TGm K σ0 φ0) d fs r M := by
  have hh := hst σ φ sx_ag2.rf
  match fa, fs, hh, hst, h, hd with
  | [], [], hh, hst, h, _ =>
    have h : sx_any (sx_mO P (sx_m0 K) D rv) K.2.2.2.2.2.2.1 = true := h
    obtain ⟨O, h1, h2⟩ := sx_any_ok h
    exact ⟨O, h1, sx_mO_ok H.1.1 (Nat.le_add_right _ _) hh.1.1 hh.1.2 hag h2⟩
  | f :: fa, g :: fs, hh, hst, h, hd =>
    have h : rec (f.1, fa, (f.2.1 + 3, f.2.2.1, sx_opt rv f.2.2.2, D)) = true := h
    have hg := hrec _ h σ φ (d + 1) fs (g.2.1 + 3, g.2.2.1, r.toList ++ g.2.2.2, M) (fun σ' φ' ha => by
      have h1 := hst σ' φ' ha
      obtain ⟨⟨k1, k2⟩, ⟨e1, e2, e3, e4⟩, k3⟩ := h1
      exact ⟨⟨congrArg (· + 3) e2, e3, sx_opt_ok k2 e4, k1⟩, k3⟩) hag hn (by simp at hd; omega)
    have e1 : f.1 = g.1 := hh.2.1.1
    obtain ⟨n, r', M', h1, h2⟩ := hg
    exact ⟨n, r', M', by rw [← e1]; exact h1, h2⟩
/-- contracts that are used -/
theorem sx_find_ok {lv : sx_L} {pc : Nat} {p : sx_K × List sx_E} : ∀ {l : List sx_K}, sx_find P D lv pc l = some p → p.1 ∈ l ∧ p.1.2.1 = pc ∧ sx_pre P D lv p.1 = some p.2
  | [], h => by cases h
  | K' :: l, h => by
    unfold sx_find at h
    cases hb : Nat.beq K'.2.1 pc with
    | false =>
      rw [hb] at h
      obtain ⟨h1, h2⟩ := sx_find_ok (l := l) h
      exact ⟨List.mem_cons_of_mem _ h1, h2⟩
    | true =>
      rw [hb] at h
      simp only [cond_true] at h
      split at h
      · next q hq =>
        cases h
        unfold sx_use1 at hq
        split at hq
        · next as has =>
          cases hq
          exact ⟨List.mem_cons_self, Nat.eq_of_beq_eq_true hb, has⟩
        · cases hq
      · obtain ⟨h1, h2⟩ := sx_find_ok (l := l) h
        exact ⟨List.mem_cons_of_mem _ h1, h2⟩
/-- behind a contract: one of its ends -/
theorem sx_use_ok {lv : sx_L} {lr : mx_L} {es : List sx_E} {K' : sx_K} {d0 d : Nat} {X : sx_O → Prop} (H : sx_hyp P SA sx_TGm CT K d0 σ0) (hst : sx_st (sx_nx D) (sx_nm D) σ φ (fun σ φ => sx_ok P SA sx_TGm σ φ D M)) (hl : sx_lr σ lv lr) (hp : sx_pre P D lv K' = some es)
    (hv : sx_cv P SA sx_TGm d K' (sx_cσ D es σ) (sx_cφ D φ)) (hX : ∀ O ∈ K'.2.2.2.2.2.2.1, X O) : ∃ n r M', sx_rn SA d K'.1 n (K'.2.1, lr, [], M) r M' ∧ ∃ O, X O ∧ ∀ rv D', sx_ins P D es K'.2.2.2.1.length O = some (rv, D') → sx_bh P SA sx_TGm D σ φ rv D' r M' := by
  obtain ⟨p1, p2⟩ := sx_pre_ok H.1.1 H.1.2.2.1 H.1.2.2.2.1 (hst σ φ sx_ag2.rf) hl hp
  obtain ⟨n, r, M', h1, O, h2, σ', φ', h3, h4, h5, h6, h7⟩ := hv lr M p1
  exact ⟨n, r, M', h1, O, hX O h2, fun rv D' hi => sx_ins_ok H.1.1 hst h3 h4 h5 h6 h7 hi⟩
theorem sx_hOk_ok {es : List sx_E} {n : Nat} {K' : sx_K} (hd : sx_d P sx_TGm σ φ D) (his : sx_is (sx_th D es K'.2.2.2.1.length 0) τ σ) (h : sx_hOk P K D es n K' = true) : sx_ev τ K'.2.2.2.2.2.2.2.1 + n ≤ sx_ev σ K.2.2.2.2.2.2.2.1 := by
  unfold sx_hOk at h
  split at h
  · next e he =>
    have h1 := sx_ge_ok hd h
    rw [sx_ev_pk, sx_ev_sb, sx_sE_ok his he] at h1
    omega
  · cases h
theorem sx_mOk_ok {es : List sx_E} {K' : sx_K} (hd : sx_d P sx_TGm σ φ D) (his : sx_is (sx_th D es K'.2.2.2.1.length 0) τ σ) (h : sx_mOk P K D es K' = true) : 0 ≤ sx_ev τ K'.2.2.2.2.2.2.2.2 ∧ sx_ev τ K'.2.2.2.2.2.2.2.2 < sx_ev σ K.2.2.2.2.2.2.2.2 := by
  unfold sx_mOk at h
  split at h
  · next e he =>
    rw [Bool.and_eq_true] at h
    have h1 := sx_gf_ok hd h.1
    have h2 := sx_gf_ok hd h.2
    rw [sx_ev_pk, sx_ev_sb, sx_sE_ok his he] at h1
    rw [sx_sE_ok his he] at h2
    omega
  · cases h
theorem sx_tail_ok {d0 d : Nat} {rec : sx_Q → Bool} {q : sx_Q} {fs : List sx_rf} {c : mx_C} (H : sx_hyp P SA sx_TGm CT K d0 σ0) (hrec : sx_pr P SA sx_TGm K d0 σ0 φ0 rec) (hst : sx_qst P SA sx_TGm q fs c σ φ) (hag : sx_ag2 (sx_m0 K) 256 σ0 σ φ0 φ) (hn : sx_m0 K ≤ sx_nx q.2.2.2.2.2) (hd : d + fs.length = d0) (h0 : q.2.2.2.2.1 = [])
    (h : sx_tail P K rec q (sx_find P q.2.2.2.2.2 q.2.2.2.1 q.2.2.1 (CT.1 q.1)) = true) : sx_good SA (sx_Q0 P sx_TGm K σ0 φ0) d fs q.1 c := by
  unfold sx_tail at h
  split at h
  · cases h
  · next K' es hf =>
    simp only [Bool.and_eq_true] at h
    obtain ⟨h1, h2, h3⟩ := h
    obtain ⟨f1, f2, f3⟩ := sx_find_ok hf
    have f2 : K'.2.1 = q.2.2.1 := f2
    have f3 : sx_pre P q.2.2.2.2.2 q.2.2.2.1 K' = some es := f3
    have hh := hst σ φ sx_ag2.rf
    have hk : sx_st (sx_nx q.2.2.2.2.2) (sx_nm q.2.2.2.2.2) σ φ (fun σ φ => sx_ok P SA sx_TGm σ φ q.2.2.2.2.2 c.2.2.2) := fun σ' φ' ha => (hst σ' φ' ha).1.2.2.2
    obtain ⟨p1, p2⟩ := sx_pre_ok H.1.1 H.1.2.2.1 H.1.2.2.2.1 hh.1.2.2.2 hh.1.2.1 f3
    have hlen := sx_crs_len hh.2
    have b1 := sx_hOk_ok hh.1.2.2.2.2.1 p2 h1
    have b2 := sx_blw_ev (σ := σ0) (τ := σ) (fun i hi => hag.1 i hi) H.2.2.1
    have b3 := H.2.2.2.2.2.2
    have hv : sx_cv P SA sx_TGm d K' (sx_cσ q.2.2.2.2.2 es σ) (sx_cφ q.2.2.2.2.2 φ) := by
      cases hq : q.2.1 with
      | nil =>
        rw [hq] at h2
        have c1 := sx_mOk_ok hh.1.2.2.2.2.1 p2 h2
        have c2 := sx_blw_ev (σ := σ0) (τ := σ) (fun i hi => hag.1 i hi) H.2.2.2.1
        rw [hq] at hlen
        simp at hlen
        have e : d = d0 := by omega
        subst e
        refine H.2.2.2.2.2.1 q.1 K' f1 _ _ ?_ c1.1 (by omega)
        rw [hq] at b1
        simp at b1
        omega
      | cons x l =>
        rw [hq] at hlen
        simp at hlen
        refine H.2.2.2.2.1 d (by omega) q.1 K' f1 _ _ ?_
        rw [hq] at b1
        simp at b1
        omega
    cases hfast : sx_fast P K q.2.2.2.2.2 q.2.1 K' with
    | true =>
      have e1 : K'.1 = q.1 := H.2.1 q.1 K' f1
      have e2 : q.2.2.1 = c.1 := hh.1.1
      have e3 : c.2.2.1 = [] := by
        have := hh.1.2.2.1
        rw [h0] at this
        match c.2.2.1, this with
        | [], _ => rfl
      obtain ⟨n, r, M', g1, O, g2, g3⟩ := hv c.2.1 c.2.2.2 p1
      have hfs : fs = [] := by
        unfold sx_fast at hfast
        split at hfast
        · next hq =>
          rw [hq] at hlen
          exact List.eq_nil_of_length_eq_zero hlen.symm
        · cases hfast
      have hf1 : sx_alb (sx_fast1 P K q.2.2.2.2.2) K'.2.2.2.2.2.2.1 = true := by
        unfold sx_fast at hfast
        split at hfast
        · exact hfast
        · cases hfast
      refine ⟨n, r, M', ?_, ?_⟩
      · rw [← e1]
        have e4 : c = (K'.2.1, c.2.1, [], c.2.2.2) := by
          rw [f2, e2, ← e3]
        rw [e4]
        exact g1
      · rw [hfs]
        exact sx_fast_ok (D := q.2.2.2.2.2) H.1.1 (Nat.le_add_right _ _) (Nat.le_add_right _ _) hag g3 (sx_alb_ok hf1 O g2)
    | false =>
    rw [hfast] at h3
    have h3 : sx_alb (fun O => sx_back1 P K rec q.2.1 (sx_ins P q.2.2.2.2.2 es K'.2.2.2.1.length O)) K'.2.2.2.2.2.2.1 = true := h3
    obtain ⟨n, r, M', g1, O, g2, g3⟩ := sx_use_ok (X := fun O => sx_back1 P K rec q.2.1 (sx_ins P q.2.2.2.2.2 es K'.2.2.2.1.length O) = true) H hk hh.1.2.1 f3 hv (fun O hO => sx_alb_ok h3 O hO)
    unfold sx_back1 at g2
    split at g2
    · next rv D' hi =>
      obtain ⟨i1, i2, σ2, φ2, i3, i4⟩ := g3 rv D' hi
      have e1 : K'.1 = q.1 := H.2.1 q.1 K' f1
      have e2 : q.2.2.1 = c.1 := hh.1.1
      have e3 : c.2.2.1 = [] := by
        have := hh.1.2.2.1
        rw [h0] at this
        match c.2.2.1, this with
        | [], _ => rfl
      refine ⟨n, r, M', ?_, sx_back_ok (D := D') (σ := σ2) (φ := φ2) (rv := rv) H hrec (fun σ' φ' ha => ⟨i4 σ' φ' ha, (hst σ' φ' (i3.tr (Nat.le_refl _) (Nat.le_refl _) ⟨fun i hi => ha.1 i (by omega), fun a hi => ha.2 a (by omega)⟩)).2⟩) (hag.tr hn hh.1.2.2.2.2.2.2.2.2.1 i3) (by omega) hd g2⟩
      rw [← e1]
      have e4 : c = (K'.2.1, c.2.1, [], c.2.2.2) := by
        rw [f2, e2, ← e3]
      rw [e4]
      exact g1
    · cases g2
end SXZ
