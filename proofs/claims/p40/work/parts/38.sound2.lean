/-! CALLS, ENDS, AND THE WHOLE CHECK -/
section SXY
variable {P : sx_P} {SA : mx_S} {CT : sx_T2} {K : sx_K} {σ τ σ0 : Nat → Int} {φ ψ φ0 : sx_R} {D D' : sx_D} {M M' : mx_M} {as : List sx_V} {as' : List Value} {rv : Option sx_V} {r : Option Value}
/-- the topmost of a stack, the lowest first -/
def sx_tk (n : Nat) (st : List Value) : List Value := (st.take n).reverse
theorem sx_pop_ok : ∀ {n : Nat} {st acc as rest : List sx_V} {st' acc' : List Value}, sx_pop n st acc = some (as, rest) → sx_vs σ st st' → sx_vs σ acc acc' → sx_vs σ as (sx_tk n st' ++ acc') ∧ sx_vs σ rest (st'.drop n) ∧ n ≤ st'.length
  | 0, st, acc, as, rest, st', acc', h, hs, ha => by
    cases h
    exact ⟨by simpa [sx_tk] using ha, by simpa using hs, Nat.zero_le _⟩
  | n + 1, [], acc, as, rest, st', acc', h, hs, ha => by cases h
  | n + 1, v :: st, acc, as, rest, st', acc', h, hs, ha => by
    obtain ⟨w, rs, rfl, hw, hs2⟩ := sx_vs_c hs
    have h : sx_pop n st (v :: acc) = some (as, rest) := h
    obtain ⟨h1, h2, h3⟩ := sx_pop_ok h hs2 (acc' := w :: acc') ⟨hw, ha⟩
    refine ⟨?_, by simpa using h2, by simpa using h3⟩
    unfold sx_tk at h1 ⊢
    simpa using h1
theorem sx_lva_ok : ∀ {as : List sx_V} {as' : List Value} {k : Nat}, sx_vs σ as as' → sx_lr σ (sx_lva k as) (lv_args k as')
  | [], [], _, _ => fun i a h => by cases h
  | [], _ :: _, _, h => h.elim
  | _ :: _, [], _, h => h.elim
  | a :: as, v :: vs, k, h => by
    intro i b hb
    have e : (bif sx_is2 a then k + 2 else k + 1) = (if v.category = 2 then k + 2 else k + 1) := by
      have e1 := sx_vr_is2 h.1
      have e2 := mx_is2_eq v
      rw [e1, ← e2]
      by_cases z : v.category = 2
      · rw [if_pos z, z]
        rfl
      · rw [if_neg z]
        have : (v.category == 2) = false := by simpa using z
        rw [this]
        rfl
    have hb : (bif Nat.beq k i then some a else sx_lkV i (sx_lva (bif sx_is2 a then k + 2 else k + 1) as)) = some b := hb
    show ∃ w, (bif Nat.beq k i then some v else mx_lk i (lv_args (if v.category = 2 then k + 2 else k + 1) vs)) = some w ∧ sx_vr σ b w
    cases hk : Nat.beq k i with
    | true =>
      rw [hk] at hb
      cases hb
      exact ⟨v, rfl, h.1⟩
    | false =>
      rw [hk] at hb
      simp only [cond_false] at hb ⊢
      rw [← e]
      exact sx_lva_ok h.2 i b hb
theorem sx_rcv_ok {L : List Nat} (hk : sx_mm P.2.2.1 P.2.2.2 σ φ D M) (hs : sx_vs σ as as') (h : sx_rcv P L as = true) : mx_rcv L as' M = true := by
  unfold sx_rcv at h
  unfold mx_rcv
  split at h
  · rfl
  · next ci l =>
    show mx_rcv1 ci as' M = true
    split at h
    · next b l2 =>
      obtain ⟨rs, rfl, -⟩ := sx_vs_r hs
      unfold mx_rcv1
      show (bif Nat.beq ci 98 then true else bif Nat.beq ci 99 then Nat.ble 1100 b && Nat.blt b 1114 else (match mx_nth M b with
        | some (.inl (cj, _)) => Nat.beq cj ci
        | _ => false)) = true
      cases h1 : Nat.beq ci 98 with
      | true => rfl
      | false =>
        rw [h1] at h
        simp only [cond_false] at h ⊢
        cases h2 : Nat.beq ci 99 with
        | true =>
          rw [h2] at h
          exact h
        | false =>
          rw [h2] at h
          simp only [cond_false] at h ⊢
          split at h
          · next cj fs hb =>
            obtain ⟨gs, g1, -⟩ := sx_mm_obj hk hb
            rw [mx_nth_eq, g1]
            exact h
          · cases h
    · cases h
theorem sx_vs_len : ∀ {as : List sx_V} {as' : List Value}, sx_vs σ as as' → as.length = as'.length
  | [], [], _ => rfl
  | [], _ :: _, h => h.elim
  | _ :: _, [], h => h.elim
  | _ :: as, _ :: vs, h => by
    have := sx_vs_len (as := as) (as' := vs) h.2
    simp [this]
theorem mr_call {d k pc : Nat} {lv : mx_L} {st as' rest : List Value} {i : mx_I} {r r2 : Option Value} {M M1 M' : mx_M} (hf : mx_fetch (sx_cd k) pc = some i) (hi : i.1 = 70) (h1 : st = as'.reverse ++ rest) (h2 : as'.length = i.2.2.1) (h3 : mx_cat rest ≤ 8) (h4 : mx_rcv i.2.2.2 as' M = true) (h5 : mx_Ev SA mx_code d i.2.1 as' M r M1) (h6 : ∃ n, sx_rn SA d k n (pc + 3, lv, r.toList ++ rest, M1) r2 M') : ∃ n, sx_rn SA d k n (pc, lv, st, M) r2 M' := by
  obtain ⟨n, h6⟩ := h6
  exact ⟨n + 1, i, hf, Or.inr (Or.inl ⟨hi, as', rest, r, M1, h1, h2, h3, h4, h5, h6⟩)⟩
theorem sx_cd_eq {k : Nat} (h : (!(Nat.beq k 1000)) = true) : sx_cd k = (mx_code k).2 := by
  unfold sx_cd
  cases hb : Nat.beq k 1000 with
  | true => rw [hb] at h; cases h
  | false => rfl
theorem sx_call_ok {d0 d : Nat} {rec : sx_Q → Bool} {q : sx_Q} {fs : List sx_rf} {c : mx_C} {i : mx_I} (H : sx_hyp P SA sx_TGm CT K d0 σ0) (hrec : sx_pr P SA sx_TGm K d0 σ0 φ0 rec) (hst : sx_qst P SA sx_TGm q fs c σ φ) (hag : sx_ag2 (sx_m0 K) 256 σ0 σ φ0 φ) (hn : sx_m0 K ≤ sx_nx q.2.2.2.2.2) (hd : d + fs.length = d0) (hf : mx_fetch (sx_cd q.1) c.1 = some i) (hi : i.1 = 70) (h : sx_call P CT K rec q i = true) : sx_good SA (sx_Q0 P sx_TGm K σ0 φ0) d fs q.1 c := by
  unfold sx_call at h
  split at h
  · next as rest hpop =>
    simp only [Bool.and_eq_true] at h
    obtain ⟨⟨h1, h2⟩, h3⟩ := h
    have hh := hst σ φ sx_ag2.rf
    have hpp : ∀ σ' φ', sx_qs P SA sx_TGm q fs c σ' φ' → sx_vs σ' as (sx_tk i.2.2.1 c.2.2.1) ∧ sx_vs σ' rest (c.2.2.1.drop i.2.2.1) ∧ i.2.2.1 ≤ c.2.2.1.length := fun σ' φ' hk => by
      have := sx_pop_ok (acc' := []) hpop hk.1.2.2.1 trivial
      rw [List.append_nil] at this
      exact this
    obtain ⟨v1, v2, v3⟩ := hpp σ φ hh
    have hk : sx_st (sx_nx q.2.2.2.2.2) (sx_nm q.2.2.2.2.2) σ φ (sx_oks P SA sx_TGm q.2.2.2.2.2 c.2.2.2 as (sx_tk i.2.2.1 c.2.2.1)) := fun σ' φ' ha => ⟨(hst σ' φ' ha).1.2.2.2, (hpp σ' φ' (hst σ' φ' ha)).1⟩
    have hko : sx_st (sx_nx q.2.2.2.2.2) (sx_nm q.2.2.2.2.2) σ φ (fun σ φ => sx_ok P SA sx_TGm σ φ q.2.2.2.2.2 c.2.2.2) := fun σ' φ' ha => (hk σ' φ' ha).1
    have hM : c.2.2.2.length ≤ 1000 := by
      rw [hh.1.2.2.2.1.1]
      exact H.1.2.2.2.2
    have e1 : c.2.2.1 = (sx_tk i.2.2.1 c.2.2.1).reverse ++ c.2.2.1.drop i.2.2.1 := by
      unfold sx_tk
      rw [List.reverse_reverse, List.take_append_drop]
    have e2 : (sx_tk i.2.2.1 c.2.2.1).length = i.2.2.1 := by
      unfold sx_tk
      rw [List.length_reverse, List.length_take]
      omega
    have e3 : mx_cat (c.2.2.1.drop i.2.2.1) ≤ 8 := by
      rw [← sx_vs_cat v2]
      exact Nat.le_of_ble_eq_true h1
    have e4 := sx_rcv_ok hh.1.2.2.2.1 v1 h2
    have hlen := sx_crs_len hh.2
    have b2 := sx_blw_ev (σ := σ0) (τ := σ) (fun i hi => hag.1 i hi) H.2.2.1
    have b3 := H.2.2.2.2.2.2
    -- behind a call: on in this frame
    have on : ∀ (rv : Option sx_V) (D' : sx_D) (r : Option Value) (M1 : mx_M), sx_bh P SA sx_TGm q.2.2.2.2.2 σ φ rv D' r M1 → rec (q.1, q.2.1, (q.2.2.1 + 3, q.2.2.2.1, sx_opt rv rest, D')) = true → sx_good SA (sx_Q0 P sx_TGm K σ0 φ0) d fs q.1 (c.1 + 3, c.2.1, r.toList ++ c.2.2.1.drop i.2.2.1, M1) := by
      intro rv D' r M1 ⟨i1, i2, σ2, φ2, i3, i4⟩ hr
      refine hrec _ hr σ2 φ2 d fs _ (fun σ' φ' ha => ?_) (hag.tr hn hh.1.2.2.2.2.2.2.2.2.1 i3) (Nat.le_trans hn i1) hd
      have ha : sx_ag2 (sx_nx D') (sx_nm D') σ2 σ' φ2 φ' := ha
      have hold := hst σ' φ' (i3.tr (Nat.le_refl _) (Nat.le_refl _) ⟨fun i hi => ha.1 i (by omega), fun a hi => ha.2 a (by omega)⟩)
      obtain ⟨k1, k2⟩ := i4 σ' φ' ha
      exact ⟨⟨congrArg (· + 3) hold.1.1, hold.1.2.1, sx_opt_ok k2 (hpp σ' φ' hold).2.1, k1⟩, hold.2⟩
    have fin : ∀ (r : Option Value) (M1 : mx_M), mx_Ev SA mx_code d i.2.1 (sx_tk i.2.2.1 c.2.2.1) c.2.2.2 r M1 → sx_good SA (sx_Q0 P sx_TGm K σ0 φ0) d fs q.1 (c.1 + 3, c.2.1, r.toList ++ c.2.2.1.drop i.2.2.1, M1) → sx_good SA (sx_Q0 P sx_TGm K σ0 φ0) d fs q.1 c := by
      intro r M1 g1 ⟨n, r2, M2, g2, g3⟩
      obtain ⟨n', g4⟩ := mr_call (st := c.2.2.1) hf hi e1 e2 e3 e4 g1 ⟨n, g2⟩
      exact ⟨n', r2, M2, g4, g3⟩
    unfold sx_callP at h3
    split at h3
    · next rv D' hp =>
      rw [Bool.and_eq_true] at h3
      have b1 := sx_ge_ok hh.1.2.2.2.2.1 h3.1
      rw [sx_ev_pk] at b1
      obtain ⟨r, M1, g1, g2⟩ := sx_prim_ok H.1.1 hk hM hp
      obtain ⟨d', hd'⟩ : ∃ d', d = d' + 1 := ⟨d - 1, by omega⟩
      subst hd'
      exact fin r M1 (g1 d') (on rv D' r M1 g2 h3.2)
    · split at h3
      · next p hf2 =>
        unfold sx_callK at h3
        simp only [Bool.and_eq_true] at h3
        obtain ⟨⟨h4, h4b⟩, h5, h6⟩ := h3
        have b0 := sx_ge_ok hh.1.2.2.2.2.1 h4b
        rw [sx_ev_pk] at b0
        obtain ⟨f1, f2, f3⟩ := sx_find_ok hf2
        have hl : sx_lr σ (sx_lva 0 as) (lv_args 0 (sx_tk i.2.2.1 c.2.2.1)) := sx_lva_ok v1
        obtain ⟨p1, p2⟩ := sx_pre_ok H.1.1 H.1.2.2.1 H.1.2.2.2.1 hh.1.2.2.2 hl f3
        have b1 := sx_hOk_ok hh.1.2.2.2.2.1 p2 h5
        obtain ⟨d', hd'⟩ : ∃ d', d = d' + 1 := ⟨d - 1, by omega⟩
        subst hd'
        have hv : sx_cv P SA sx_TGm d' p.1 (sx_cσ q.2.2.2.2.2 p.2 σ) (sx_cφ q.2.2.2.2.2 φ) := H.2.2.2.2.1 d' (by omega) i.2.1 p.1 f1 _ _ (by simp at b1; omega)
        obtain ⟨n, r, M1, g1, O, g2, g3⟩ := sx_use_ok (X := fun O => (match sx_ins P q.2.2.2.2.2 p.2 p.1.2.2.2.1.length O with
          | some (r, D) => rec (q.1, q.2.1, (q.2.2.1 + 3, q.2.2.2.1, sx_opt r rest, D))
          | none => false) = true) H hko hl f3 hv (fun O hO => sx_alb_ok h6 O hO)
        split at g2
        · next rv D' hins =>
          refine fin r M1 ?_ (on rv D' r M1 (g3 rv D' hins) g2)
          have e5 : p.1.1 = i.2.1 := H.2.1 _ _ f1
          refine ⟨?_, hM, n, ?_⟩
          · rw [← sx_vs_cat v1]
            exact Nat.le_of_ble_eq_true h4.1
          · rw [f2, e5] at g1
            have g1 : mx_run (mx_Ev SA mx_code d') (mr_o SA) (sx_cd i.2.1) n (0, lv_args 0 (sx_tk i.2.2.1 c.2.2.1), [], c.2.2.2) r M1 := g1
            rw [sx_cd_eq h4.2] at g1
            exact g1
        · cases g2
      · unfold sx_callI at h3
        simp only [Bool.and_eq_true] at h3
        obtain ⟨h4, ⟨h5, h5b⟩, h6⟩ := h3
        have b1 := sx_ge_ok hh.1.2.2.2.2.1 h4
        rw [sx_ev_pk] at b1
        obtain ⟨d', hd'⟩ : ∃ d', d = d' + 1 := ⟨d - 1, by omega⟩
        subst hd'
        have hg := hrec _ h6 σ φ d' ((q.1, c.1, c.2.1, c.2.2.1.drop i.2.2.1) :: fs) (0, lv_args 0 (sx_tk i.2.2.1 c.2.2.1), [], c.2.2.2) (fun σ' φ' ha => by
          have hold := hst σ' φ' ha
          obtain ⟨w1, w2, w3⟩ := hpp σ' φ' hold
          exact ⟨⟨rfl, sx_lva_ok w1, trivial, hold.1.2.2.2⟩, ⟨rfl, hold.1.1, hold.1.2.1, w2⟩, hold.2⟩) hag hn (by simp; omega)
        obtain ⟨n, r, M1, g1, n2, r2, M2, g2, g3⟩ := hg
        have g1 : mx_run (mx_Ev SA mx_code d') (mr_o SA) (sx_cd i.2.1) n (0, lv_args 0 (sx_tk i.2.2.1 c.2.2.1), [], c.2.2.2) r M1 := g1
        rw [sx_cd_eq h5b] at g1
        refine fin r M1 ⟨?_, hM, n, g1⟩ ⟨n2, r2, M2, g2, g3⟩
        rw [← sx_vs_cat v1]
        exact Nat.le_of_ble_eq_true h5
  · cases h
theorem sn_c16 {x : Int32} (h1 : 0 ≤ x.toInt) (h2 : x.toInt ≤ 65535) : (x.toUInt32 % 65536).toInt32 = x := by
  apply Int32.toBitVec_inj.mp
  apply BitVec.eq_of_toNat_eq
  have e : x.toInt = (x.toBitVec.toNat : Int) := by
    have h3 : x.toBitVec.toInt = x.toInt := rfl
    rw [BitVec.toInt_eq_toNat_cond] at h3
    have h4 := x.toBitVec.isLt
    split at h3 <;> omega
  show (x.toUInt32 % 65536).toNat = x.toBitVec.toNat
  rw [UInt32.toNat_mod]
  show x.toBitVec.toNat % 65536 = x.toBitVec.toNat
  exact Nat.mod_eq_of_lt (by omega)
theorem sx_fit_ok {a : Nat} {e : sx_E} {x : Int32} (hd : sx_d P sx_TGm σ φ D) (hx : x.toInt = sx_ev σ e) (h : sx_fit P D a e = true) : mx_fit a x = true := by
  unfold sx_fit at h
  unfold mx_fit
  split at h
  · rfl
  · rw [Bool.and_eq_true] at h
    have h1 := sx_ge_ok hd h.1
    have h2 := sx_ge_ok hd h.2
    rw [sx_ev_pk] at h1 h2
    rw [sx_ev_ng] at h2
    have : vp_nar .byte x = x := by
      show x.toInt8.toInt32 = x
      apply Int32.toInt_inj.mp
      rw [sn_i2b]
      exact sn_b8 (by omega) (by omega)
    show (vp_nar .byte x == x) = true
    rw [this]
    exact beq_self_eq_true x
  · rw [Bool.and_eq_true] at h
    have h1 := sx_ge_ok hd h.1
    have h2 := sx_ge_ok hd h.2
    rw [sx_ev_pk, sx_ev_ng] at h2
    have hx2 : x.toInt = 0 ∨ x.toInt = 1 := by omega
    rcases hx2 with hx2 | hx2
    · rw [show x = 0 from Int32.toInt_inj.mp hx2]
      rfl
    · rw [show x = 1 from Int32.toInt_inj.mp hx2]
      rfl
  · next h00 h01 h02 =>
    rw [Bool.and_eq_true] at h
    have h1 := sx_ge_ok hd h.1
    have h2 := sx_ge_ok hd h.2
    rw [sx_ev_pk, sx_ev_ng] at h2
    have : vp_nar .char x = x := by
      show (x.toUInt32 % 65536).toInt32 = x
      exact sn_c16 (by omega) (by omega)
    split
    · exact absurd rfl h00
    · exact absurd rfl h01
    · exact absurd rfl h02
    · rw [this]
      exact beq_self_eq_true x
theorem sx_ret_ok {i : mx_I} {st : List sx_V} (h : sx_ret P D i st = some rv) {st' : List Value} (hd : sx_d P sx_TGm σ φ D) (hs : sx_vs σ st st') : ∃ r, mx_ret i st' = some r ∧ ∀ τ, sx_vs τ st st' → sx_rr τ rv r := by
  obtain ⟨o, a, b, L⟩ := i
  unfold sx_ret at h
  have hk : (bif Nat.beq o 80 then sx_r80 P D a st else bif Nat.beq o 81 then sx_r81 st else bif Nat.beq o 82 then sx_r82 st else bif Nat.beq o 83 then sx_r83 st else none) = some rv := h
  clear h
  cases h1 : Nat.beq o 80 with
  | true =>
    have e1 := Nat.eq_of_beq_eq_true h1
    subst e1
    rw [h1] at hk
    simp only [cond_true] at hk
    unfold sx_r80 at hk
    split at hk
    · next e =>
      obtain ⟨x, rs, rfl, hx, hs2⟩ := sx_vs_i hs
      match rs, hs2 with
      | [], _ =>
      cases hb : sx_fit P D a e with
      | false => rw [hb] at hk; cases hk
      | true =>
        rw [hb] at hk
        cases hk
        refine ⟨some (.int x), ?_, fun τ ht => ht.1⟩
        show (bif mx_fit a x then some (some (Value.int x)) else none) = _
        rw [sx_fit_ok hd hx hb]
        rfl
    · cases hk
  | false =>
  rw [h1] at hk
  simp only [cond_false] at hk
  cases h2 : Nat.beq o 81 with
  | true =>
    have e1 := Nat.eq_of_beq_eq_true h2
    subst e1
    rw [h2] at hk
    simp only [cond_true] at hk
    unfold sx_r81 at hk
    split at hk
    · next e =>
      obtain ⟨x, rs, rfl, hx, hs2⟩ := sx_vs_l hs
      match rs, hs2 with
      | [], _ =>
      cases hk
      exact ⟨some (.long x), rfl, fun τ ht => ht.1⟩
    · cases hk
  | false =>
  rw [h2] at hk
  simp only [cond_false] at hk
  cases h3 : Nat.beq o 82 with
  | true =>
    have e1 := Nat.eq_of_beq_eq_true h3
    subst e1
    rw [h3] at hk
    simp only [cond_true] at hk
    unfold sx_r82 at hk
    split at hk
    · next q =>
      obtain ⟨rs, rfl, hs2⟩ := sx_vs_r hs
      match rs, hs2 with
      | [], _ =>
      cases hk
      exact ⟨some (.ref q), rfl, fun τ ht => ht.1⟩
    · cases hk
  | false =>
  rw [h3] at hk
  simp only [cond_false] at hk
  cases h4 : Nat.beq o 83 with
  | false => rw [h4] at hk; cases hk
  | true =>
    have e1 := Nat.eq_of_beq_eq_true h4
    subst e1
    rw [h4] at hk
    simp only [cond_true] at hk
    unfold sx_r83 at hk
    split at hk
    · cases hk
      match st', hs with
      | [], _ => exact ⟨none, rfl, fun τ ht => trivial⟩
    · cases hk
theorem sx_exec1_ok {d0 d : Nat} {rec : sx_Q → Bool} {q : sx_Q} {fs : List sx_rf} {c : mx_C} (H : sx_hyp P SA sx_TGm CT K d0 σ0) (hrec : sx_pr P SA sx_TGm K d0 σ0 φ0 rec) (hst : sx_qst P SA sx_TGm q fs c σ φ) (hag : sx_ag2 (sx_m0 K) 256 σ0 σ φ0 φ) (hn : sx_m0 K ≤ sx_nx q.2.2.2.2.2) (hd : d + fs.length = d0) (h : sx_exec1 P CT K rec q = true) : sx_good SA (sx_Q0 P sx_TGm K σ0 φ0) d fs q.1 c := by
  unfold sx_exec1 at h
  have hh := hst σ φ sx_ag2.rf
  have e0 : q.2.2.1 = c.1 := hh.1.1
  split at h
  · cases h
  · next i hf =>
    rw [e0] at hf
    cases h1 : Nat.blt i.1 70 with
    | true =>
      rw [h1] at h
      simp only [cond_true] at h
      unfold sx_opK at h
      split at h
      · next cs hcs =>
        obtain ⟨c', o1, cA, o2, o3, o4, σ', φ', o5, o6⟩ := so_op_ok (SA := SA) (TG := sx_TGm) (d := c) (σ := σ) (φ := φ) H.1.1 H.1.2.1 (fun σ' φ' ha => (hst σ' φ' ha).1) hcs
        obtain ⟨n, r, M', g1, g2⟩ := hrec _ (sx_alb_ok h cA o2) σ' φ' d fs c' (fun σ2 φ2 ha => ⟨o6 σ2 φ2 ha, (hst σ2 φ2 (o5.tr (Nat.le_refl _) (Nat.le_refl _) ⟨fun i hi => ha.1 i (Nat.lt_of_lt_of_le hi o3), fun a hi => ha.2 a (Nat.lt_of_lt_of_le hi o4)⟩)).2⟩) (hag.tr hn hh.1.2.2.2.2.2.2.2.2.1 o5) (Nat.le_trans hn o3) hd
        exact ⟨n + 1, r, M', ⟨i, hf, Or.inl ⟨Nat.le_of_ble_eq_true h1, c', o1, g1⟩⟩, g2⟩
      · cases h
    | false =>
      rw [h1] at h
      simp only [cond_false] at h
      cases h2 : Nat.beq i.1 70 with
      | true =>
        rw [h2] at h
        exact sx_call_ok H hrec hst hag hn hd hf (Nat.eq_of_beq_eq_true h2) h
      | false =>
        rw [h2] at h
        simp only [cond_false] at h
        cases h3 : Nat.ble 80 i.1 with
        | false => rw [h3] at h; cases h
        | true =>
          rw [h3] at h
          simp only [cond_true] at h
          unfold sx_endK at h
          split at h
          · next rv hr =>
            obtain ⟨r, r1, r2⟩ := sx_ret_ok hr hh.1.2.2.2.2.1 hh.1.2.2.1
            refine ⟨1, r, c.2.2.2, ⟨i, hf, Or.inr (Or.inr ⟨Nat.le_of_ble_eq_true h3, r, r1, rfl, rfl⟩)⟩, ?_⟩
            exact sx_back_ok H hrec (fun σ' φ' ha => ⟨⟨(hst σ' φ' ha).1.2.2.2, r2 σ' (hst σ' φ' ha).1.2.2.1⟩, (hst σ' φ' ha).2⟩) hag hn hd h
          · cases h
theorem sx_argE_ok {lv : sx_L} {lr : mx_L} {i : Nat} {e : sx_E} (h : sx_argE lv i = some e) (hl : sx_lr σ lv lr) : ∃ v, mx_lk i lr = some v ∧ sx_iv v = sx_ev σ e := by
  unfold sx_argE at h
  split at h
  · next b e' he =>
    cases h
    obtain ⟨v, v1, v2⟩ := hl i _ he
    refine ⟨v, v1, ?_⟩
    cases b with
    | true => obtain ⟨x, rfl, h2⟩ := v2; exact h2
    | false => obtain ⟨x, rfl, h2⟩ := v2; exact h2
  · cases h
theorem sx_exec3_ok {d0 d o : Nat} {e : sx_E} {rec : sx_Q → Bool} {q : sx_Q} {fs : List sx_rf} {c : mx_C} (H : sx_hyp P SA sx_TGm CT K d0 σ0) (hrec : sx_pr P SA sx_TGm K d0 σ0 φ0 rec) (hst : sx_qst P SA sx_TGm q fs c σ φ) (hag : sx_ag2 (sx_m0 K) 256 σ0 σ φ0 φ) (hn : sx_m0 K ≤ sx_nx q.2.2.2.2.2) (hd : d + fs.length = d0) (ho : ∀ σ' φ', sx_ag2 (sx_nx q.2.2.2.2.2) (sx_nm q.2.2.2.2.2) σ σ' φ φ' → sx_qs P SA sx_TGm q fs c σ' φ' → sx_cp o (sx_ev σ' e)) (h : sx_exec3 P CT K rec q e o = true) : sx_good SA (sx_Q0 P sx_TGm K σ0 φ0) d fs q.1 c := by
  have hh := hst σ φ sx_ag2.rf
  obtain ⟨D', hD⟩ := sx_asm_some hh.1.2.2.2.2.1 (ho σ φ sx_ag2.rf hh)
  unfold sx_exec3 at h
  rw [hD] at h
  have hk := sx_asm_kq hD
  have e1 : sx_nx D' = sx_nx q.2.2.2.2.2 := hk.2.2.1
  have e2 : sx_nm D' = sx_nm q.2.2.2.2.2 := hk.2.2.2
  refine sx_exec1_ok (q := (q.1, q.2.1, (q.2.2.1, q.2.2.2.1, q.2.2.2.2.1, D'))) H hrec (fun σ' φ' ha => ?_) hag (by show sx_m0 K ≤ sx_nx D'; rw [e1]; exact hn) hd h
  have ha : sx_ag2 (sx_nx D') (sx_nm D') σ σ' φ φ' := ha
  rw [e1, e2] at ha
  have h1 := hst σ' φ' ha
  exact ⟨⟨h1.1.1, h1.1.2.1, h1.1.2.2.1, sx_ok_kp hk.kp h1.1.2.2.2 (sx_asm_ok h1.1.2.2.2.2.1 hD (ho σ' φ' ha h1))⟩, h1.2⟩
theorem sx_exec2_ok {d0 d : Nat} {p : Nat × Nat} {rec : sx_Q → Bool} {q : sx_Q} {fs : List sx_rf} {c : mx_C} (H : sx_hyp P SA sx_TGm CT K d0 σ0) (hrec : sx_pr P SA sx_TGm K d0 σ0 φ0 rec) (hst : sx_qst P SA sx_TGm q fs c σ φ) (hag : sx_ag2 (sx_m0 K) 256 σ0 σ φ0 φ) (hn : sx_m0 K ≤ sx_nx q.2.2.2.2.2) (hd : d + fs.length = d0) (h : sx_exec2 P CT K rec q p = true) : sx_good SA (sx_Q0 P sx_TGm K σ0 φ0) d fs q.1 c := by
  unfold sx_exec2 at h
  split at h
  · next a ha =>
    split at h
    · next b hb =>
      simp only [Bool.and_eq_true] at h
      obtain ⟨h1, h2, h3⟩ := h
      have hh := hst σ φ sx_ag2.rf
      obtain ⟨va, a1, a2⟩ := sx_argE_ok ha hh.1.2.1
      obtain ⟨vb, b1, b2⟩ := sx_argE_ok hb hh.1.2.1
      have key : ∀ σ φ, sx_qs P SA sx_TGm q fs c σ φ → sx_ev σ (sx_sb a b) = sx_iv va - sx_iv vb := fun σ φ hk => by
        obtain ⟨va', a1', a2'⟩ := sx_argE_ok ha hk.1.2.1
        obtain ⟨vb', b1', b2'⟩ := sx_argE_ok hb hk.1.2.1
        rw [a1] at a1'
        cases a1'
        rw [b1] at b1'
        cases b1'
        rw [sx_ev_sb, a2', b2']
      rcases Int.lt_trichotomy (sx_iv va - sx_iv vb) 0 with z | z | z
      · exact sx_exec3_ok H hrec hst hag hn hd (fun σ φ _ hk => by show sx_ev σ (sx_sb a b) < 0; rw [key σ φ hk]; exact z) h1
      · exact sx_exec3_ok H hrec hst hag hn hd (fun σ φ _ hk => by show sx_ev σ (sx_sb a b) = 0; rw [key σ φ hk]; exact z) h2
      · exact sx_exec3_ok H hrec hst hag hn hd (fun σ φ _ hk => by show 0 < sx_ev σ (sx_sb a b); rw [key σ φ hk]; exact z) h3
    · cases h
  · cases h
theorem sx_exec4_ok {d0 d : Nat} {p : Nat × Nat} {rec : sx_Q → Bool} {q : sx_Q} {fs : List sx_rf} {c : mx_C} (H : sx_hyp P SA sx_TGm CT K d0 σ0) (hrec : sx_pr P SA sx_TGm K d0 σ0 φ0 rec) (hst : sx_qst P SA sx_TGm q fs c σ φ) (hag : sx_ag2 (sx_m0 K) 256 σ0 σ φ0 φ) (hn : sx_m0 K ≤ sx_nx q.2.2.2.2.2) (hd : d + fs.length = d0) (h : sx_exec4 P CT K rec q p = true) : sx_good SA (sx_Q0 P sx_TGm K σ0 φ0) d fs q.1 c := by
  unfold sx_exec4 at h
  split at h
  · next a ha =>
    split at h
    · next b hb =>
      simp only [Bool.and_eq_true] at h
      obtain ⟨h1, h2, h3⟩ := h
      have key : ∀ σ' φ', sx_ag2 (sx_nx q.2.2.2.2.2) (sx_nm q.2.2.2.2.2) σ σ' φ φ' → sx_ev σ' b = sx_ev σ b := fun σ' φ' hz => by
        obtain ⟨-, e1⟩ := sx_scp_ok hb hz.1
        exact e1
      rcases Int.lt_trichotomy (sx_ev σ b) 0 with z | z | z
      · exact sx_exec3_ok H hrec hst hag hn hd (fun σ' φ' hz _ => by show sx_ev σ' b < 0; rw [key σ' φ' hz]; exact z) h1
      · exact sx_exec3_ok H hrec hst hag hn hd (fun σ' φ' hz _ => by show sx_ev σ' b = 0; rw [key σ' φ' hz]; exact z) h2
      · exact sx_exec3_ok H hrec hst hag hn hd (fun σ' φ' hz _ => by show 0 < sx_ev σ' b; rw [key σ' φ' hz]; exact z) h3
    · cases h
  · cases h
theorem sx_execD_ok {d0 d : Nat} {D' : sx_D} {rec : sx_Q → Bool} {q : sx_Q} {fs : List sx_rf} {c : mx_C} (H : sx_hyp P SA sx_TGm CT K d0 σ0) (hrec : sx_pr P SA sx_TGm K d0 σ0 φ0 rec) (hst : sx_qst P SA sx_TGm q fs c σ φ) (hag : sx_ag2 (sx_m0 K) 256 σ0 σ φ0 φ) (hn : sx_m0 K ≤ sx_nx q.2.2.2.2.2) (hd : d + fs.length = d0) (hk : sx_kq q.2.2.2.2.2 D') (hs : ∀ σ φ, sx_qs P SA sx_TGm q fs c σ φ → sx_d P sx_TGm σ φ D') (h : sx_exec1 P CT K rec (q.1, q.2.1, (q.2.2.1, q.2.2.2.1, q.2.2.2.2.1, D')) = true) : sx_good SA (sx_Q0 P sx_TGm K σ0 φ0) d fs q.1 c := by
  have e1 : sx_nx D' = sx_nx q.2.2.2.2.2 := hk.2.2.1
  have e2 : sx_nm D' = sx_nm q.2.2.2.2.2 := hk.2.2.2
  refine sx_exec1_ok (q := (q.1, q.2.1, (q.2.2.1, q.2.2.2.1, q.2.2.2.2.1, D'))) H hrec (fun σ' φ' ha => ?_) hag (by show sx_m0 K ≤ sx_nx D'; rw [e1]; exact hn) hd h
  have ha : sx_ag2 (sx_nx D') (sx_nm D') σ σ' φ φ' := ha
  rw [e1, e2] at ha
  have h1 := hst σ' φ' ha
  exact ⟨⟨h1.1.1, h1.1.2.1, h1.1.2.2.1, sx_ok_kp hk.kp h1.1.2.2.2 (hs σ' φ' h1)⟩, h1.2⟩
theorem sx_asN_kq {what : sx_E} : ∀ {l : List Int} {D D' : sx_D}, sx_asN P what l D = some D' → sx_kq D D'
  | [], D, D', h => by cases h; exact sx_kq.rf
  | c :: l, D, D', h => by
    unfold sx_asN at h
    split at h
    · next D1 h1 => exact (sx_asm_kq h1).tr (sx_asN_kq h)
    · cases h
theorem sx_asN_ok {what : sx_E} : ∀ {l : List Int} {D D' : sx_D}, (∀ c ∈ l, ¬ sx_ev σ what = c) → sx_d P sx_TGm σ φ D → sx_asN P what l D = some D' → sx_d P sx_TGm σ φ D'
  | [], D, D', _, hd, h => by cases h; exact hd
  | c :: l, D, D', hl, hd, h => by
    unfold sx_asN at h
    split at h
    · next D1 h1 =>
      have hc : sx_cp 1 (sx_ev σ (sx_pk what (-c))) := by
        show ¬ sx_ev σ (sx_pk what (-c)) = 0
        rw [sx_ev_pk]
        have := hl c List.mem_cons_self
        omega
      exact sx_asN_ok (fun c' hc' => hl c' (List.mem_cons_of_mem _ hc')) (sx_asm_ok hd h1 hc) h
    · cases h
theorem sx_asN_some {what : sx_E} : ∀ {l : List Int} {D : sx_D}, (∀ c ∈ l, ¬ sx_ev σ what = c) → sx_d P sx_TGm σ φ D → ∃ D', sx_asN P what l D = some D'
  | [], D, _, _ => ⟨D, rfl⟩
  | c :: l, D, hl, hd => by
    have hc : sx_cp 1 (sx_ev σ (sx_pk what (-c))) := by
      show ¬ sx_ev σ (sx_pk what (-c)) = 0
      rw [sx_ev_pk]
      have := hl c List.mem_cons_self
      omega
    obtain ⟨D1, h1⟩ := sx_asm_some hd hc
    unfold sx_asN
    rw [h1]
    exact sx_asN_some (fun c' hc' => hl c' (List.mem_cons_of_mem _ hc')) (sx_asm_ok hd h1 hc)
theorem sx_R1_eq {f : sx_F} {a w pe : Nat} {t p k n : sx_E} (h : sx_R1 f = some (a, w, pe, t, p, k, n)) : f = (1006, [a, w, pe], [t, p, k, n]) := by
  unfold sx_R1 at h
  split at h
  · cases h; rfl
  · cases h
theorem sx_execC_ok {d0 d i : Nat} {rec : sx_Q → Bool} {q : sx_Q} {fs : List sx_rf} {c : mx_C} (H : sx_hyp P SA sx_TGm CT K d0 σ0) (hrec : sx_pr P SA sx_TGm K d0 σ0 φ0 rec) (hst : sx_qst P SA sx_TGm q fs c σ φ) (hag : sx_ag2 (sx_m0 K) 256 σ0 σ φ0 φ) (hn : sx_m0 K ≤ sx_nx q.2.2.2.2.2) (hd : d + fs.length = d0) (h : sx_execC P CT K rec q i = true) : sx_good SA (sx_Q0 P sx_TGm K σ0 φ0) d fs q.1 c := by
  unfold sx_execC at h
  split at h
  · next a ha =>
    split at h
    · next l hl =>
      have hh := hst σ φ sx_ag2.rf
      obtain ⟨va, a1, a2⟩ := sx_argE_ok ha hh.1.2.1
      have key : ∀ σ φ, sx_qs P SA sx_TGm q fs c σ φ → sx_ev σ a = sx_iv va := fun σ φ hk => by
        obtain ⟨va', a1', a2'⟩ := sx_argE_ok ha hk.1.2.1
        rw [a1] at a1'
        cases a1'
        exact a2'.symm
      unfold sx_csD at hl
      split at hl
      · next ra w pe t p k n hf =>
        split at hl
        · next x u hx hu =>
          cases hb : (sx_eqp P q.2.2.2.2.2 x a && sx_ge P q.2.2.2.2.2 (sx_pk (sx_sb (sx_ad (sx_sc 170 t) u) k) (-1))) with
          | false => rw [hb] at hl; cases hl
          | true =>
            rw [hb] at hl
            cases hl
            rw [Bool.and_eq_true] at hb
            obtain ⟨f, f1, f2⟩ := sx_first_ok hf
            have ef := sx_R1_eq f2
            subst ef
            have hA : ∀ σ φ, sx_qs P SA sx_TGm q fs c σ φ → sx_ev σ n ≤ 169 ∧ 0 ≤ sx_ev σ n ∧ (sx_iv va = 1 ∨ (sx_iv va = 2 ∧ 0 ≤ φ w (sx_ev σ k).toNat ∧ φ w (sx_ev σ k).toNat ≤ 5) ∨ ((sx_iv va = 3 ∨ sx_iv va = 4) ∧ 1 ≤ sx_ev σ n) ∨ (¬ sx_iv va = 1 ∧ ¬ sx_iv va = 2 ∧ ¬ sx_iv va = 3 ∧ ¬ sx_iv va = 4 ∧ 2 ≤ sx_ev σ n)) := fun σ φ hk => by
              have hd1 := hk.1.2.2.2.2.1
              have r1 := sx_fk6.mp (hd1.2.2.2.2 _ f1)
              have r2 := sx_sel_ok hd1 hx
              have r3 := sx_sel_ok hd1 hu
              have r4 := sx_eqp_ok hd1 hb.1
              have r5 := sx_ge_ok hd1 hb.2
              rw [sx_ev_pk, sx_ev_sb, sx_ev_ad, sx_ev_sc] at r5
              rw [sx_ev_ad, sx_ev_sc] at r3
              have r6 := tg_R_next r1 (by rw [r3]; omega)
              rw [r2, r4, key σ φ hk] at r6
              exact r6
            have h0 : ∀ σ φ, sx_qs P SA sx_TGm q fs c σ φ → sx_d P sx_TGm σ φ (sx_cs0 P q.2.2.2.2.2 n) := fun σ φ hk => by
              obtain ⟨b1, b2, -⟩ := hA σ φ hk
              refine sx_adds_ok (fun e he => ?_) hk.1.2.2.2.2.1
              rcases List.mem_cons.mp he with rfl | he
              · exact b2
              · rcases List.mem_cons.mp he with rfl | he
                · rw [sx_ev_pk, sx_ev_ng]; omega
                · cases he
            have k0 : sx_kq q.2.2.2.2.2 (sx_cs0 P q.2.2.2.2.2 n) := sx_adds_kq
            have hL := sx_alb_ok h
            have go : ∀ o : Option sx_D, o ∈ sx_csL P (sx_cs0 P q.2.2.2.2.2 n) w k n a → ∀ D', o = some D' → sx_kq (sx_cs0 P q.2.2.2.2.2 n) D' → (∀ σ φ, sx_qs P SA sx_TGm q fs c σ φ → sx_d P sx_TGm σ φ D') → sx_good SA (sx_Q0 P sx_TGm K σ0 φ0) d fs q.1 c := fun o ho D' e kk hs => by
              have z := hL o ho
              rw [e] at z
              exact sx_execD_ok H hrec hst hag hn hd (k0.tr kk) hs z
            have hc0 : ∀ (z : Int) σ φ, sx_qs P SA sx_TGm q fs c σ φ → sx_iv va = z → sx_cp 0 (sx_ev σ (sx_pk a (-z))) := fun z σ φ hk e => by
              show sx_ev σ (sx_pk a (-z)) = 0
              rw [sx_ev_pk, key σ φ hk, e]
              omega
            by_cases z1 : sx_iv va = 1
            · obtain ⟨D1, hD⟩ := sx_asm_some (h0 σ φ hh) (hc0 1 σ φ hh z1)
              exact go _ List.mem_cons_self D1 hD (sx_asm_kq hD) fun σ φ hk => sx_asm_ok (h0 σ φ hk) hD (hc0 1 σ φ hk z1)
            · by_cases z2 : sx_iv va = 2
              · have h2 : ∀ σ φ, sx_qs P SA sx_TGm q fs c σ φ → sx_d P sx_TGm σ φ (sx_wF (sx_cs0 P q.2.2.2.2.2 n) ((6, [w], [k, sx_k 0, sx_k 5]) :: (sx_cs0 P q.2.2.2.2.2 n).2.2.2.2.1)) := fun σ φ hk => by
                  obtain ⟨-, -, b3⟩ := hA σ φ hk
                  refine sx_dr_F1 (h0 σ φ hk) ?_
                  show sx_ev σ (sx_k 0) ≤ φ w (sx_ev σ k).toNat ∧ φ w (sx_ev σ k).toNat ≤ sx_ev σ (sx_k 5)
                  rw [sx_ev_k, sx_ev_k]
                  rcases b3 with b | b | b | b
                  · exact absurd b z1
                  · exact b.2
                  · exact absurd z2 (by omega)
                  · exact absurd z2 b.2.1
                obtain ⟨D1, hD⟩ := sx_asm_some (h2 σ φ hh) (hc0 2 σ φ hh z2)
                exact go _ (List.mem_cons_of_mem _ List.mem_cons_self) D1 hD ((show sx_kq (sx_cs0 P q.2.2.2.2.2 n) (sx_wF (sx_cs0 P q.2.2.2.2.2 n) ((6, [w], [k, sx_k 0, sx_k 5]) :: (sx_cs0 P q.2.2.2.2.2 n).2.2.2.2.1)) from ⟨rfl, rfl, rfl, rfl⟩).tr (sx_asm_kq hD)) fun σ φ hk => sx_asm_ok (h2 σ φ hk) hD (hc0 2 σ φ hk z2)
              · have hn1 : ∀ (u : Int) σ φ, sx_qs P SA sx_TGm q fs c σ φ → u ≤ sx_ev σ n → sx_d P sx_TGm σ φ (sx_add P (sx_pk n (-u)) (sx_cs0 P q.2.2.2.2.2 n)) := fun u σ φ hk hu => sx_add_ok (h0 σ φ hk) (by rw [sx_ev_pk]; omega)
                by_cases z3 : sx_iv va = 3
                · have h3 : ∀ σ φ, sx_qs P SA sx_TGm q fs c σ φ → 1 ≤ sx_ev σ n := fun σ φ hk => by
                    obtain ⟨-, -, b3⟩ := hA σ φ hk
                    omega
                  obtain ⟨D1, hD⟩ := sx_asm_some (hn1 1 σ φ hh (h3 σ φ hh)) (hc0 3 σ φ hh z3)
                  exact go _ (List.mem_cons_of_mem _ (List.mem_cons_of_mem _ List.mem_cons_self)) D1 hD (sx_add_kq.tr (sx_asm_kq hD)) fun σ φ hk => sx_asm_ok (hn1 1 σ φ hk (h3 σ φ hk)) hD (hc0 3 σ φ hk z3)
                · by_cases z4 : sx_iv va = 4
                  · have h3 : ∀ σ φ, sx_qs P SA sx_TGm q fs c σ φ → 1 ≤ sx_ev σ n := fun σ φ hk => by
                      obtain ⟨-, -, b3⟩ := hA σ φ hk
                      omega
                    obtain ⟨D1, hD⟩ := sx_asm_some (hn1 1 σ φ hh (h3 σ φ hh)) (hc0 4 σ φ hh z4)
                    exact go _ (List.mem_cons_of_mem _ (List.mem_cons_of_mem _ (List.mem_cons_of_mem _ List.mem_cons_self))) D1 hD (sx_add_kq.tr (sx_asm_kq hD)) fun σ φ hk => sx_asm_ok (hn1 1 σ φ hk (h3 σ φ hk)) hD (hc0 4 σ φ hk z4)
                  · have h3 : ∀ σ φ, sx_qs P SA sx_TGm q fs c σ φ → 2 ≤ sx_ev σ n := fun σ φ hk => by
                      obtain ⟨-, -, b3⟩ := hA σ φ hk
                      omega
                    have hne : ∀ σ φ, sx_qs P SA sx_TGm q fs c σ φ → ∀ c ∈ [(1 : Int), 2, 3, 4], ¬ sx_ev σ a = c := fun σ φ hk c hc => by
                      rw [key σ φ hk]
                      simp only [List.mem_cons, List.not_mem_nil, or_false] at hc
                      omega
                    obtain ⟨D1, hD⟩ := sx_asN_some (hne σ φ hh) (hn1 2 σ φ hh (h3 σ φ hh))
                    exact go _ (List.mem_cons_of_mem _ (List.mem_cons_of_mem _ (List.mem_cons_of_mem _ (List.mem_cons_of_mem _ List.mem_cons_self)))) D1 hD (sx_add_kq.tr (sx_asN_kq hD)) fun σ φ hk => sx_asN_ok (hne σ φ hk) (hn1 2 σ φ hk (h3 σ φ hk)) hD
        · cases hl
      · cases hl
    · cases h
  · cases h
theorem sx_phR_ok {a : Nat} (hd : sx_d P sx_TGm σ φ D) (h : sx_phR P D a = true) : ∀ j, 0 ≤ φ a j ∧ φ a j ≤ 11 := by
  unfold sx_phR at h
  split at h
  · next l u hl hu =>
    rw [Bool.and_eq_true] at h
    have e1 := sx_le_iff.mp h.1
    have e2 := sx_le_iff.mp h.2
    exact fun j => ⟨Int.le_trans e1 (sx_nlo_ok hl hd j), Int.le_trans (sx_nhi_ok hu hd j) e2⟩
  · cases h
theorem sx_ph1_ok {f : sx_F} {m : sx_E} (hd : sx_d P sx_TGm σ φ D) (hf : sx_fk sx_TGm σ φ f) (h : sx_ph1 P D f = some m) : sx_ev σ m ≤ 5 := by
  unfold sx_ph1 at h
  split at h
  · next a b m' c =>
    cases hb : ((sx_any (sx_phD P D a b m') D.2.2.2.2.1 && (sx_phR P D a && sx_phR P D b)) && (sx_ge P D c && sx_ge P D (sx_pk (sx_ng c) 11))) with
    | false => rw [hb] at h; cases h
    | true =>
      rw [hb] at h
      cases h
      simp only [Bool.and_eq_true] at hb
      obtain ⟨⟨k1, k2, k3⟩, k4, k5⟩ := hb
      obtain ⟨g, g1, g2⟩ := sx_any_ok k1
      have hg := hd.2.2.2.2 g g1
      unfold sx_phD at g2
      split at g2
      · next a' b' m2 =>
        simp only [Bool.and_eq_true] at g2
        have hg := sx_fk2.mp hg
        rw [Nat.eq_of_beq_eq_true g2.1, Nat.eq_of_beq_eq_true g2.2.1, sx_eqp_ok hd g2.2.2] at hg
        have e4 := sx_ge_ok hd k4
        have e5 := sx_ge_ok hd k5
        rw [sx_ev_pk, sx_ev_ng] at e5
        exact tg_five hg (sx_fk3.mp hf) (sx_phR_ok hd k2) (sx_phR_ok hd k3) ⟨e4, by omega⟩
      · cases g2
  · cases h
theorem sx_execP_ok {d0 d : Nat} {rec : sx_Q → Bool} {q : sx_Q} {fs : List sx_rf} {c : mx_C} (H : sx_hyp P SA sx_TGm CT K d0 σ0) (hrec : sx_pr P SA sx_TGm K d0 σ0 φ0 rec) (hst : sx_qst P SA sx_TGm q fs c σ φ) (hag : sx_ag2 (sx_m0 K) 256 σ0 σ φ0 φ) (hn : sx_m0 K ≤ sx_nx q.2.2.2.2.2) (hd : d + fs.length = d0) (h : sx_execP P CT K rec q = true) : sx_good SA (sx_Q0 P sx_TGm K σ0 φ0) d fs q.1 c := by
  unfold sx_execP at h
  split at h
  · next m hm =>
    obtain ⟨f, f1, f2⟩ := sx_first_ok hm
    refine sx_execD_ok H hrec hst hag hn hd sx_add_kq (fun σ φ hk => sx_add_ok hk.1.2.2.2.2.1 ?_) h
    have := sx_ph1_ok hk.1.2.2.2.2.1 (hk.1.2.2.2.2.1.2.2.2.2 f f1) f2
    rw [sx_ev_pk, sx_ev_ng]
    omega
  · cases h
theorem sx_iwD_kq : sx_kq D (sx_iwD P D) := by
  unfold sx_iwD
  split
  · split
    · exact sx_adds_kq
    · exact sx_kq.rf
  · exact sx_kq.rf
theorem sx_iwD_ok (hd : sx_d P sx_TGm σ φ D) : sx_d P sx_TGm σ φ (sx_iwD P D) := by
  unfold sx_iwD
  split
  · next y hy =>
    split
    · next r hr =>
      obtain ⟨f, f1, f2⟩ := sx_first_ok hy
      obtain ⟨g, g1, g2⟩ := sx_first_ok hr
      have hf := hd.2.2.2.2 f f1
      have hg := hd.2.2.2.2 g g1
      have e : sx_ev σ y.2.2.1 = sx_ev σ r := by
        unfold sx_iw1 at f2
        split at f2
        · next a wd r1 t x u =>
          cases f2
          unfold sx_iw2 at g2
          split at g2
          · next a' wd' r' t' x' u' =>
            cases hb : ((Nat.beq a' a && (sx_eq wd' wd && !(sx_eq r' r1))) && (sx_eqp P D t' t && (sx_eqp P D x' x && sx_eqp P D u' u))) with
            | false => rw [hb] at g2; cases g2
            | true =>
              rw [hb] at g2
              cases g2
              simp only [Bool.and_eq_true] at hb
              obtain ⟨⟨k1, k2, -⟩, k4, k5, k6⟩ := hb
              have hf := sx_fk45.mp hf
              have hg := sx_fk45.mp hg
              rw [Nat.eq_of_beq_eq_true k1, sx_eq_eq k2, sx_eqp_ok hd k4, sx_eqp_ok hd k5, sx_eqp_ok hd k6] at hg
              exact hf.trans hg.symm
          · cases g2
        · cases f2
      refine sx_adds_ok (fun z hz => ?_) hd
      rcases List.mem_cons.mp hz with rfl | hz
      · rw [sx_ev_sb]; omega
      · rcases List.mem_cons.mp hz with rfl | hz
        · rw [sx_ev_sb]; omega
        · cases hz
    · exact hd
  · exact hd
theorem sx_execI_ok {d0 d : Nat} {rec : sx_Q → Bool} {q : sx_Q} {fs : List sx_rf} {c : mx_C} (H : sx_hyp P SA sx_TGm CT K d0 σ0) (hrec : sx_pr P SA sx_TGm K d0 σ0 φ0 rec) (hst : sx_qst P SA sx_TGm q fs c σ φ) (hag : sx_ag2 (sx_m0 K) 256 σ0 σ φ0 φ) (hn : sx_m0 K ≤ sx_nx q.2.2.2.2.2) (hd : d + fs.length = d0) (h : sx_execI P CT K rec q = true) : sx_good SA (sx_Q0 P sx_TGm K σ0 φ0) d fs q.1 c :=
  sx_execD_ok H hrec hst hag hn hd sx_iwD_kq (fun _ _ hk => sx_iwD_ok hk.1.2.2.2.2.1) h
/-! more rules: what is known may be said otherwise -/
theorem sx_jaF_ok {a b : Nat} (h : φ a = φ b) (hd : sx_d P sx_TGm σ φ D) : sx_d P sx_TGm σ φ (sx_jaF P b a D) := by
  unfold sx_jaF
  split
  · next p hp =>
    refine ⟨hd.1, hd.2.1, hd.2.2.1, hd.2.2.2.1, List.forall_mem_cons.mpr ⟨?_, List.forall_mem_cons.mpr ⟨?_, hd.2.2.2.2⟩⟩⟩
    · show ∀ j, sx_ev σ (sx_k p.1) ≤ φ a j
      intro j
      rw [sx_ev_k, h]
      exact (hd.2.1 b p hp j).1
    · show ∀ j, φ a j ≤ sx_ev σ (sx_k p.2)
      intro j
      rw [sx_ev_k, h]
      exact (hd.2.1 b p hp j).2
  · exact hd
theorem sx_jaF_kq {a b : Nat} : sx_kq D (sx_jaF P b a D) := by
  unfold sx_jaF
  split
  · exact ⟨rfl, rfl, rfl, rfl⟩
  · exact sx_kq.rf
theorem sx_ali1_ok {f : sx_F} (hf : sx_fk sx_TGm σ φ f) (h : sx_ok P SA sx_TGm σ φ D M) : sx_ok P SA sx_TGm σ φ (sx_ali1 P f D) M ∧ sx_nx (sx_ali1 P f D) = sx_nx D ∧ sx_nm (sx_ali1 P f D) = sx_nm D := by
  unfold sx_ali1
  split
  · next a b =>
    cases hb : (Nat.blt a 256 && (Nat.blt b 255 && (sx_lkN b D.2.1).isNone)) with
    | false => exact ⟨h, rfl, rfl⟩
    | true =>
      simp only [Bool.and_eq_true] at hb
      have h1 := Nat.blt_eq.mp hb.1
      have h3 : sx_lkN b D.2.1 = none := Option.isNone_iff_eq_none.mp hb.2.2
      have hab : φ a = φ b := sx_n7.mp hf
      have kq := sx_jaF_kq (P := P) (D := D) (a := a) (b := b)
      have e0 : sx_ag D b = b := by
        unfold sx_ag
        rw [h3]
      have eag : ∀ j, sx_ag (sx_jaF P b a D) j = sx_ag D j := fun j => by
        unfold sx_ag
        rw [kq.2.1]
      have esg : ∀ j, sx_sg (sx_putN (sx_jaF P b a D) b a) j = sx_sg D j := fun j => by
        show sx_sg (sx_jaF P b a D) j = sx_sg D j
        unfold sx_sg
        rw [kq.1]
      have hd2 : sx_d P sx_TGm σ φ (sx_putN (sx_jaF P b a D) b a) := sx_jaF_ok hab h.2.1
      refine ⟨⟨?_, hd2, h.2.2.1, ?_⟩, kq.2.2.1, kq.2.2.2⟩
      · refine sx_mm_mk h.1.1 h.1 (fun q ci k j fs hq hk => by rw [show sx_sg (bif true then sx_putN (sx_jaF P b a D) b a else D) j = sx_sg D j from esg j]) fun q t n j hq i hi => ?_
        show φ (sx_ag (sx_putN (sx_jaF P b a D) b a) j) i = φ (sx_ag D j) i
        rw [sx_ag_put, eag]
        by_cases hj : j = b
        · rw [if_pos hj, hj, e0, hab]
        · rw [if_neg hj]
      · obtain ⟨s1, s2, s3, s4⟩ := h.2.2
        refine ⟨s2, ?_, ?_, fun j hj => ?_⟩
        · show 256 ≤ (sx_jaF P b a D).2.2.2.2.2.1
          rw [kq.2.2.1]
          exact s3
        · show 256 ≤ (sx_jaF P b a D).2.2.2.2.2.2
          rw [kq.2.2.2]
          exact s4.1
        · show sx_ag (sx_putN (sx_jaF P b a D) b a) j < (sx_jaF P b a D).2.2.2.2.2.2
          rw [kq.2.2.2, sx_ag_put, eag]
          split
          · omega
          · exact s4.2 j hj
  · next j y =>
    cases hb : (Nat.blt j 250 && (sx_lkE j D.1).isNone) with
    | false => exact ⟨h, rfl, rfl⟩
    | true =>
      rw [Bool.and_eq_true] at hb
      have h3 : sx_lkE j D.1 = none := Option.isNone_iff_eq_none.mp hb.2
      have hab : sx_ev σ (sx_v j) = sx_ev σ y := sx_n8.mp hf
      refine ⟨⟨?_, h.2.1, h.2.2⟩, rfl, rfl⟩
      refine sx_mm_mk h.1.1 h.1 (fun q ci k i fs hq hk => ?_) fun q t n i hq k hi => rfl
      show sx_ev σ (sx_sg (sx_putE D j y) i) = sx_ev σ (sx_sg D i)
      rw [sx_sg_put]
      by_cases hi : i = j
      · rw [if_pos hi, hi]
        unfold sx_sg
        rw [h3]
        exact hab.symm
      · rw [if_neg hi]
  · exact ⟨h, rfl, rfl⟩
theorem sx_ali_ok : ∀ {l : List sx_F}, (∀ f ∈ l, sx_fk sx_TGm σ φ f) → sx_ok P SA sx_TGm σ φ D M → sx_ok P SA sx_TGm σ φ (sx_ali P l D) M
  | [], _, h => h
  | f :: l, hf, h => (sx_ali1_ok (hf f List.mem_cons_self) (sx_ali_ok (fun g hg => hf g (List.mem_cons_of_mem _ hg)) h)).1
theorem sx_ali1_n {f : sx_F} : sx_nx (sx_ali1 P f D) = sx_nx D ∧ sx_nm (sx_ali1 P f D) = sx_nm D := by
  unfold sx_ali1
  split
  · next a b =>
    cases hb : (Nat.blt a 256 && (Nat.blt b 255 && (sx_lkN b D.2.1).isNone)) with
    | false => exact ⟨rfl, rfl⟩
    | true =>
      have kq := sx_jaF_kq (P := P) (D := D) (a := a) (b := b)
      exact ⟨kq.2.2.1, kq.2.2.2⟩
  · next j y =>
    cases hb : (Nat.blt j 250 && (sx_lkE j D.1).isNone) with
    | false => exact ⟨rfl, rfl⟩
    | true => exact ⟨rfl, rfl⟩
  · exact ⟨rfl, rfl⟩
theorem sx_ali_n : ∀ {l : List sx_F}, sx_nx (sx_ali P l D) = sx_nx D ∧ sx_nm (sx_ali P l D) = sx_nm D
  | [] => ⟨rfl, rfl⟩
  | f :: l => by
    have h1 := sx_ali1_n (P := P) (D := sx_ali P l D) (f := f)
    have h2 := sx_ali_n (l := l)
    exact ⟨h1.1.trans h2.1, h1.2.trans h2.2⟩
def sx_fnk (k : Nat) (as : List (Nat → Int)) (es : List Int) : Int := match k, as, es with
  | 1012, [P, C, F], [n, p, d] => tg_at C (tg_bs P F p d n.toNat)
  | 1014, [A, B], [n, x, y] => tg_ex A B x y n.toNat
  | 1015, [A, B], [n, c] => tg_em A B c n.toNat
  | 1018, [C, F], [n, d] => tr_at C 0 (tr_bt F d n.toNat)
  | _, _, _ => 0
theorem sx_sfk_ok {f : sx_F} {y : Nat × List Nat × List sx_E × sx_E} (hf : sx_fk sx_TGm σ φ f) (h : sx_sfk f = some y) : sx_ev σ y.2.2.2 = sx_fnk y.1 (y.2.1.map φ) (y.2.2.1.map (sx_ev σ)) := by
  unfold sx_sfk at h
  split at h
  · cases h; exact sx_n12.mp hf
  · cases h; exact (sx_n14.mp hf).2
  · cases h; exact sx_n15.mp hf
  · cases h; exact sx_n18.mp hf
  · cases h
theorem sx_eqpL_ok (hd : sx_d P sx_TGm σ φ D) : ∀ {a b : List sx_E}, sx_eqpL P D a b = true → a.map (sx_ev σ) = b.map (sx_ev σ)
  | [], [], _ => rfl
  | [], _ :: _, h => by cases h
  | _ :: _, [], h => by cases h
  | a :: l, b :: r, h => by
    have h := (Bool.and_eq_true _ _).mp h
    rw [List.map_cons, List.map_cons, sx_eqp_ok hd h.1, sx_eqpL_ok hd h.2]
theorem sx_sf1_ok {D0 : sx_D} {f : sx_F} (h0 : sx_d P sx_TGm σ φ D0) (hf : f ∈ D0.2.2.2.2.1) (hd : sx_d P sx_TGm σ φ D) : sx_d P sx_TGm σ φ (sx_sf1 P D0 f D) := by
  unfold sx_sf1
  split
  · next y hy =>
    split
    · next r hr =>
      obtain ⟨g, g1, g2⟩ := sx_first_ok hr
      have e1 := sx_sfk_ok (h0.2.2.2.2 f hf) hy
      unfold sx_sf2 at g2
      split at g2
      · next z hz =>
        cases hb : (Nat.beq z.1 y.1 && sx_eqN z.2.1 y.2.1) && (!(sx_eq z.2.2.2 y.2.2.2) && sx_eqpL P D0 z.2.2.1 y.2.2.1) with
        | false => rw [hb] at g2; cases g2
        | true =>
          rw [hb] at g2
          have g2 : some z.2.2.2 = some r := g2
          cases g2
          simp only [Bool.and_eq_true] at hb
          have e2 := sx_sfk_ok (h0.2.2.2.2 g g1) hz
          rw [Nat.eq_of_beq_eq_true hb.1.1, sx_eqN_eq hb.1.2, sx_eqpL_ok h0 hb.2.2, ← e1] at e2
          refine sx_adds_ok (fun e he => ?_) hd
          rcases List.mem_cons.mp he with rfl | he
          · rw [sx_ev_sb]; omega
          · rw [List.mem_singleton.mp he, sx_ev_sb]; omega
      · cases g2
    · exact hd
  · exact hd
theorem sx_sf1_kq {D0 : sx_D} {f : sx_F} : sx_kq D (sx_sf1 P D0 f D) := by
  unfold sx_sf1
  split
  · split
    · exact sx_adds_kq
    · exact sx_kq.rf
  · exact sx_kq.rf
theorem sx_sfA_ok {D0 : sx_D} (h0 : sx_d P sx_TGm σ φ D0) : ∀ {l : List sx_F}, (∀ f ∈ l, f ∈ D0.2.2.2.2.1) → sx_d P sx_TGm σ φ D → sx_d P sx_TGm σ φ (sx_sfA P D0 l D) ∧ sx_kq D (sx_sfA P D0 l D)
  | [], _, h => ⟨h, sx_kq.rf⟩
  | f :: l, hf, h => by
    obtain ⟨h1, h2⟩ := sx_sfA_ok h0 (l := l) (fun g hg => hf g (List.mem_cons_of_mem _ hg)) h
    exact ⟨sx_sf1_ok h0 (hf f List.mem_cons_self) h1, h2.tr sx_sf1_kq⟩
theorem sn_dvm {a b : Int32} (hb : 1 ≤ b.toInt) : a.toInt = b.toInt * (a / b).toInt + (a - a / b * b).toInt := by
  have hr := sn_r32 a
  have hq : ∃ q, a.toInt.tdiv b.toInt = q ∧ (0 ≤ a.toInt → 0 ≤ q ∧ q ≤ a.toInt ∧ 0 ≤ q * b.toInt ∧ q * b.toInt ≤ a.toInt) ∧ (a.toInt < 0 → q ≤ 0 ∧ a.toInt ≤ q ∧ q * b.toInt ≤ 0 ∧ a.toInt ≤ q * b.toInt) := by
    refine ⟨_, rfl, fun h => ?_, fun h => ?_⟩
    · rw [Int.tdiv_eq_ediv_of_nonneg h]
      have h1 := Int.ediv_nonneg h (show 0 ≤ b.toInt by omega)
      exact ⟨h1, Int.ediv_le_self _ h, Int.mul_nonneg h1 (by omega), Int.ediv_mul_le _ (by omega)⟩
    · have e : a.toInt.tdiv b.toInt = -((-a.toInt) / b.toInt) := by
        rw [← Int.tdiv_eq_ediv_of_nonneg (show 0 ≤ -a.toInt by omega), Int.neg_tdiv, Int.neg_neg]
      rw [e]
      have h1 := Int.ediv_nonneg (show 0 ≤ -a.toInt by omega) (show 0 ≤ b.toInt by omega)
      have h2 := Int.ediv_le_self (a := -a.toInt) b.toInt (by omega)
      have h3 := Int.ediv_mul_le (-a.toInt) (b := b.toInt) (by omega)
      have h4 := Int.mul_nonneg h1 (show 0 ≤ b.toInt by omega)
      rw [Int.neg_mul]
      omega
  obtain ⟨q, q1, q2, q3⟩ := hq
  have e1 : (a / b).toInt = q := by
    rw [Int32.toInt_div, q1]
    exact sn_b32 (by omega) (by omega)
  have e2 : (a / b * b).toInt = q * b.toInt := by
    rw [sn_mul (by rw [e1]; omega) (by rw [e1]; omega), e1]
  have e3 : (a - a / b * b).toInt = a.toInt - q * b.toInt := by
    rw [sn_sub (by rw [e2]; omega) (by rw [e2]; omega), e2]
  rw [e3, e1, Int.mul_comm]
  omega
theorem sx_dv1_ok {D0 : sx_D} {f : sx_F} (h0 : sx_d P sx_TGm σ φ D0) (hf : f ∈ D0.2.2.2.2.1) (hd : sx_d P sx_TGm σ φ D) : sx_d P sx_TGm σ φ (sx_dv1 P D0 f D) := by
  unfold sx_dv1
  split
  · next x c q =>
    cases hb : (sx_le 1 c && sx_le c 2147483647) && (sx_ge P D0 (sx_pk x 2147483648) && sx_ge P D0 (sx_pk (sx_ng x) 2147483647)) with
    | false => exact hd
    | true =>
      show sx_d P sx_TGm σ φ (match sx_first (sx_dv2 x (c, [])) D0.2.2.2.2.1 with
        | some r => sx_adds P [sx_sb x (sx_ad (sx_sc c q) r), sx_sb (sx_ad (sx_sc c q) r) x] D
        | none => D)
      split
      · next r hr =>
        obtain ⟨g, g1, g2⟩ := sx_first_ok hr
        unfold sx_dv2 at g2
        split at g2
        · next x' c' r' =>
          cases hc : sx_eq x' x && sx_eq c' (c, []) with
          | false => rw [hc] at g2; cases g2
          | true =>
            rw [hc] at g2
            have g2 : some r' = some r := g2
            cases g2
            rw [Bool.and_eq_true] at hc
            have k1 : sx_fn 14 (sx_ev σ x) (sx_ev σ (c, [])) = sx_ev σ q := h0.2.2.2.2 _ hf
            have k2 : sx_fn 15 (sx_ev σ x') (sx_ev σ c') = sx_ev σ r := h0.2.2.2.2 _ g1
            rw [sx_eq_eq hc.1, sx_eq_eq hc.2] at k2
            simp only [Bool.and_eq_true] at hb
            have b1 := sx_le_iff.mp hb.1.1
            have b2 := sx_le_iff.mp hb.1.2
            have b3 := sx_ge_ok h0 hb.2.1
            have b4 := sx_ge_ok h0 hb.2.2
            rw [sx_ev_pk] at b3 b4
            rw [sx_ev_ng] at b4
            have ec : sx_ev σ (c, []) = c := sx_ev_k
            rw [ec] at k1 k2
            have k1 : (Int32.ofInt (sx_ev σ x) / Int32.ofInt c).toInt = sx_ev σ q := k1
            have k2 : (Int32.ofInt (sx_ev σ x) - Int32.ofInt (sx_ev σ x) / Int32.ofInt c * Int32.ofInt c).toInt = sx_ev σ r := k2
            have x1 : (Int32.ofInt (sx_ev σ x)).toInt = sx_ev σ x := Int32.toInt_ofInt_of_le (by omega) (by omega)
            have x2 : (Int32.ofInt c).toInt = c := Int32.toInt_ofInt_of_le (by omega) (by omega)
            have key := sn_dvm (a := Int32.ofInt (sx_ev σ x)) (b := Int32.ofInt c) (by rw [x2]; exact b1)
            rw [x1, x2, k1, k2] at key
            refine sx_adds_ok (fun e he => ?_) hd
            rcases List.mem_cons.mp he with rfl | he
            · rw [sx_ev_sb, sx_ev_ad, sx_ev_sc]; omega
            · rw [List.mem_singleton.mp he, sx_ev_sb, sx_ev_ad, sx_ev_sc]; omega
        · cases g2
      · exact hd
  · exact hd
theorem sx_dv1_kq {D0 : sx_D} {f : sx_F} : sx_kq D (sx_dv1 P D0 f D) := by
  unfold sx_dv1
  split
  · next x c q =>
    cases hb : (sx_le 1 c && sx_le c 2147483647) && (sx_ge P D0 (sx_pk x 2147483648) && sx_ge P D0 (sx_pk (sx_ng x) 2147483647)) with
    | false => exact sx_kq.rf
    | true =>
      show sx_kq D (match sx_first (sx_dv2 x (c, [])) D0.2.2.2.2.1 with
        | some r => sx_adds P [sx_sb x (sx_ad (sx_sc c q) r), sx_sb (sx_ad (sx_sc c q) r) x] D
        | none => D)
      split
      · exact sx_adds_kq
      · exact sx_kq.rf
  · exact sx_kq.rf
theorem sx_dvA_ok {D0 : sx_D} (h0 : sx_d P sx_TGm σ φ D0) : ∀ {l : List sx_F}, (∀ f ∈ l, f ∈ D0.2.2.2.2.1) → sx_d P sx_TGm σ φ D → sx_d P sx_TGm σ φ (sx_dvA P D0 l D) ∧ sx_kq D (sx_dvA P D0 l D)
  | [], _, h => ⟨h, sx_kq.rf⟩
  | f :: l, hf, h => by
    obtain ⟨h1, h2⟩ := sx_dvA_ok h0 (l := l) (fun g hg => hf g (List.mem_cons_of_mem _ hg)) h
    exact ⟨sx_dv1_ok h0 (hf f List.mem_cons_self) h1, h2.tr sx_dv1_kq⟩
theorem sx_sfA_kq {D0 : sx_D} : ∀ {l : List sx_F}, sx_kq D (sx_sfA P D0 l D)
  | [] => sx_kq.rf
  | _ :: l => (sx_sfA_kq (l := l)).tr sx_sf1_kq
theorem sx_dvA_kq {D0 : sx_D} : ∀ {l : List sx_F}, sx_kq D (sx_dvA P D0 l D)
  | [] => sx_kq.rf
  | _ :: l => (sx_dvA_kq (l := l)).tr sx_dv1_kq
theorem sx_add0_ok {e : sx_E} (he : sx_ev σ e = 0) (hd : sx_d P sx_TGm σ φ D) : sx_d P sx_TGm σ φ (sx_add0 P e D) := by
  unfold sx_add0
  cases sx_any (sx_eq e) D.2.2.2.1 with
  | true => exact hd
  | false =>
    refine sx_adds_ok (fun a ha => ?_) hd
    rcases List.mem_cons.mp ha with rfl | ha
    · omega
    · rw [List.mem_singleton.mp ha, sx_ev_ng]; omega
theorem sx_add0_kq {e : sx_E} : sx_kq D (sx_add0 P e D) := by
  unfold sx_add0
  cases sx_any (sx_eq e) D.2.2.2.1 with
  | true => exact sx_kq.rf
  | false => exact sx_adds_kq
theorem sx_ne0_ok {e : sx_E} (he : sx_ev σ e = 0) : ∀ {l : List sx_F}, (∀ f ∈ l, sx_fk sx_TGm σ φ f) → ∀ f ∈ sx_ne0 e l, sx_fk sx_TGm σ φ f
  | [], _, f, hf => absurd hf List.not_mem_nil
  | g :: l, hl, f, hf => by
    have ih := sx_ne0_ok he (l := l) (fun g hg => hl g (List.mem_cons_of_mem _ hg))
    have hg := hl g List.mem_cons_self
    unfold sx_ne0 at hf
    split at hf
    · next d =>
      have hg : ¬ sx_ev σ d = 0 := hg
      rcases List.mem_cons.mp hf with rfl | hf
      · show ¬ sx_ev σ (sx_sb d e) = 0
        rw [sx_ev_sb]
        omega
      · rcases List.mem_cons.mp hf with rfl | hf
        · show ¬ sx_ev σ (sx_ad d e) = 0
          rw [sx_ev_ad]
          omega
        · exact ih f hf
    · exact ih f hf
theorem sx_prE_ok {e : sx_E} (he : sx_ev σ e = 0) : ∀ {l : List sx_E} {D : sx_D}, (∀ q ∈ l, sx_ev σ q = 0) → sx_d P sx_TGm σ φ D → sx_d P sx_TGm σ φ (sx_prE P e l D)
  | [], _, _, h => h
  | q :: l, D, hq, h => sx_add0_ok (by rw [sx_ev_sb, he, hq q List.mem_cons_self]; rfl) (sx_prE_ok he (fun a ha => hq a (List.mem_cons_of_mem _ ha)) h)
theorem sx_prE_kq {e : sx_E} : ∀ {l : List sx_E} {D : sx_D}, sx_kq D (sx_prE P e l D)
  | [], _ => sx_kq.rf
  | _ :: l, _ => (sx_prE_kq (l := l)).tr sx_add0_kq
theorem sx_sh2_ok {D0 : sx_D} {S : Nat} {i y : sx_E} {A : sx_D × List sx_E} (h0 : sx_d P sx_TGm σ φ D0) (hs : φ S (sx_ev σ i).toNat = sx_ev σ y + 1) (hd : sx_d P sx_TGm σ φ A.1 ∧ ∀ q ∈ A.2, sx_ev σ q = 0) : sx_d P sx_TGm σ φ (sx_sh2 P D0 S i y A).1 ∧ ∀ q ∈ (sx_sh2 P D0 S i y A).2, sx_ev σ q = 0 := by
  unfold sx_sh2
  split
  · next x hx =>
    have := sx_sel_ok h0 hx
    have e0 : sx_ev σ (sx_sb x (sx_pk y 1)) = 0 := by
      rw [sx_ev_sb, sx_ev_pk]
      omega
    have h1 := sx_prE_ok (P := P) e0 hd.2 (sx_add0_ok (P := P) e0 hd.1)
    refine ⟨⟨h1.1, h1.2.1, h1.2.2.1, h1.2.2.2.1, fun f hf => ?_⟩, fun q hq => ?_⟩
    · rcases List.mem_append.mp hf with hf | hf
      · exact sx_ne0_ok e0 h1.2.2.2.2 f hf
      · exact h1.2.2.2.2 f hf
    · rcases List.mem_cons.mp hq with rfl | hq
      · exact e0
      · exact hd.2 q hq
  · exact hd
theorem sx_sh2_kq {D0 : sx_D} {S : Nat} {i y : sx_E} {A : sx_D × List sx_E} : sx_kq A.1 (sx_sh2 P D0 S i y A).1 := by
  unfold sx_sh2
  split
  · next x hx =>
    have h := (sx_add0_kq (P := P) (D := A.1) (e := sx_sb x (sx_pk y 1))).tr (sx_prE_kq (P := P) (l := A.2) (e := sx_sb x (sx_pk y 1)))
    exact ⟨h.1, h.2.1, h.2.2.1, h.2.2.2⟩
  · exact sx_kq.rf
theorem sx_sh3_ok {D0 : sx_D} {Z Y : Nat} {i y : sx_E} {A : sx_D × List sx_E} (h0 : sx_d P sx_TGm σ φ D0) (hs : 0 ≤ sx_ev σ y → φ Z (sx_ev σ i).toNat = φ Y (sx_ev σ i).toNat) (hd : sx_d P sx_TGm σ φ A.1 ∧ ∀ q ∈ A.2, sx_ev σ q = 0) : sx_d P sx_TGm σ φ (sx_sh3 P D0 Z Y i y A).1 ∧ ∀ q ∈ (sx_sh3 P D0 Z Y i y A).2, sx_ev σ q = 0 := by
  unfold sx_sh3
  cases hb : sx_ge P D0 y with
  | false => exact hd
  | true =>
    simp only [cond_true]
    have hs := hs (sx_ge_ok h0 hb)
    split
    · next z u hz hu =>
      have e1 := sx_sel_ok h0 hz
      have e2 := sx_sel_ok h0 hu
      exact ⟨sx_add0_ok (by rw [sx_ev_sb]; omega) hd.1, hd.2⟩
    · exact hd
theorem sx_sh3_kq {D0 : sx_D} {Z Y : Nat} {i y : sx_E} {A : sx_D × List sx_E} : sx_kq A.1 (sx_sh3 P D0 Z Y i y A).1 := by
  unfold sx_sh3
  cases hb : sx_ge P D0 y with
  | false => exact sx_kq.rf
  | true =>
    simp only [cond_true]
    split
    · exact sx_add0_kq
    · exact sx_kq.rf
theorem sx_sh1_kq {D0 : sx_D} {S Z M Y : Nat} {f : sx_F} {A : sx_D × List sx_E} : sx_kq A.1 (sx_sh1 P D0 S Z M Y f A).1 := by
  unfold sx_sh1
  split
  · next M' i y =>
    cases hb : (Nat.beq M' M && (sx_ge P D0 i && sx_ge P D0 (sx_pk (sx_ng i) 3))) with
    | false => exact sx_kq.rf
    | true => exact sx_kq.tr sx_sh2_kq sx_sh3_kq
  · exact sx_kq.rf
theorem sx_sh1_ok {D0 : sx_D} {S Z M Y : Nat} {f : sx_F} {A : sx_D × List sx_E} (h0 : sx_d P sx_TGm σ φ D0) (hf : f ∈ D0.2.2.2.2.1) (hg : ∀ s : Nat, s < 4 → φ S s = φ M s + 1 ∧ (0 ≤ φ M s → φ Z s = φ Y s)) (hd : sx_d P sx_TGm σ φ A.1 ∧ ∀ q ∈ A.2, sx_ev σ q = 0) : sx_d P sx_TGm σ φ (sx_sh1 P D0 S Z M Y f A).1 ∧ ∀ q ∈ (sx_sh1 P D0 S Z M Y f A).2, sx_ev σ q = 0 := by
  have hk := h0.2.2.2.2 f hf
  unfold sx_sh1
  split
  · next M' i y =>
    cases hb : (Nat.beq M' M && (sx_ge P D0 i && sx_ge P D0 (sx_pk (sx_ng i) 3))) with
    | false => exact hd
    | true =>
      simp only [Bool.and_eq_true] at hb
      have hm := Nat.eq_of_beq_eq_true hb.1
      subst hm
      have b1 := sx_ge_ok h0 hb.2.1
      have b2 := sx_ge_ok h0 hb.2.2
      rw [sx_ev_pk, sx_ev_ng] at b2
      have hk : φ M' (sx_ev σ i).toNat = sx_ev σ y := hk
      obtain ⟨g1, g2⟩ := hg (sx_ev σ i).toNat (by omega)
      rw [hk] at g1 g2
      exact sx_sh3_ok h0 g2 (sx_sh2_ok h0 g1 hd)
  · exact hd
theorem sx_shL_ok {D0 : sx_D} {S Z M Y : Nat} (h0 : sx_d P sx_TGm σ φ D0) (hg : ∀ s : Nat, s < 4 → φ S s = φ M s + 1 ∧ (0 ≤ φ M s → φ Z s = φ Y s)) : ∀ {l : List sx_F}, (∀ f ∈ l, f ∈ D0.2.2.2.2.1) → sx_d P sx_TGm σ φ D → sx_d P sx_TGm σ φ (sx_shL P D0 S Z M Y l D).1 ∧ ∀ q ∈ (sx_shL P D0 S Z M Y l D).2, sx_ev σ q = 0
  | [], _, h => ⟨h, fun q hq => absurd hq List.not_mem_nil⟩
  | f :: l, hf, h => sx_sh1_ok h0 (hf f List.mem_cons_self) hg (sx_shL_ok h0 hg (l := l) (fun g hg => hf g (List.mem_cons_of_mem _ hg)) h)
theorem sx_shL_kq {D0 : sx_D} {S Z M Y : Nat} : ∀ {l : List sx_F}, sx_kq D (sx_shL P D0 S Z M Y l D).1
  | [] => sx_kq.rf
  | _ :: l => (sx_shL_kq (l := l)).tr sx_sh1_kq
theorem sx_shG_kq {D0 : sx_D} {g : sx_F} : sx_kq D (sx_shG P D0 g D) := by
  unfold sx_shG
  split
  · exact sx_shL_kq
  · exact sx_kq.rf
theorem sx_shA_ok {D0 : sx_D} (h0 : sx_d P sx_TGm σ φ D0) : ∀ {l : List sx_F}, (∀ f ∈ l, f ∈ D0.2.2.2.2.1) → sx_d P sx_TGm σ φ D → sx_d P sx_TGm σ φ (sx_shA P D0 l D)
  | [], _, h => h
  | g :: l, hf, h => by
    have ih := sx_shA_ok h0 (l := l) (fun g hg => hf g (List.mem_cons_of_mem _ hg)) h
    have hk := h0.2.2.2.2 g (hf g List.mem_cons_self)
    show sx_d P sx_TGm σ φ (sx_shG P D0 g (sx_shA P D0 l D))
    unfold sx_shG
    split
    · exact (sx_shL_ok h0 (sx_n20.mp hk) (fun _ hf => hf) ih).1
    · exact ih
theorem sx_shA_kq {D0 : sx_D} : ∀ {l : List sx_F}, sx_kq D (sx_shA P D0 l D)
  | [] => sx_kq.rf
  | _ :: l => (sx_shA_kq (l := l)).tr sx_shG_kq
theorem sx_rz1_kq {D0 : sx_D} {f : sx_F} : sx_kq D (sx_rz1 P D0 f D) := by
  unfold sx_rz1
  split
  · split
    · exact sx_adds_kq
    · exact sx_kq.rf
  · exact sx_kq.rf
theorem sx_rzA_kq {D0 : sx_D} : ∀ {l : List sx_F}, sx_kq D (sx_rzA P D0 l D)
  | [] => sx_kq.rf
  | _ :: l => (sx_rzA_kq (l := l)).tr sx_rz1_kq
theorem sx_rz1_ok {D0 : sx_D} {f : sx_F} (h0 : sx_d P sx_TGm σ φ D0) (hf : f ∈ D0.2.2.2.2.1) (hd : sx_d P sx_TGm σ φ D) : sx_d P sx_TGm σ φ (sx_rz1 P D0 f D) := by
  have hk := h0.2.2.2.2 f hf
  unfold sx_rz1
  split
  · next C Y Z m p came cnt s t g r c =>
    split
    · next z hz =>
      obtain ⟨q, q1, q2⟩ := sx_first_ok hz
      have hq := h0.2.2.2.2 q q1
      unfold sx_rz2 at q2
      split at q2
      · next C' Y' Z' m' p' came' cnt' s' t' g' r' c' =>
        cases hb : (Nat.beq Y' Y && sx_eqpL P D0 [m', p', came', cnt', s', t', g'] [m, p, came, cnt, s, t, g]) && (sx_any (sx_rz8 P D0 C C' Z Z' s) D0.2.2.2.2.1 && (sx_i4 P D0 s && sx_s40 P D0 Z)) with
        | false => rw [hb] at q2; cases q2
        | true =>
          rw [hb] at q2
          have q2 : some (r', c') = some z := q2
          cases q2
          rw [Bool.and_eq_true, Bool.and_eq_true, Bool.and_eq_true, Bool.and_eq_true] at hb
          obtain ⟨⟨b1, b2⟩, b3, b4, b5⟩ := hb
          have b1 := Nat.eq_of_beq_eq_true b1
          subst b1
          have b2 := sx_eqpL_ok h0 b2
          simp only [List.map_cons, List.map_nil, List.cons.injEq, and_true] at b2
          obtain ⟨e1, e2, e3, e4, e5, e6, e7⟩ := b2
          have b4 := sx_i4_ok h0 b4
          obtain ⟨k1, k2⟩ := sx_n30.mp hk
          obtain ⟨l1, l2⟩ := sx_n30.mp hq
          rw [e1, e2, e3, e4, e5, e6, e7] at l2
          obtain ⟨w, w1, w2⟩ := sx_any_ok b3
          have hw := h0.2.2.2.2 w w1
          unfold sx_rz8 at w2
          split at w2
          · next a b M =>
            rw [Bool.and_eq_true, Bool.and_eq_true, Bool.and_eq_true] at w2
            obtain ⟨⟨x1, x2⟩, x3, x4⟩ := w2
            have x1 := Nat.eq_of_beq_eq_true x1
            have x2 := Nat.eq_of_beq_eq_true x2
            subst x1
            subst x2
            have hw := sx_n21.mp hw
            obtain ⟨y, y1, y2⟩ := sx_o_ok x4
            have y2 := sx_ge_ok h0 y2
            have y1 := sx_sel_ok h0 y1
            obtain ⟨v, v1, v2⟩ := sx_any_ok x3
            have hv := h0.2.2.2.2 v v1
            unfold sx_rz9 at v2
            split at v2
            · next s0 z' mm zz =>
              simp only [Bool.and_eq_true] at v2
              have c1 := Nat.eq_of_beq_eq_true v2.1
              have c2 := Nat.eq_of_beq_eq_true v2.2.1
              have c3 := Nat.eq_of_beq_eq_true v2.2.2
              subst c1
              subst c2
              subst c3
              have hv := (sx_n20.mp hv (sx_ev σ s).toNat (by omega)).2 (by omega)
              rw [hv] at l2
              unfold sx_s40 at b5
              split at b5
              · next hh hnh =>
                have b5 := sx_le_iff.mp b5
                have nz := sx_nhi_ok hnh h0 (sx_ev σ s).toNat
                have cg := tg_rs_cg (C := φ a) (C' := φ b) (Y := φ Y') (z := φ zz (sx_ev σ s).toNat) (b := 40 * sx_ev σ s) (today := sx_ev σ t) (games := sx_ev σ g) (by omega) (fun j j1 j2 => by
                  have := hw (sx_ev σ s).toNat (by omega) (by omega) (j - 40 * (sx_ev σ s).toNat) (by omega)
                  rw [show 40 * (sx_ev σ s).toNat + (j - 40 * (sx_ev σ s).toNat) = j by omega] at this
                  exact this) (sx_ev σ m).toNat (sx_ev σ p) (sx_ev σ came) (sx_ev σ cnt)
                rw [cg, ← k2] at l2
                have r1 : sx_ev σ (r', c').1 = sx_ev σ r := congrArg Prod.fst l2
                have r2 : sx_ev σ (r', c').2 = sx_ev σ c := congrArg Prod.snd l2
                refine sx_adds_ok (fun e he => ?_) hd
                rcases List.mem_cons.mp he with rfl | he
                · rw [sx_ev_sb]; omega
                · rcases List.mem_cons.mp he with rfl | he
                  · rw [sx_ev_sb]; omega
                  · rcases List.mem_cons.mp he with rfl | he
                    · rw [sx_ev_sb]; omega
                    · rw [List.mem_singleton.mp he, sx_ev_sb]; omega
              · cases b5
            · cases v2
          · cases w2
      · cases q2
    · exact hd
  · exact hd
theorem sx_rzA_ok {D0 : sx_D} (h0 : sx_d P sx_TGm σ φ D0) : ∀ {l : List sx_F}, (∀ f ∈ l, f ∈ D0.2.2.2.2.1) → sx_d P sx_TGm σ φ D → sx_d P sx_TGm σ φ (sx_rzA P D0 l D)
  | [], _, h => h
  | g :: l, hf, h => sx_rz1_ok h0 (hf g List.mem_cons_self) (sx_rzA_ok h0 (l := l) (fun g hg => hf g (List.mem_cons_of_mem _ hg)) h)
theorem sx_ft1_kq {D0 : sx_D} {f : sx_F} : sx_kq D (sx_ft1 P D0 f D) := by
  unfold sx_ft1
  split
  · split
    · exact sx_adds_kq
    · exact sx_kq.rf
  · exact sx_kq.rf
theorem sx_ftA_kq {D0 : sx_D} : ∀ {l : List sx_F}, sx_kq D (sx_ftA P D0 l D)
  | [] => sx_kq.rf
  | _ :: l => (sx_ftA_kq (l := l)).tr sx_ft1_kq
theorem sx_ft1_ok {D0 : sx_D} {f : sx_F} (h0 : sx_d P sx_TGm σ φ D0) (hf : f ∈ D0.2.2.2.2.1) (hd : sx_d P sx_TGm σ φ D) : sx_d P sx_TGm σ φ (sx_ft1 P D0 f D) := by
  have hk := h0.2.2.2.2 f hf
  unfold sx_ft1
  split
  · next C n x =>
    split
    · next y hy =>
      obtain ⟨q, q1, q2⟩ := sx_first_ok hy
      have hq := h0.2.2.2.2 q q1
      unfold sx_ft2 at q2
      split at q2
      · next C' n' x' =>
        cases hb : (sx_any (sx_l40 C C') D0.2.2.2.2.1 && sx_eqp P D0 n' n) with
        | false =>
          rw [hb] at q2
          have q2 : none = some y := q2
          cases q2
        | true =>
          rw [hb] at q2
          have q2 : some x' = some y := q2
          cases q2
          rw [Bool.and_eq_true] at hb
          have hal := sx_l40_ok h0 hb.1
          have hk := sx_n70.mp hk
          have hq := sx_n70.mp hq
          rw [sx_eqp_ok h0 hb.2] at hq
          have e := tr_fa_al hal hk hq
          refine sx_adds_ok (fun z hz => ?_) hd
          rcases List.mem_cons.mp hz with rfl | hz
          · rw [sx_ev_sb]; omega
          · rw [List.mem_singleton.mp hz, sx_ev_sb]; omega
      · cases q2
    · exact hd
  · exact hd
theorem sx_ftA_ok {D0 : sx_D} (h0 : sx_d P sx_TGm σ φ D0) : ∀ {l : List sx_F}, (∀ f ∈ l, f ∈ D0.2.2.2.2.1) → sx_d P sx_TGm σ φ D → sx_d P sx_TGm σ φ (sx_ftA P D0 l D)
  | [], _, h => h
  | g :: l, hf, h => sx_ft1_ok h0 (hf g List.mem_cons_self) (sx_ftA_ok h0 (l := l) (fun g hg => hf g (List.mem_cons_of_mem _ hg)) h)
theorem sx_mrD_n {c : Nat} : sx_nx (sx_mrD P c D) = sx_nx D ∧ sx_nm (sx_mrD P c D) = sx_nm D := by
  unfold sx_mrD
  cases Nat.beq c 8070 with
  | true => exact ⟨(sx_ftA_kq (l := D.2.2.2.2.1)).2.2.1, (sx_ftA_kq (l := D.2.2.2.2.1)).2.2.2⟩
  | false =>
  cases Nat.beq c 8030 with
  | true => exact ⟨(sx_rzA_kq (l := D.2.2.2.2.1)).2.2.1, (sx_rzA_kq (l := D.2.2.2.2.1)).2.2.2⟩
  | false =>
  cases Nat.beq c 8000 with
  | true => exact ⟨(sx_shA_kq (l := D.2.2.2.2.1)).2.2.1, (sx_shA_kq (l := D.2.2.2.2.1)).2.2.2⟩
  | false =>
  cases Nat.beq c 4000 with
  | true => exact sx_ali_n
  | false =>
    cases Nat.beq c 5000 with
    | true => exact ⟨(sx_sfA_kq (l := D.2.2.2.2.1)).2.2.1, (sx_sfA_kq (l := D.2.2.2.2.1)).2.2.2⟩
    | false =>
      cases Nat.beq c 7000 with
      | true => exact ⟨(sx_dvA_kq (l := D.2.2.2.2.1)).2.2.1, (sx_dvA_kq (l := D.2.2.2.2.1)).2.2.2⟩
      | false => exact ⟨rfl, rfl⟩
theorem sx_mrD_ok {c : Nat} (h : sx_ok P SA sx_TGm σ φ D M) : sx_ok P SA sx_TGm σ φ (sx_mrD P c D) M := by
  unfold sx_mrD
  cases Nat.beq c 8070 with
  | true => exact sx_ok_kp (sx_ftA_kq (l := D.2.2.2.2.1)).kp h (sx_ftA_ok (D := D) h.2.1 (fun _ hf => hf) h.2.1)
  | false =>
  cases Nat.beq c 8030 with
  | true => exact sx_ok_kp (sx_rzA_kq (l := D.2.2.2.2.1)).kp h (sx_rzA_ok (D := D) h.2.1 (fun _ hf => hf) h.2.1)
  | false =>
  cases Nat.beq c 8000 with
  | true => exact sx_ok_kp (sx_shA_kq (l := D.2.2.2.2.1)).kp h (sx_shA_ok (D := D) h.2.1 (fun _ hf => hf) h.2.1)
  | false =>
  cases Nat.beq c 4000 with
  | true => exact sx_ali_ok h.2.1.2.2.2.2 h
  | false =>
    cases Nat.beq c 5000 with
    | true =>
      obtain ⟨h1, h2⟩ := sx_sfA_ok (D := D) h.2.1 (l := D.2.2.2.2.1) (fun _ hf => hf) h.2.1
      exact sx_ok_kp h2.kp h h1
    | false =>
      cases Nat.beq c 7000 with
      | true =>
        obtain ⟨h1, h2⟩ := sx_dvA_ok (D := D) h.2.1 (l := D.2.2.2.2.1) (fun _ hf => hf) h.2.1
        exact sx_ok_kp h2.kp h h1
      | false => exact h
theorem sx_bad_no (hd : sx_d P sx_TGm σ φ D) (h : sx_bad D = true) : False := by
  obtain ⟨p, -, h2⟩ := sx_any_ok h
  split at h2
  · next b hb =>
    have h3 := hd.2.2.1 p.1 b hb
    have h4 : sx_le b.1 b.2 = true := sx_le_iff.mpr (by omega)
    rw [h4] at h2
    cases h2
  · cases h2
theorem sx_execN_ok {d0 d z : Nat} {rec : sx_Q → Bool} {q : sx_Q} {fs : List sx_rf} {c : mx_C} (H : sx_hyp P SA sx_TGm CT K d0 σ0) (hrec : sx_pr P SA sx_TGm K d0 σ0 φ0 rec) (hst : sx_qst P SA sx_TGm q fs c σ φ) (hag : sx_ag2 (sx_m0 K) 256 σ0 σ φ0 φ) (hn : sx_m0 K ≤ sx_nx q.2.2.2.2.2) (hd : d + fs.length = d0) (h : sx_execN P CT K rec q z = true) : sx_good SA (sx_Q0 P sx_TGm K σ0 φ0) d fs q.1 c := by
  obtain ⟨e1, e2⟩ := sx_mrD_n (P := P) (D := q.2.2.2.2.2) (c := z)
  unfold sx_execN at h
  cases hb : sx_bad (sx_mrD P z q.2.2.2.2.2) with
  | true => exact (sx_bad_no (sx_mrD_ok (hst σ φ sx_ag2.rf).1.2.2.2).2.1 hb).elim
  | false =>
  rw [hb] at h
  refine sx_exec1_ok (q := (q.1, q.2.1, (q.2.2.1, q.2.2.2.1, q.2.2.2.2.1, sx_mrD P z q.2.2.2.2.2))) H hrec (fun σ' φ' ha => ?_) hag (by show sx_m0 K ≤ sx_nx (sx_mrD P z q.2.2.2.2.2); rw [e1]; exact hn) hd h
  have ha : sx_ag2 (sx_nx (sx_mrD P z q.2.2.2.2.2)) (sx_nm (sx_mrD P z q.2.2.2.2.2)) σ σ' φ φ' := ha
  rw [e1, e2] at ha
  have h1 := hst σ' φ' ha
  exact ⟨⟨h1.1.1, h1.1.2.1, h1.1.2.2.1, sx_mrD_ok h1.1.2.2.2⟩, h1.2⟩
theorem sx_exec_ok {d0 d : Nat} {rec : sx_Q → Bool} {q : sx_Q} {fs : List sx_rf} {c : mx_C} (H : sx_hyp P SA sx_TGm CT K d0 σ0) (hrec : sx_pr P SA sx_TGm K d0 σ0 φ0 rec) (hst : sx_qst P SA sx_TGm q fs c σ φ) (hag : sx_ag2 (sx_m0 K) 256 σ0 σ φ0 φ) (hn : sx_m0 K ≤ sx_nx q.2.2.2.2.2) (hd : d + fs.length = d0) (h : sx_exec P CT K rec q = true) : sx_good SA (sx_Q0 P sx_TGm K σ0 φ0) d fs q.1 c := by
  unfold sx_exec at h
  split at h
  · exact sx_exec1_ok H hrec hst hag hn hd h
  · next p hp =>
    cases hy : Nat.ble 20000 p.2 with
    | true => rw [hy] at h; exact sx_exec4_ok H hrec hst hag hn hd h
    | false =>
    rw [hy] at h
    cases hz : Nat.ble 4000 p.2 with
    | true => rw [hz] at h; exact sx_execN_ok H hrec hst hag hn hd h
    | false =>
    rw [hz] at h
    cases ha : Nat.ble 3000 p.2 with
    | true => rw [ha] at h; exact sx_execI_ok H hrec hst hag hn hd h
    | false =>
    rw [ha] at h
    cases hb : Nat.ble 2000 p.2 with
    | true => rw [hb] at h; exact sx_execP_ok H hrec hst hag hn hd h
    | false =>
      rw [hb] at h
      cases hc : Nat.ble 1000 p.2 with
      | true => rw [hc] at h; exact sx_execC_ok H hrec hst hag hn hd h
      | false =>
        rw [hc] at h
        cases hf : Nat.ble 500 p.2 with
        | true => rw [hf] at h; exact sx_exec4_ok H hrec hst hag hn hd h
        | false => rw [hf] at h; exact sx_exec2_ok H hrec hst hag hn hd h
theorem sx_run_ok {d0 : Nat} (H : sx_hyp P SA sx_TGm CT K d0 σ0) : ∀ n, sx_pr P SA sx_TGm K d0 σ0 φ0 (sx_run P CT K n)
  | 0 => fun q h => by cases h
  | n + 1 => fun q h σ φ d fs c hst hag hn hd => by
    have ih := sx_run_ok H n
    have h : sx_step P CT K (sx_run P CT K n) q = true := h
    unfold sx_step at h
    split at h
    · next h0 =>
      cases h1 : Nat.beq q.2.2.1 0 with
      | true =>
        rw [h1] at h
        exact sx_exec_ok H ih hst hag hn hd h
      | false =>
        rw [h1] at h
        simp only [cond_false] at h
        cases h2 : sx_lab q.2.2.1 (CT.1 q.1) with
        | true =>
          rw [h2] at h
          exact sx_tail_ok H ih hst hag hn hd h0 h
        | false =>
          rw [h2] at h
          exact sx_exec_ok H ih hst hag hn hd h
    · exact sx_exec_ok H ih hst hag hn hd h
/-- what a contract speaks of is its own -/
def sx_wf (K : sx_K) : Bool := sx_blw (sx_m0 K) K.2.2.2.2.2.2.2.1.2 && sx_blw (sx_m0 K) K.2.2.2.2.2.2.2.2.2
theorem sx_chk_ok {d0 n : Nat} (H : sx_hyp P SA sx_TGm CT K d0 σ0) (h : sx_chk P CT n K = true) : sx_cv P SA sx_TGm d0 K σ0 φ0 := by
  intro lv M hp
  unfold sx_chk at h
  have kq := sx_adds_kq (P := P) (L := K.2.2.2.2.1) (D := ([], [], [], [], K.2.2.2.2.2.1, sx_m0 K, 256))
  have e1 : sx_nx (sx_D0 P K) = sx_m0 K := kq.2.2.1
  have e2 : sx_nm (sx_D0 P K) = 256 := kq.2.2.2
  have hg := sx_exec_ok (d := d0) (fs := []) (c := (K.2.1, lv, [], M)) (σ := σ0) (φ := φ0) H (sx_run_ok (φ0 := φ0) H n) (fun σ' φ' ha => by
    have ha : sx_ag2 (sx_nx (sx_D0 P K)) (sx_nm (sx_D0 P K)) σ0 σ' φ0 φ' := ha
    rw [e1, e2] at ha
    obtain ⟨p1, p2⟩ := hp σ' φ' ha
    exact ⟨⟨rfl, p1, trivial, p2⟩, trivial⟩) sx_ag2.rf (Nat.le_of_eq e1.symm) (by simp) h
  obtain ⟨n, r, M', g1, g2⟩ := hg
  exact ⟨n, r, M', g1, g2⟩
/-- all contracts hold: those that are checked, and those that are proved otherwise -/
theorem sx_all (hP : sx_own P.2.2.1 ∧ (∀ j x, mx_SAx j = some x → mx_kd x.1 x.2 = true ∧ x.1 < 4 ∧ x.2.1 < 2000) ∧ (∀ x p, P.1 x = some p → x < 256) ∧ (∀ x p, P.2.1 x = some p → x < 256) ∧ P.2.2.2 ≤ 1000)
    (hk : ∀ k K', K' ∈ CT.1 k → K'.1 = k) (hc : ∀ k K', K' ∈ CT.1 k → (∃ n, sx_wf K' = true ∧ sx_chk P CT n K' = true) ∨ ∀ d, sx_val P SA sx_TGm d K') : ∀ d k K', K' ∈ CT.1 k → sx_val P SA sx_TGm d K' := by
  intro d
  induction d using Nat.strongRecOn with
  | _ d ihd =>
    have key : ∀ m : Nat, ∀ k K', K' ∈ CT.1 k → ∀ σ φ, sx_ev σ K'.2.2.2.2.2.2.2.1 ≤ d → (sx_ev σ K'.2.2.2.2.2.2.2.2).toNat ≤ m → sx_cv P SA sx_TGm d K' σ φ := by
      intro m
      induction m with
      | zero =>
        intro k K' hK σ φ h1 h2
        rcases hc k K' hK with ⟨n, h3, h4⟩ | h3
        · unfold sx_wf at h3
          rw [Bool.and_eq_true] at h3
          exact sx_chk_ok ⟨hP, hk, h3.1, h3.2, ihd, fun k2 K2 _ σ2 φ2 _ z1 z2 => by omega, h1⟩ h4
        · exact h3 d σ φ h1
      | succ m ihm =>
        intro k K' hK σ φ h1 h2
        rcases hc k K' hK with ⟨n, h3, h4⟩ | h3
        · unfold sx_wf at h3
          rw [Bool.and_eq_true] at h3
          exact sx_chk_ok ⟨hP, hk, h3.1, h3.2, ihd, fun k2 K2 hK2 σ2 φ2 z0 z1 z2 => ihm k2 K2 hK2 σ2 φ2 z0 (by omega), h1⟩ h4
        · exact h3 d σ φ h1
    exact fun k K' hK σ φ h1 => key _ k K' hK σ φ h1 (Nat.le_refl _)
end SXY
