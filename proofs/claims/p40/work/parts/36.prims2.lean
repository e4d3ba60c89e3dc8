/-! THE METHODS OF ROWS, WITH UNKNOWN NUMBERS -/
section SXN
variable {P : sx_P} {SA : mx_S} {σ τ : Nat → Int} {φ ψ : sx_R} {D D' : sx_D} {M M' : mx_M} {as : List sx_V} {as' : List Value} {rv : Option sx_V}
/-- what stands behind a call -/
def sx_bh (P : sx_P) (SA : mx_S) (sx_TGm : sx_TG) (D : sx_D) (σ : Nat → Int) (φ : sx_R) (rv : Option sx_V) (D' : sx_D) (r : Option Value) (M' : mx_M) : Prop :=
  sx_nx D ≤ sx_nx D' ∧ sx_nm D ≤ sx_nm D' ∧ ∃ σ2 φ2, sx_ag2 (sx_nx D) (sx_nm D) σ σ2 φ φ2 ∧ sx_st (sx_nx D') (sx_nm D') σ2 φ2 (fun σ φ => sx_ok P SA sx_TGm σ φ D' M' ∧ sx_rr σ rv r)
abbrev sx_oks (P : sx_P) (SA : mx_S) (sx_TGm : sx_TG) (D : sx_D) (M : mx_M) (as : List sx_V) (as' : List Value) (σ : Nat → Int) (φ : sx_R) : Prop := sx_ok P SA sx_TGm σ φ D M ∧ sx_vs σ as as'
theorem sx_bh_mk {r : Option Value} (hn : sx_nx D ≤ sx_nx D') (hm : sx_nm D ≤ sx_nm D') (v : Nat → Int) (w : sx_R) (hst : sx_st (sx_nx D) (sx_nm D) σ φ (sx_oks P SA sx_TGm D M as as'))
    (h : ∀ σ' φ', sx_ag2 (sx_nx D) (sx_nm D) σ σ' φ φ' → sx_oks P SA sx_TGm D M as as' σ' φ' → (∀ i, sx_nx D ≤ i → i < sx_nx D' → σ' i = v i) → (∀ a, sx_nm D ≤ a → a < sx_nm D' → φ' a = w a) → sx_ok P SA sx_TGm σ' φ' D' M' ∧ sx_rr σ' rv r) : sx_bh P SA sx_TGm D σ φ rv D' r M' := by
  obtain ⟨d', e1, σ', φ', e2, e3⟩ := sx_lift2 (op := some ()) (q := fun _ σ φ => sx_ok P SA sx_TGm σ φ D' M' ∧ sx_rr σ rv r) hn hm v w hst fun σ' φ' h1 h2 h3 h4 => ⟨(), rfl, h σ' φ' h1 h2 h3 h4⟩
  exact ⟨hn, hm, σ', φ', e2, e3⟩
theorem sx_row_ok {q n j u : Nat} (ho : sx_own P.2.2.1) (hk : sx_ok P SA sx_TGm σ φ D M) (h : sx_row P q = some (n, j, u)) : ∃ (a : Nat) (y : Int32) (f : Nat → Int32), a < 1000 ∧ n < 2000 ∧ j < 250 ∧ P.2.2.1 a = some (.inr (0, n, j)) ∧ M[q]? = some (.inl (6, [.ref a, .int y])) ∧ M[a]? = some (.inr (0, n, .inl f)) := by
  unfold sx_row at h
  split at h
  · next a u' hq =>
    split at h
    · next n' j' ha =>
      cases h
      obtain ⟨gs, g1, g2⟩ := sx_mm_obj hk.1 hq
      obtain ⟨x, a1, a2, a3, a4⟩ := sx_mm_row hk.1 ha
      obtain ⟨f, rfl, -⟩ := mx_ia_some a1 a2 a3
      obtain ⟨b1, b2, -⟩ := ho.2.2.2.1 a 0 n j ha
      match gs, g2 with
      | [g, g'], ⟨e1, ⟨y, e2, _⟩, _⟩ =>
        have e1 : g = .ref a := e1
        subst e1
        subst e2
        exact ⟨a, y, f, ho.2.2.2.2 a _ ha, b2, b1, ha, g1, a1⟩
    · cases h
  · cases h
theorem sx_out_ok {n : Nat} {e : sx_E} {i : Int} (hd : sx_d P sx_TGm σ φ D) (hi : i = sx_ev σ e) (h : (sx_ge P D (sx_pk (sx_ng e) (-1)) || sx_ge P D (sx_pk e (-(n : Int)))) = true) : ¬ (0 ≤ i ∧ i < n) := by
  rw [Bool.or_eq_true] at h
  rcases h with h | h
  · have := sx_ge_ok hd h
    rw [sx_ev_pk, sx_ev_ng] at this
    omega
  · have := sx_ge_ok hd h
    rw [sx_ev_pk] at this
    omega
theorem sp_68 {q n j u : Nat} {e : sx_E} (ho : sx_own P.2.2.1) (hst : sx_st (sx_nx D) (sx_nm D) σ φ (sx_oks P SA sx_TGm D M [.inl (.ref q), .inr (true, e)] as')) (hl : M.length ≤ 1000) (h : sx_row P q = some (n, j, u)) : ∃ r M', (∀ d, mx_Ev SA mx_code (d + 1) 68 as' M r M') ∧ sx_bh P SA sx_TGm D σ φ (some (.inr (true, (sx_gt P n j e D).1))) (sx_gt P n j e D).2 r M' := by
  have hh := hst σ φ sx_ag2.rf
  obtain ⟨a, y, f, a1, a2, a3, a4, a5, a6⟩ := sx_row_ok ho hh.1 h
  obtain ⟨rs, rfl, hs⟩ := sx_vs_r hh.2
  obtain ⟨i, rs, rfl, hi, hs⟩ := sx_vs_i hs
  match rs, hs with
  | [], _ =>
  refine ⟨_, _, fun d => mr_68 hl a5 a1 a2 a6, ?_⟩
  have hgood : ∀ σ' φ', sx_oks P SA sx_TGm D M [.inl (.ref q), .inr (true, e)] [.ref q, .int i] σ' φ' → i.toInt = sx_ev σ' e ∧ ∀ k, k < n → (f k).toInt = φ' (sx_ag D j) k := fun σ' φ' hk => by
    refine ⟨sx_vr_i.mp hk.2.2.1, fun k hk2 => ?_⟩
    obtain ⟨x, b1, b2, b3, b4⟩ := sx_mm_row hk.1.1 a4
    rw [a6] at b1
    cases b1
    exact b4 k hk2
  unfold sx_gt
  cases h1 : sx_inr P D e (sx_k n) with
  | true =>
    have hr := sx_inr_ok hh.1.2.1 h1
    rw [sx_ev_k, ← hi] at hr
    rw [if_pos hr]
    have an := sx_rd_ok (P := P) (TG := sx_TGm) (D := D) (w := true) (a := sx_ag D j) (e := e) (v := (f i.toInt.toNat).toInt) (sn_rw32 _)
    refine sx_bh_mk an.1.2.2.1 (Nat.le_of_eq an.1.2.2.2.symm) (fun _ => (f i.toInt.toNat).toInt) (fun _ _ => 0) hst fun σ' φ' _ hk hv _ => ?_
    obtain ⟨g1, g2⟩ := hgood σ' φ' hk
    obtain ⟨c1, c2⟩ := an.2 σ' φ' hk.1.2.1 (by show φ' (sx_ag D j) (sx_ev σ' e).toNat = _; rw [← g1]; exact (g2 _ (by omega)).symm) hv
    exact ⟨sx_ok_kp an.1 hk.1 c1, sx_vr_i.mpr c2.symm⟩
  | false =>
    simp only [cond_false]
    cases h2 : (sx_ge P D (sx_pk (sx_ng e) (-1)) || sx_ge P D (sx_pk e (-(n : Int)))) with
    | true =>
      have := sx_out_ok hh.1.2.1 hi h2
      rw [if_neg this]
      exact sx_bh_mk (Nat.le_refl _) (Nat.le_refl _) (fun _ => 0) (fun _ _ => 0) hst fun σ' φ' _ hk _ _ => ⟨hk.1, sx_vr_i.mpr (by show (0 : Int32).toInt = sx_ev σ' (sx_k 0); rw [sx_ev_k]; rfl)⟩
    | false =>
      simp only [cond_false]
      refine sx_bh_mk (Nat.le_succ _) (Nat.le_refl _) (fun _ => (if 0 ≤ i.toInt ∧ i.toInt < n then f i.toInt.toNat else 0).toInt) (fun _ _ => 0) hst fun σ' φ' _ hk hv _ => ?_
      obtain ⟨g1, g2⟩ := hgood σ' φ' hk
      have e1 : σ' D.2.2.2.2.2.1 = (if 0 ≤ i.toInt ∧ i.toInt < n then f i.toInt.toNat else 0).toInt := hv _ (Nat.le_refl _) (Nat.lt_succ_self _)
      refine ⟨sx_ok_kp (D := D) ⟨rfl, rfl, Nat.le_succ _, rfl⟩ hk.1 (sx_dr_v (D := D) hk.1.2.1 ?_), sx_vr_i.mpr (by rw [sx_ev_v]; exact e1.symm)⟩
      rw [e1]
      split
      · next hr =>
        have g3 := g2 i.toInt.toNat (by omega)
        have r32 := sn_r32 (f i.toInt.toNat)
        constructor
        · refine sx_mn_le (Or.inr ?_)
          cases hl2 : sx_nlo P D (sx_ag D j) with
          | none => exact r32.1
          | some l =>
            have := sx_nlo_ok hl2 hk.1.2.1 i.toInt.toNat
            rw [← g3] at this
            exact this
        · refine sx_le_mx (Or.inr ?_)
          cases hl2 : sx_nhi P D (sx_ag D j) with
          | none => exact r32.2
          | some l =>
            have := sx_nhi_ok hl2 hk.1.2.1 i.toInt.toNat
            rw [← g3] at this
            exact this
      · exact ⟨sx_mn_le (Or.inl (Int.le_refl _)), sx_le_mx (Or.inl (Int.le_refl _))⟩
/-- a row that may have changed -/
theorem sx_hv_ok {q t n j : Nat} {y : vp_A} {e0 : mx_E} {F : List sx_F} (ho : sx_own P.2.2.1) (hk : sx_ok P SA sx_TGm σ φ D M) (hq : P.2.2.1 q = some (.inr (t, n, j))) (hM : M[q]? = some e0) (hF : ∀ f ∈ F, sx_fk sx_TGm σ φ f) (hy : y.1 = n) (hkd : mx_kd t y = true) (hc : ∀ i, i < n → sx_iv (mx_con y i) = φ D.2.2.2.2.2.2 i) : sx_ok P SA sx_TGm σ φ (sx_putN (sx_newn (sx_wF D F)) j D.2.2.2.2.2.2) (M.set q (.inr (t, y))) :=
  sx_ok_row (D := D) (g := D.2.2.2.2.2.2) ho hk hq hM rfl (fun i => sx_ag_put) (Nat.le_refl _) (Nat.le_succ _) (Nat.lt_succ_self _) (sx_dr_F (D := D) hk.2.1 hF) hy hkd hc
theorem sp_69 {q n j u : Nat} {e v : sx_E} (ho : sx_own P.2.2.1) (hst : sx_st (sx_nx D) (sx_nm D) σ φ (sx_oks P SA sx_TGm D M [.inl (.ref q), .inr (true, e), .inr (true, v)] as')) (hl : M.length ≤ 1000) (h : sx_row P q = some (n, j, u)) : ∃ r M', (∀ d, mx_Ev SA mx_code (d + 1) 69 as' M r M') ∧ sx_bh P SA sx_TGm D σ φ none (sx_pt P n j e v D) r M' := by
  have hh := hst σ φ sx_ag2.rf
  obtain ⟨a, y, f, a1, a2, a3, a4, a5, a6⟩ := sx_row_ok ho hh.1 h
  obtain ⟨rs, rfl, hs⟩ := sx_vs_r hh.2
  obtain ⟨i, rs, rfl, hi, hs2⟩ := sx_vs_i hs
  obtain ⟨x, rs, rfl, hx, hs3⟩ := sx_vs_i hs2
  match rs, hs3 with
  | [], _ =>
  refine ⟨_, _, fun d => mr_69 hl a5 a1 a2 a6, ?_⟩
  have hgood : ∀ σ' φ', sx_oks P SA sx_TGm D M [.inl (.ref q), .inr (true, e), .inr (true, v)] [.ref q, .int i, .int x] σ' φ' → i.toInt = sx_ev σ' e ∧ x.toInt = sx_ev σ' v ∧ ∀ k, k < n → (f k).toInt = φ' (sx_ag D j) k := fun σ' φ' hk => by
    refine ⟨sx_vr_i.mp hk.2.2.1, sx_vr_i.mp hk.2.2.2.1, fun k hk2 => ?_⟩
    obtain ⟨x, b1, b2, b3, b4⟩ := sx_mm_row hk.1.1 a4
    rw [a6] at b1
    cases b1
    exact b4 k hk2
  unfold sx_pt
  cases h1 : sx_inr P D e (sx_k n) with
  | true =>
    have hr := sx_inr_ok hh.1.2.1 h1
    rw [sx_ev_k, ← hi] at hr
    rw [if_pos hr]
    obtain ⟨g, w1, w2, w3, w4, w5, w6⟩ := sx_wr_ok (P := P) (TG := sx_TGm) (D := D) (j := j) (e := e) (u := v)
    refine sx_bh_mk (Nat.le_of_eq w3.symm) w4 (fun _ => 0) (fun _ j' => if j' = i.toInt.toNat then x.toInt else φ (sx_ag D j) j') hst fun σ' φ' hag2 hk hv hw => ⟨?_, trivial⟩
    obtain ⟨g1, g2, g3⟩ := hgood σ' φ' hk
    have hold : φ' (sx_ag D j) = φ (sx_ag D j) := hag2.2 _ (hk.1.2.2.2.2.2.2 j (by omega))
    obtain ⟨b1, b2⟩ := w6 σ' φ' hk.1.2.1 (by omega) (fun a z1 z2 j' => by
      rw [hw a z1 z2, ← g1, ← g2, hold])
    refine sx_ok_row (D := D) ho hk.1 a4 a6 w1 w2 (Nat.le_of_eq w3.symm) w4 w5 b1 rfl rfl fun i' hi' => ?_
    rw [b2, mx_con_upd, ← g1, ← g2]
    split
    · rfl
    · exact g3 i' hi'
  | false =>
    simp only [cond_false]
    cases h2 : (sx_ge P D (sx_pk (sx_ng e) (-1)) || sx_ge P D (sx_pk e (-(n : Int)))) with
    | true =>
      have := sx_out_ok hh.1.2.1 hi h2
      rw [if_neg this]
      exact sx_bh_mk (Nat.le_refl _) (Nat.le_refl _) (fun _ => 0) (fun _ _ => 0) hst fun σ' φ' _ hk _ _ => ⟨hk.1, trivial⟩
    | false =>
      simp only [cond_false]
      have em : (if 0 ≤ i.toInt ∧ i.toInt < n then M.set a (.inr (0, n, .inl (upd f i.toInt.toNat x))) else M) = M.set a (.inr (0, n, .inl (fun j' => if (0 ≤ i.toInt ∧ i.toInt < n) ∧ j' = i.toInt.toNat then x else f j'))) := by
        by_cases z : 0 ≤ i.toInt ∧ i.toInt < n
        · rw [if_pos z]
          congr 5
          funext j'
          unfold upd
          by_cases z2 : j' = i.toInt.toNat
          · rw [if_pos z2, if_pos ⟨z, z2⟩]
          · rw [if_neg z2, if_neg (fun q => z2 q.2)]
        · rw [if_neg z]
          have : (fun j' => if (0 ≤ i.toInt ∧ i.toInt < n) ∧ j' = i.toInt.toNat then x else f j') = f := by
            funext j'
            rw [if_neg (fun q => z q.1)]
          rw [this, mr_set_id a6]
      rw [em]
      refine sx_bh_mk (Nat.le_refl _) (Nat.le_succ _) (fun _ => 0) (fun _ j' => if (0 ≤ i.toInt ∧ i.toInt < n) ∧ j' = i.toInt.toNat then x.toInt else φ (sx_ag D j) j') hst fun σ' φ' hag2 hk hv hw => ⟨?_, trivial⟩
      obtain ⟨g1, g2, g3⟩ := hgood σ' φ' hk
      have hold : φ' (sx_ag D j) = φ (sx_ag D j) := hag2.2 _ (hk.1.2.2.2.2.2.2 j (by omega))
      have hg := hw D.2.2.2.2.2.2 (Nat.le_refl _) (Nat.lt_succ_self _)
      refine sx_hv_ok ho hk.1 a4 a6 (sx_hull_ok hk.1.2.1 hk.1.2.1.2.2.2.2 fun j' => ?_) rfl rfl fun i' hi' => ?_
      · rw [hg]
        show (if (0 ≤ i.toInt ∧ i.toInt < n) ∧ j' = i.toInt.toNat then x.toInt else φ (sx_ag D j) j') = _ ∨ (if (0 ≤ i.toInt ∧ i.toInt < n) ∧ j' = i.toInt.toNat then x.toInt else φ (sx_ag D j) j') = _
        rw [hold]
        split
        · exact Or.inl g2
        · exact Or.inr rfl
      · rw [hg]
        show (if (0 ≤ i.toInt ∧ i.toInt < n) ∧ i' = i.toInt.toNat then x else f i').toInt = (if (0 ≤ i.toInt ∧ i.toInt < n) ∧ i' = i.toInt.toNat then x.toInt else φ (sx_ag D j) i')
        rw [← hold]
        split
        · rfl
        · exact g3 i' hi'
theorem sp_70 {q n j u : Nat} {e v : sx_E} (ho : sx_own P.2.2.1) (hst : sx_st (sx_nx D) (sx_nm D) σ φ (sx_oks P SA sx_TGm D M [.inl (.ref q), .inr (true, e), .inr (true, v)] as')) (hl : M.length ≤ 1000) (h : sx_row P q = some (n, j, u)) : ∃ r M', (∀ d, mx_Ev SA mx_code (d + 1) 70 as' M r M') ∧ sx_bh P SA sx_TGm D σ φ none (sx_hvA j D) r M' := by
  have hh := hst σ φ sx_ag2.rf
  obtain ⟨a, y, f, a1, a2, a3, a4, a5, a6⟩ := sx_row_ok ho hh.1 h
  obtain ⟨rs, rfl, hs⟩ := sx_vs_r hh.2
  obtain ⟨i, rs, rfl, hi, hs2⟩ := sx_vs_i hs
  obtain ⟨x, rs, rfl, hx, hs3⟩ := sx_vs_i hs2
  match rs, hs3 with
  | [], _ =>
  refine ⟨_, _, fun d => mr_70 hl a5 a1 a2 a6, ?_⟩
  have em : ∃ g : Nat → Int32, (if 0 ≤ i.toInt ∧ i.toInt < n then M.set a (.inr (0, n, .inl (upd f i.toInt.toNat (f i.toInt.toNat + x)))) else M) = M.set a (.inr (0, n, .inl g)) := by
    by_cases z : 0 ≤ i.toInt ∧ i.toInt < n
    · exact ⟨_, if_pos z⟩
    · exact ⟨f, by rw [if_neg z, mr_set_id a6]⟩
  obtain ⟨g, eg⟩ := em
  rw [eg]
  refine sx_bh_mk (Nat.le_refl _) (Nat.le_succ _) (fun _ => 0) (fun _ j' => (g j').toInt) hst fun σ' φ' hag2 hk hv hw => ⟨?_, trivial⟩
  have hg := hw D.2.2.2.2.2.2 (Nat.le_refl _) (Nat.lt_succ_self _)
  exact sx_hv_ok ho hk.1 a4 a6 hk.1.2.1.2.2.2.2 rfl rfl fun i' hi' => by rw [hg]; rfl
theorem sp_273 {q n j : Nat} {v : sx_E} (ho : sx_own P.2.2.1) (hst : sx_st (sx_nx D) (sx_nm D) σ φ (sx_oks P SA sx_TGm D M [.inl (.ref q), .inr (true, v)] as')) (hl : M.length ≤ 1000) (h : P.2.2.1 q = some (.inr (0, n, j))) : ∃ r M', (∀ d, mx_Ev SA mx_code (d + 1) 273 as' M r M') ∧ sx_bh P SA sx_TGm D σ φ none (sx_flA j v D) r M' := by
  have hh := hst σ φ sx_ag2.rf
  obtain ⟨y, a1, a2, a3, a4⟩ := sx_mm_row hh.1.1 h
  obtain ⟨f, rfl, -⟩ := mx_ia_some a1 a2 a3
  obtain ⟨b1, b2, -⟩ := ho.2.2.2.1 q 0 n j h
  obtain ⟨rs, rfl, hs⟩ := sx_vs_r hh.2
  obtain ⟨x, rs, rfl, hx, hs2⟩ := sx_vs_i hs
  match rs, hs2 with
  | [], _ =>
  have hex : ∃ g : Nat → Int32, (∀ j, j < n → g j = x) ∧ ∀ d, mx_Ev SA mx_code (d + 1) 273 [.ref q, .int x] M none (M.set q (.inr (0, n, .inl g))) := by
    obtain ⟨g, g1, g2⟩ := mr_273 (SA := SA) (d := 0) (v := x) hl (ho.2.2.2.2 q _ h) b2 a1
    exact ⟨g, g1, fun d => mx_Ev_le (by omega) g2⟩
  obtain ⟨g, g1, g2⟩ := hex
  refine ⟨_, _, g2, ?_⟩
  refine sx_bh_mk (Nat.le_refl _) (Nat.le_succ _) (fun _ => 0) (fun _ _ => x.toInt) hst fun σ' φ' hag2 hk hv hw => ⟨?_, trivial⟩
  have hg := hw D.2.2.2.2.2.2 (Nat.le_refl _) (Nat.lt_succ_self _)
  have hx2 : x.toInt = sx_ev σ' v := sx_vr_i.mp hk.2.2.1
  refine sx_hv_ok ho hk.1 h a1 (List.forall_mem_cons.mpr ⟨fun j' => ?_, List.forall_mem_cons.mpr ⟨fun j' => ?_, hk.1.2.1.2.2.2.2⟩⟩) rfl rfl fun i' hi' => ?_
  · rw [hg, ← hx2]
    exact Int.le_refl _
  · rw [hg, ← hx2]
    exact Int.le_refl _
  · rw [hg]
    show (g i').toInt = x.toInt
    rw [g1 i' hi']
theorem sp_272 {q n j : Nat} {v : sx_E} (ho : sx_own P.2.2.1) (hst : sx_st (sx_nx D) (sx_nm D) σ φ (sx_oks P SA sx_TGm D M [.inl (.ref q), .inr (false, v)] as')) (hl : M.length ≤ 1000) (h : P.2.2.1 q = some (.inr (3, n, j))) : ∃ r M', (∀ d, mx_Ev SA mx_code (d + 1) 272 as' M r M') ∧ sx_bh P SA sx_TGm D σ φ none (sx_flA j v D) r M' := by
  have hh := hst σ φ sx_ag2.rf
  obtain ⟨y, a1, a2, a3, a4⟩ := sx_mm_row hh.1.1 h
  obtain ⟨f, hf⟩ := mx_kd_l a3
  obtain ⟨yn, yf⟩ := y
  have hf : yf = .inr (.inl f) := hf
  have a2 : yn = n := a2
  subst hf
  subst a2
  obtain ⟨b1, b2, -⟩ := ho.2.2.2.1 q 3 yn j h
  obtain ⟨rs, rfl, hs⟩ := sx_vs_r hh.2
  obtain ⟨x, rs, rfl, hx, hs2⟩ := sx_vs_l hs
  match rs, hs2 with
  | [], _ =>
  have hex : ∃ g : Nat → Int64, (∀ j, j < yn → g j = x) ∧ ∀ d, mx_Ev SA mx_code (d + 1) 272 [.ref q, .long x] M none (M.set q (.inr (3, yn, .inr (.inl g)))) := by
    obtain ⟨g, g1, g2⟩ := mr_272 (SA := SA) (d := 0) (v := x) hl (ho.2.2.2.2 q _ h) b2 a1
    exact ⟨g, g1, fun d => mx_Ev_le (by omega) g2⟩
  obtain ⟨g, g1, g2⟩ := hex
  refine ⟨_, _, g2, ?_⟩
  refine sx_bh_mk (Nat.le_refl _) (Nat.le_succ _) (fun _ => 0) (fun _ _ => x.toInt) hst fun σ' φ' hag2 hk hv hw => ⟨?_, trivial⟩
  have hg := hw D.2.2.2.2.2.2 (Nat.le_refl _) (Nat.lt_succ_self _)
  have hx2 : x.toInt = sx_ev σ' v := sx_vr_l.mp hk.2.2.1
  refine sx_hv_ok ho hk.1 h a1 (List.forall_mem_cons.mpr ⟨fun j' => ?_, List.forall_mem_cons.mpr ⟨fun j' => ?_, hk.1.2.1.2.2.2.2⟩⟩) rfl rfl fun i' hi' => ?_
  · rw [hg, ← hx2]
    exact Int.le_refl _
  · rw [hg, ← hx2]
    exact Int.le_refl _
  · rw [hg]
    show (g i').toInt = x.toInt
    rw [g1 i' hi']
theorem sx_prim_ok {k : Nat} (ho : sx_own P.2.2.1) (hst : sx_st (sx_nx D) (sx_nm D) σ φ (sx_oks P SA sx_TGm D M as as')) (hl : M.length ≤ 1000) (h : sx_prim P k as D = some (rv, D')) : ∃ r M', (∀ d, mx_Ev SA mx_code (d + 1) k as' M r M') ∧ sx_bh P SA sx_TGm D σ φ rv D' r M' := by
  unfold sx_prim at h
  split at h
  · next q e =>
    cases h1 : Nat.beq k 68 with
    | true =>
      have e1 := Nat.eq_of_beq_eq_true h1
      subst e1
      simp only [h1, cond_true] at h
      split at h
      · next n j u hr =>
        cases h
        exact sp_68 ho hst hl hr
      · cases h
    | false =>
      simp only [h1, cond_false] at h
      cases h2 : Nat.beq k 273 with
      | false => rw [h2] at h; cases h
      | true =>
        have e1 := Nat.eq_of_beq_eq_true h2
        subst e1
        simp only [h2, cond_true] at h
        split at h
        · next n j hr =>
          cases h
          exact sp_273 ho hst hl hr
        · cases h
  · next q e v =>
    cases h1 : Nat.beq k 69 with
    | true =>
      have e1 := Nat.eq_of_beq_eq_true h1
      subst e1
      simp only [h1, cond_true] at h
      split at h
      · next n j u hr =>
        cases h
        exact sp_69 ho hst hl hr
      · cases h
    | false =>
      simp only [h1, cond_false] at h
      cases h2 : Nat.beq k 70 with
      | false => rw [h2] at h; cases h
      | true =>
        have e1 := Nat.eq_of_beq_eq_true h2
        subst e1
        simp only [h2, cond_true] at h
        split at h
        · next n j u hr =>
          cases h
          exact sp_70 ho hst hl hr
        · cases h
  · next q e =>
    cases h1 : Nat.beq k 272 with
    | false => rw [h1] at h; cases h
    | true =>
      have e1 := Nat.eq_of_beq_eq_true h1
      subst e1
      simp only [h1, cond_true] at h
      split at h
      · next n j hr =>
        cases h
        exact sp_272 ho hst hl hr
      · cases h
  · cases h
end SXN
