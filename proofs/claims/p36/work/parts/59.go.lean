/-! EVERY SCRIPT -/
theorem sv_all {SA : mx_S} : ∀ (d k : Nat) (K' : sx_K), K' ∈ sk_CT.1 k → sx_val sj_P SA sx_TGm d K' :=
  sx_all (P := sj_P) (CT := sk_CT) ⟨sv_own, sv_SAk, sv_Jlt, sv_Alt, by show sl_n ≤ 1000; decide⟩ (fun k K' h => sk_key h) (fun k K' h => Or.inl ⟨3000, (Bool.and_eq_true _ _).mp (sk_ok h)⟩)
def sv_one (O : sx_O) : Bool := match O.1 with
  | some (.inr (true, e)) => sx_any (sx_eq (sx_pk e (-1))) O.2.2.2.2.1 && sx_any (sx_eq (sx_pk (sx_ng e) 1)) O.2.2.2.2.1
  | _ => false
theorem sv_HK : (sx_alb sv_one sk_H.2.2.2.2.2.2.1 && (sx_alb (sx_nn sv_J []) sk_H.2.2.2.2.1 && sx_nn sv_J [] (sx_pk (sx_ng sk_H.2.2.2.2.2.2.2.1) 200))) = true := by decide +kernel
theorem sv_HF : sk_H.2.2.2.2.2.1 = [(1000, [141, 142, 140], [sx_v 73]), (3, [143], [(-1, [(73, 1)])]), (1002, [180, 181], [sx_v 88]), (1007, [135, 13], []), (1007, [161, 80], []), (1007, [162, 82], []), (1007, [180, 117], []), (1007, [181, 119], []), (1020, [124, 126, 182, 183], []), (1021, [128, 184, 182], []), (1040, [41, 139], [])] := rfl
theorem sv_H0 : sk_H.1 = 1000 ∧ sk_H.2.1 = 18 ∧ sk_H.2.2.1 = [(0, .inl (.ref 1300)), (1, .inl (.ref 0)), (2, .inl (.ref 129)), (3, .inr (true, sx_v 256))] ∧ sx_m0 sk_H = 257 := ⟨rfl, rfl, rfl, rfl⟩
theorem sv_Hin : sk_H ∈ sk_CT.1 1000 := List.mem_cons_self
theorem sv_fm_len {σ : Nat → Int} {D : sx_D} : ∀ {fs : List (Value ⊕ Nat)} {gs : List Value}, sx_fm σ D fs gs → gs.length = fs.length
  | [], [], _ => rfl
  | [], _ :: _, h => h.elim
  | _ :: _, [], h => h.elim
  | _ :: fs, _ :: gs, h => by
    have := sv_fm_len (fs := fs) (gs := gs) h.2
    simp [this]
def sv_szC (q : Nat) : Bool := match sj_tp q with
  | some (.inl (_, fs)) => Nat.ble fs.length 2000
  | some (.inr (_, n, _)) => Nat.ble n 2000
  | none => false
theorem sv_szA : sv_upto sv_szC sl_n = true := by decide +kernel
theorem sv_sz1 : ∀ {M : mx_M}, (∀ e ∈ M, mx_szE e ≤ 2000) → mx_sz M ≤ 2000 * M.length
  | [], _ => Nat.le_refl _
  | e :: M, h => by
    have h1 := h e List.mem_cons_self
    have h2 := sv_sz1 (M := M) (fun e he => h e (List.mem_cons_of_mem _ he))
    show mx_szE e + mx_sz M ≤ 2000 * (M.length + 1)
    omega
theorem sv_sz {σ : Nat → Int} {φ : sx_R} {D : sx_D} {M : mx_M} (h : sx_mm sj_tp sl_n σ φ D M) : mx_sz M ≤ 2000 * sl_n := by
  have h2 := sv_sz1 (M := M) (fun e he => by
    obtain ⟨q, hq⟩ := List.mem_iff_getElem?.mp he
    have hl : q < sl_n := by
      rw [← h.1]
      exact (List.getElem?_eq_some_iff.mp hq).1
    have hc := sv_upto_ok sv_szA q hl
    unfold sv_szC at hc
    split at hc
    · next ci fs htp =>
      obtain ⟨e', e1, gs, rfl, e2⟩ := h.2 q _ htp
      rw [e1] at hq
      cases hq
      show gs.length ≤ 2000
      rw [sv_fm_len e2]
      exact Nat.le_of_ble_eq_true hc
    · next t n j htp =>
      obtain ⟨e', e1, x, rfl, e2, -⟩ := h.2 q _ htp
      rw [e1] at hq
      cases hq
      show x.1 ≤ 2000
      rw [e2]
      exact Nat.le_of_ble_eq_true hc
    · cases hc)
  rw [h.1] at h2
  exact h2
def sv_σ (L : Nat) (xs : Nat → Int32) (s : Nat) : Int := if s = 4000 then L else (xs s).toInt
theorem sv_hS {L : Nat} {xs : Nat → Int32} (hL : L ≤ 3072) : ac_S (sv_σ L xs) mx_SAx (we_SA L xs) at_P := by
  refine ⟨fun j x h => ?_, (by show 1000 ≤ 1300; omega), L, xs, (if_pos rfl), rfl, by omega, fun j hj => ?_⟩
  · unfold we_SA
    by_cases e : j = 300
    · subst e
      have : mx_SAx 300 = none := by decide +kernel
      rw [this] at h
      cases h
    · rw [if_neg e]
      exact h
  · show (xs j).toInt = sv_σ L xs (0 + j)
    unfold sv_σ
    rw [Nat.zero_add, if_neg (by omega)]
set_option maxRecDepth 100000 in
/-- where the law's loop begins, all is as its contract wants it -/
theorem sv_pre {L : Nat} {xs : Nat → Int32} (hL : L ≤ 3072) {N : mx_M} {σ : Nat → Int} (hN : ac_M σ as_M3 N) {τ : Nat → Int} {ψ : sx_R} (ha : sx_ag2 257 256 (sv_s L) τ (sv_f L xs) ψ) : sx_lr τ sk_H.2.2.1 [(3, .int 0), (2, .ref 129), (1, .ref 0), (0, .ref 1300)] ∧ sx_ok sj_P (we_SA L xs) sx_TGm τ ψ (sx_D0 sj_P sk_H) N := by
  have hτ : ∀ i, i < 257 → τ i = sv_s L i := ha.1
  have hτ0 : ∀ j, j < 250 → τ j = sl_s.getD j 0 := fun j hj => by
    rw [hτ j (by omega)]
    exact if_neg (by omega)
  have hψ : ∀ a, a < 250 → ∀ i, ψ a i = sv_row a i := fun a h i => by
    rw [ha.2 a (by omega)]
    exact if_neg (by omega)
  have hψ2 : ∀ a, a < 250 → ψ a = sv_row a := fun a h => funext (hψ a h)
  obtain ⟨-, -, e3, e4⟩ := sv_H0
  have kq := sx_adds_kq (P := sj_P) (L := sk_H.2.2.2.2.1) (D := ([], [], [], [], sk_H.2.2.2.2.2.1, sx_m0 sk_H, 256))
  refine ⟨?_, sv_mm kq.1 kq.2.1 hτ0 hψ hN, sx_adds_ok (P := sj_P) (fun e he => ?_) ⟨sv_Jok hL hτ, sv_JA hψ, fun x p h => (by cases h), fun e he => absurd he List.not_mem_nil, ?_⟩, ?_⟩
  · rw [e3]
    intro i a h
    match i, h with
    | 0, h => cases h; exact ⟨_, rfl, rfl⟩
    | 1, h => cases h; exact ⟨_, rfl, rfl⟩
    | 2, h => cases h; exact ⟨_, rfl, rfl⟩
    | 3, h =>
      cases h
      refine ⟨_, rfl, 0, rfl, ?_⟩
      rw [sx_ev_v, hτ 256 (by omega)]
      rfl
    | n + 4, h => cases h
  · have h1 := ((Bool.and_eq_true _ _).mp ((Bool.and_eq_true _ _).mp sv_HK).2).1
    exact sx_nn_ok (sv_Jv hL hτ) (fun x p h => (by cases h)) (sx_alb_ok h1 e he)
  · show ∀ f ∈ sk_H.2.2.2.2.2.1, sx_fk sx_TGm τ ψ f
    rw [sv_HF]
    have t73 : sx_ev τ (sx_v 73) = 1 := by
      rw [sx_ev_v, hτ0 73 (by omega)]
      rfl
    have t88 : sx_ev τ (sx_v 88) = 0 := by
      rw [sx_ev_v, hτ0 88 (by omega)]
      rfl
    refine List.forall_mem_cons.mpr ⟨?_, List.forall_mem_cons.mpr ⟨?_, List.forall_mem_cons.mpr ⟨?_, List.forall_mem_cons.mpr ⟨?_, List.forall_mem_cons.mpr ⟨?_, List.forall_mem_cons.mpr ⟨?_, List.forall_mem_cons.mpr ⟨?_, List.forall_mem_cons.mpr ⟨?_, List.forall_mem_cons.mpr ⟨?_, List.forall_mem_cons.mpr ⟨?_, List.forall_mem_cons.mpr ⟨?_, fun f hf => absurd hf List.not_mem_nil⟩⟩⟩⟩⟩⟩⟩⟩⟩⟩⟩
    · show tg_T0 (ψ 141) (ψ 142) (ψ 140) (sx_ev τ (sx_v 73))
      rw [t73, hψ2 141 (by omega), hψ2 142 (by omega), hψ2 140 (by omega)]
      exact sv_T0
    · show ∀ j, ψ 143 j ≤ sx_ev τ (-1, [(73, 1)])
      intro j
      have h2 := (sv_rng_ok ((Bool.and_eq_true _ _).mp sv_T0b).2 j).2
      have h3 : sx_ev τ (-1, [(73, 1)]) = -1 + sx_ev τ (sx_v 73) := by
        show -1 + (1 * τ 73 + 0) = -1 + (0 + (1 * τ 73 + 0))
        omega
      rw [h3, t73, hψ 143 (by omega)]
      exact h2
    · show tg_di (ψ 180) (ψ 181) (sx_ev τ (sx_v 88))
      rw [t88]
      exact ⟨fun i hi => by omega, fun i j hi => by omega⟩
    · show ψ 135 = ψ 13
      rw [hψ2 135 (by omega), hψ2 13 (by omega)]
      exact sv_same_ok (by decide +kernel)
    · show ψ 161 = ψ 80
      rw [hψ2 161 (by omega), hψ2 80 (by omega)]
      exact sv_same_ok (by decide +kernel)
    · show ψ 162 = ψ 82
      rw [hψ2 162 (by omega), hψ2 82 (by omega)]
      exact sv_same_ok (by decide +kernel)
    · show ψ 180 = ψ 117
      rw [hψ2 180 (by omega), hψ2 117 (by omega)]
      exact sv_same_ok (by decide +kernel)
    · show ψ 181 = ψ 119
      rw [hψ2 181 (by omega), hψ2 119 (by omega)]
      exact sv_same_ok (by decide +kernel)
    · show ∀ s : Nat, s < 4 → ψ 124 s = ψ 182 s + 1 ∧ (0 ≤ ψ 182 s → ψ 126 s = ψ 183 s)
      rw [hψ2 124 (by omega), hψ2 126 (by omega), hψ2 182 (by omega), hψ2 183 (by omega)]
      exact sv_sh_ok (by decide +kernel)
    · show ∀ s : Nat, s < 4 → 0 ≤ ψ 182 s → ∀ i : Nat, i < 40 → ψ 128 (40 * s + i) = ψ 184 (40 * s + i)
      rw [hψ2 128 (by omega), hψ2 184 (by omega), hψ2 182 (by omega)]
      exact sv_ce_ok (by decide +kernel)
    · show tr_al (ψ 41) (ψ 139)
      rw [hψ2 41 (by omega), hψ2 139 (by omega)]
      exact fun i => Or.inl (congrFun (sv_same_ok (by decide +kernel)) i)
  · refine ⟨fun j hj => if_neg hj, ⟨(L, .inl xs), if_pos rfl, rfl, ⟨?_, by show L < 2147483648; omega⟩, fun i hi => ?_⟩, ?_, ?_, fun j hj => ?_⟩
    · show (L : Int) = τ 255
      rw [hτ 255 (by omega)]
      rfl
    · show (xs i).toInt = ψ 255 i
      rw [ha.2 255 (by omega)]
      rfl
    · show 256 ≤ sx_nx (sx_D0 sj_P sk_H)
      rw [show sx_nx (sx_D0 sj_P sk_H) = sx_m0 sk_H from kq.2.2.1, e4]
      omega
    · show 256 ≤ sx_nm (sx_D0 sj_P sk_H)
      rw [show sx_nm (sx_D0 sj_P sk_H) = 256 from kq.2.2.2]
      exact Nat.le_refl _
    · have e5 : sx_ag (sx_D0 sj_P sk_H) j = j := by
        unfold sx_ag
        rw [show (sx_D0 sj_P sk_H).2.1 = [] from kq.2.1]
        rfl
      rw [e5, show (sx_D0 sj_P sk_H).2.2.2.2.2.2 = 256 from kq.2.2.2]
      exact hj
theorem sv_run (L : Nat) (xs : Nat → Int32) (hL : L ≤ 3072) : ∃ N n, mx_run (mx_Ev (we_SA L xs) mx_code 200) (mx_op (we_SA L xs) mx_SF mx_DF 14) mt_L n (0, [(0, .ref 1300)], [], []) (some (.int 1)) N ∧ N.length ≤ 600000 ∧ mx_sz N ≤ 7302249 := by
  obtain ⟨N, hN, go⟩ := sv_go (sv_hS (xs := xs) hL)
  obtain ⟨e1, e2, e3, e4⟩ := sv_H0
  have hh := ((Bool.and_eq_true _ _).mp ((Bool.and_eq_true _ _).mp sv_HK).2).2
  have hv := sv_all (SA := we_SA L xs) 200 1000 sk_H sv_Hin (sv_s L) (sv_f L xs) (by
    have h1 := sx_nn_ok (sv_Jv hL (τ := sv_s L) (fun i _ => rfl)) (fun x p h => (by cases h)) hh
    rw [sx_ev_pk, sx_ev_ng] at h1
    omega)
  obtain ⟨n, r, M', h1, O, hO, σ', φ', -, h2, h3, h4, -⟩ := hv [(3, .int 0), (2, .ref 129), (1, .ref 0), (0, .ref 1300)] N (fun τ ψ ha => sv_pre hL hN (by rw [e4] at ha; exact ha))
  rw [e1, e2] at h1
  have hr : r = some (.int 1) := by
    have h5 := sx_alb_ok ((Bool.and_eq_true _ _).mp sv_HK).1 O hO
    unfold sv_one at h5
    split at h5
    · next e he =>
      rw [he] at h2
      have h5 := (Bool.and_eq_true _ _).mp h5
      obtain ⟨a, a1, a2⟩ := sx_any_ok h5.1
      obtain ⟨b, b1, b2⟩ := sx_any_ok h5.2
      have g1 := h4 a a1
      have g2 := h4 b b1
      rw [← sx_eq_eq a2, sx_ev_pk] at g1
      rw [← sx_eq_eq b2, sx_ev_pk, sx_ev_ng] at g2
      match r, h2 with
      | some v, h2 =>
        obtain ⟨x, rfl, hx⟩ := h2
        have : x.toInt = (1 : Int32).toInt := by
          show x.toInt = 1
          omega
        rw [Int32.toInt_inj.mp this]
    · cases h5
  subst hr
  obtain ⟨n2, h6⟩ := go _ _ ⟨n, h1⟩
  refine ⟨M', n2, h6, ?_, ?_⟩
  · rw [h3.1]
    show sl_n ≤ 600000
    decide
  · have := sv_sz (show sx_mm sj_tp sl_n σ' φ' _ M' from h3)
    have e : sl_n = 186 := rfl
    omega
