/-! THE MEMORY BEHIND THE CONSTRUCTORS IS AS THE CONTRACTS WANT IT -/
def sv_g (q : Nat) : Option ax_E := ax_tg 8 as_M3.2 q
/-- a row at the start -/
def sv_row (a i : Nat) : Int := match sv_g a with
  | some (.inr (.inl (_, x))) => bif Nat.blt i x.1 then sx_iv (mx_con x i) else 0
  | _ => 0
def sv_s (L j : Nat) : Int := if j = 255 then L else sl_s.getD j 0
def sv_f (L : Nat) (xs : Nat → Int32) (a i : Nat) : Int := if a = 255 then (xs i).toInt else sv_row a i
def sv_upto (f : Nat → Bool) : Nat → Bool
  | 0 => true
  | n + 1 => f n && sv_upto f n
theorem sv_upto_ok {f : Nat → Bool} : ∀ {n : Nat}, sv_upto f n = true → ∀ q, q < n → f q = true
  | 0, _, q, hq => absurd hq (Nat.not_lt_zero q)
  | n + 1, h, q, hq => by
    have h := (Bool.and_eq_true _ _).mp h
    by_cases z : q = n
    · rw [z]; exact h.1
    · exact sv_upto_ok h.2 q (by omega)
theorem sj_2_lt {α : Type} {l : List (List (Option α))} {x : Nat} {v : α} (h : sj_2 l x = some v) : x < 16 * l.length := by
  unfold sj_2 at h
  split at h
  · next r hr =>
    rw [mx_nth_eq] at hr
    have := (List.getElem?_eq_some_iff.mp hr).1
    omega
  · cases h
/-! each place is one of one cell -/
def sv_okF (q : Nat) : Nat → List (Value ⊕ Nat) → Bool
  | _, [] => true
  | k, .inl _ :: l => sv_okF q (k + 1) l
  | k, .inr j :: l => (Nat.beq (sl_inv.getD j (0, 0)).1 q && (Nat.beq (sl_inv.getD j (0, 0)).2 k && Nat.blt j 250)) && sv_okF q (k + 1) l
theorem sv_okF_at {q j : Nat} : ∀ {l : List (Value ⊕ Nat)} {k i : Nat}, sv_okF q k l = true → l[i]? = some (.inr j) → (sl_inv.getD j (0, 0)).1 = q ∧ (sl_inv.getD j (0, 0)).2 = k + i ∧ j < 250
  | [], k, i, _, h => by simp at h
  | .inl w :: l, k, 0, _, h => by simp at h
  | .inl w :: l, k, i + 1, h1, h2 => by
    obtain ⟨a, b, c⟩ := sv_okF_at (l := l) (k := k + 1) (i := i) h1 h2
    exact ⟨a, by omega, c⟩
  | .inr m :: l, k, 0, h1, h2 => by
    have h1 := ((Bool.and_eq_true _ _).mp h1).1
    rw [Bool.and_eq_true, Bool.and_eq_true] at h1
    have h2 : some (Sum.inr m : Value ⊕ Nat) = some (.inr j) := h2
    cases h2
    exact ⟨Nat.eq_of_beq_eq_true h1.1, Nat.eq_of_beq_eq_true h1.2.1, Nat.blt_eq.mp h1.2.2⟩
  | .inr m :: l, k, i + 1, h1, h2 => by
    obtain ⟨a, b, c⟩ := sv_okF_at (l := l) (k := k + 1) (i := i) ((Bool.and_eq_true _ _).mp h1).2 h2
    exact ⟨a, by omega, c⟩
def sv_okC (q : Nat) : Bool := match sj_tp q with
  | none => Nat.ble sl_n q
  | some (.inl (_, fs)) => Nat.blt q sl_n && sv_okF q 0 fs
  | some (.inr (t, n, j)) => Nat.blt q sl_n && (Nat.beq j q && (Nat.blt n 2000 && (Nat.blt t 4 && Nat.blt q 250)))
def sv_N : Nat := 16 * sj_tpl.length
theorem sv_okA : (Nat.blt sv_N 1000 && sv_upto sv_okC sv_N) = true := by decide +kernel
theorem sv_tp_lt {q : Nat} {c : sx_cl} (h : sj_tp q = some c) : q < sv_N := sj_2_lt h
theorem sv_obj {q ci : Nat} {fs : List (Value ⊕ Nat)} (h : sj_tp q = some (.inl (ci, fs))) : q < sl_n ∧ sv_okF q 0 fs = true := by
  have h1 := sv_upto_ok ((Bool.and_eq_true _ _).mp sv_okA).2 q (sv_tp_lt h)
  unfold sv_okC at h1
  rw [h] at h1
  have h1 := (Bool.and_eq_true _ _).mp h1
  exact ⟨Nat.blt_eq.mp h1.1, h1.2⟩
theorem sv_arr {q t n j : Nat} (h : sj_tp q = some (.inr (t, n, j))) : q < sl_n ∧ j = q ∧ n < 2000 ∧ t < 4 ∧ q < 250 := by
  have h1 := sv_upto_ok ((Bool.and_eq_true _ _).mp sv_okA).2 q (sv_tp_lt h)
  unfold sv_okC at h1
  rw [h] at h1
  have h1 : (Nat.blt q sl_n && (Nat.beq j q && (Nat.blt n 2000 && (Nat.blt t 4 && Nat.blt q 250)))) = true := h1
  simp only [Bool.and_eq_true] at h1
  exact ⟨Nat.blt_eq.mp h1.1, Nat.eq_of_beq_eq_true h1.2.1, Nat.blt_eq.mp h1.2.2.1, Nat.blt_eq.mp h1.2.2.2.1, Nat.blt_eq.mp h1.2.2.2.2⟩
theorem sv_own : sx_own sj_tp := by
  refine ⟨fun q q' ci ci' fs fs' k k' j h1 h2 h3 h4 => ?_, fun q q' t t' n n' j h1 h2 => ?_, fun q ci fs k j h1 h2 => ?_, fun q t n j h => ?_, fun q c h => ?_⟩
  · obtain ⟨a1, a2, a3⟩ := sv_okF_at (sv_obj h1).2 h3
    obtain ⟨b1, b2, b3⟩ := sv_okF_at (sv_obj h2).2 h4
    omega
  · have a := (sv_arr h1).2.1
    have b := (sv_arr h2).2.1
    omega
  · exact (sv_okF_at (sv_obj h1).2 h2).2.2
  · obtain ⟨a1, a2, a3, a4, a5⟩ := sv_arr h
    omega
  · have h1 := sv_tp_lt h
    have h2 := Nat.blt_eq.mp ((Bool.and_eq_true _ _).mp sv_okA).1
    omega
/-! the cells -/
def sv_ckV (f : Value ⊕ Nat) (v : ax_V) : Bool := match f, v with
  | .inl (.ref a), .inl (.ref b) => Nat.beq a b
  | .inl .null, .inl .null => true
  | .inr j, .inl (.int x) => x.toInt == sl_s.getD j 0
  | _, _ => false
def sv_ckVs : List (Value ⊕ Nat) → List ax_V → Bool
  | [], [] => true
  | f :: fs, v :: vs => sv_ckV f v && sv_ckVs fs vs
  | _, _ => false
def sv_ckC (q : Nat) : Bool := match sj_tp q, sv_g q with
  | some (.inl (ci, fs)), some (.inl (cj, vs)) => Nat.beq ci cj && sv_ckVs fs vs
  | some (.inr (t, n, _)), some (.inr (.inl (u, x))) => Nat.beq t u && (Nat.beq x.1 n && mx_kd t x)
  | none, _ => true
  | _, _ => false
theorem sv_ckA : sv_upto sv_ckC sl_n = true := by decide +kernel
theorem sv_len : as_M3.1 = sl_n := by decide +kernel
theorem sv_ag_kd {t : Nat} {x y : vp_A} (h : ac_ag x y) (hk : mx_kd t x = true) : mx_kd t y = true := by
  obtain ⟨n, f | f | f | f | f⟩ := x <;> obtain ⟨n', g | g | g | g | g⟩ := y <;> first
    | exact hk
    | exact h.2.elim
    | cases hk
theorem sv_ag_con {x y : vp_A} (h : ac_ag x y) {i : Nat} (hi : i < x.1) : mx_con y i = mx_con x i := by
  obtain ⟨n, f | f | f | f | f⟩ := x <;> obtain ⟨n', g | g | g | g | g⟩ := y <;> first
    | exact h.2.elim
    | (show Value.int (g i) = Value.int (f i); rw [h.2 i hi])
    | (show Value.long (g i) = Value.long (f i); rw [h.2 i hi])
theorem sv_fm {σ τ : Nat → Int} {D : sx_D} (hD : D.1 = []) : ∀ {fs : List (Value ⊕ Nat)} {vs : List ax_V} {gs : List Value}, (∀ j, Sum.inr j ∈ fs → τ j = sl_s.getD j 0) → sv_ckVs fs vs = true → ac_Vs σ vs gs → sx_fm τ D fs gs
  | [], [], [], _, _, _ => trivial
  | [], [], _ :: _, _, _, h => h.elim
  | [], _ :: _, _, _, h, _ => by cases h
  | _ :: _, [], _, _, h, _ => by cases h
  | _ :: _, _ :: _, [], _, _, h => h.elim
  | f :: fs, v :: vs, g :: gs, hj, h1, h2 => by
    have h1 := (Bool.and_eq_true _ _).mp h1
    refine ⟨?_, sv_fm hD (fun j hm => hj j (List.mem_cons_of_mem _ hm)) h1.2 h2.2⟩
    have h3 := h1.1
    have h4 := h2.1
    unfold sv_ckV at h3
    split at h3
    · next a b =>
      have := Nat.eq_of_beq_eq_true h3
      subst this
      exact h4
    · exact h4
    · next j x _ =>
      refine ⟨x, h4, ?_⟩
      have e1 : sx_sg D j = sx_v j := by
        unfold sx_sg
        rw [hD]
        rfl
      rw [e1, sx_ev_v, hj j List.mem_cons_self]
      exact eq_of_beq h3
    · cases h3
theorem sv_mm {σ τ : Nat → Int} {ψ : sx_R} {D : sx_D} {N : mx_M} (h1 : D.1 = []) (h2 : D.2.1 = []) (hτ : ∀ j, j < 250 → τ j = sl_s.getD j 0) (hψ : ∀ a, a < 250 → ∀ i, ψ a i = sv_row a i) (hN : ac_M σ as_M3 N) : sx_mm sj_tp sl_n τ ψ D N := by
  refine ⟨hN.1.symm.trans sv_len, fun q c hq => ?_⟩
  have hql : q < sl_n := by
    match c, hq with
    | .inl (ci, fs), hq => exact (sv_obj hq).1
    | .inr (t, n, j), hq => exact (sv_arr hq).1
  obtain ⟨a, e, e1, e2, e3⟩ := hN.2.2 q (by rw [sv_len]; exact hql)
  have hc := sv_upto_ok sv_ckA q hql
  unfold sv_ckC at hc
  have e1' : sv_g q = some a := e1
  rw [hq, e1'] at hc
  refine ⟨e, e2, ?_⟩
  match c, hq, a, e1, e3, hc with
  | .inl (ci, fs), hq, .inl (cj, vs), _, e3, hc =>
    have hc : (Nat.beq ci cj && sv_ckVs fs vs) = true := hc
    have hc := (Bool.and_eq_true _ _).mp hc
    obtain ⟨gs, rfl, e4⟩ := e3
    have := Nat.eq_of_beq_eq_true hc.1
    subst this
    refine ⟨gs, rfl, sv_fm h1 (fun j hm => ?_) hc.2 e4⟩
    obtain ⟨k, hk⟩ := List.mem_iff_getElem?.mp hm
    exact hτ j (sv_own.2.2.1 q ci fs k j hq hk)
  | .inr (t, n, j), hq, .inr (.inl (u, x)), e1, e3, hc =>
    have hc : (Nat.beq t u && (Nat.beq x.1 n && mx_kd t x)) = true := hc
    simp only [Bool.and_eq_true] at hc
    obtain ⟨y, rfl, e4⟩ := e3
    have t1 := Nat.eq_of_beq_eq_true hc.1
    subst t1
    have t2 := Nat.eq_of_beq_eq_true hc.2.1
    obtain ⟨p1, p2, p3, p4, p5⟩ := sv_arr hq
    refine ⟨y, rfl, e4.1.symm.trans t2, sv_ag_kd e4 hc.2.2, fun i hi => ?_⟩
    have e5 : sx_ag D j = q := by
      unfold sx_ag
      rw [h2, p2]
      rfl
    rw [e5, hψ q p5 i, sv_ag_con e4 (by rw [t2]; exact hi)]
    unfold sv_row
    rw [show sv_g q = _ from e1]
    show _ = (bif Nat.blt i x.1 then sx_iv (mx_con x i) else 0)
    rw [Nat.blt_eq.mpr (by rw [t2]; exact hi)]
    rfl
/-! bounds -/
def sv_J (x : Nat) : Option (Int × Int) := bif Nat.beq x 255 then some (0, 3072) else bif Nat.blt x 257 then some (sl_s.getD x 0, sl_s.getD x 0) else none
def sv_jk (x : Nat) : Bool := match sj_2 sj_Jl x, sv_J x with
  | some p, some q => sx_le p.1 q.1 && sx_le q.2 p.2
  | none, _ => true
  | _, _ => false
def sv_rng (p : Int × Int) (a : Nat) : Bool := match sv_g a with
  | some (.inr (.inl (_, x))) => sx_le p.1 0 && (sx_le 0 p.2 && sv_upto (fun i => sx_le p.1 (sx_iv (mx_con x i)) && sx_le (sx_iv (mx_con x i)) p.2) x.1)
  | _ => sx_le p.1 0 && sx_le 0 p.2
def sv_ak (a : Nat) : Bool := match sj_2 sj_JAl a with
  | some p => Nat.blt a 250 && sv_rng p a
  | none => true
theorem sv_jA : ((Nat.ble (16 * sj_Jl.length) 256 && Nat.ble (16 * sj_JAl.length) 256) && (sv_upto sv_jk 256 && sv_upto sv_ak 256)) = true := by decide +kernel
theorem sv_Jlt : ∀ (x : Nat) (p : Int × Int), sj_2 sj_Jl x = some p → x < 256 := fun x p h => by
  have h1 := sj_2_lt h
  have h2 := Nat.le_of_ble_eq_true ((Bool.and_eq_true _ _).mp ((Bool.and_eq_true _ _).mp sv_jA).1).1
  omega
theorem sv_Alt : ∀ (x : Nat) (p : Int × Int), sj_2 sj_JAl x = some p → x < 256 := fun x p h => by
  have h1 := sj_2_lt h
  have h2 := Nat.le_of_ble_eq_true ((Bool.and_eq_true _ _).mp ((Bool.and_eq_true _ _).mp sv_jA).1).2
  omega
theorem sv_Jv {L : Nat} (hL : L ≤ 3072) {τ : Nat → Int} (hτ : ∀ i, i < 257 → τ i = sv_s L i) : sx_Jok sv_J τ := by
  intro x p h
  unfold sv_J at h
  cases h1 : Nat.beq x 255 with
  | true =>
    have e := Nat.eq_of_beq_eq_true h1
    subst e
    rw [h1] at h
    cases h
    rw [hτ 255 (by omega)]
    show (0 : Int) ≤ (L : Int) ∧ (L : Int) ≤ 3072
    omega
  | false =>
    rw [h1] at h
    simp only [cond_false] at h
    cases h2 : Nat.blt x 257 with
    | true =>
      rw [h2] at h
      cases h
      have hn : ¬ x = 255 := fun z => by rw [z] at h1; cases h1
      rw [hτ x (Nat.blt_eq.mp h2)]
      have e2 : sv_s L x = sl_s.getD x 0 := if_neg hn
      rw [e2]
      exact ⟨Int.le_refl _, Int.le_refl _⟩
    | false =>
      rw [h2] at h
      cases h
theorem sv_Jok {L : Nat} (hL : L ≤ 3072) {τ : Nat → Int} (hτ : ∀ i, i < 257 → τ i = sv_s L i) : sx_Jok (sj_2 sj_Jl) τ := by
  intro x p h
  have h1 := sv_upto_ok ((Bool.and_eq_true _ _).mp ((Bool.and_eq_true _ _).mp sv_jA).2).1 x (sv_Jlt x p h)
  unfold sv_jk at h1
  rw [h] at h1
  split at h1
  · next p' q hp hq =>
    cases hp
    have h2 := sv_Jv hL hτ x q hq
    have h1 := (Bool.and_eq_true _ _).mp h1
    have h3 := sx_le_iff.mp h1.1
    have h4 := sx_le_iff.mp h1.2
    omega
  · next hp => cases hp
  · cases h1
theorem sv_rng_ok {p : Int × Int} {a : Nat} (h : sv_rng p a = true) (i : Nat) : p.1 ≤ sv_row a i ∧ sv_row a i ≤ p.2 := by
  unfold sv_rng at h
  unfold sv_row
  split at h
  · next u x hx =>
    show p.1 ≤ (bif Nat.blt i x.1 then sx_iv (mx_con x i) else 0) ∧ (bif Nat.blt i x.1 then sx_iv (mx_con x i) else 0) ≤ p.2
    have h := (Bool.and_eq_true _ _).mp h
    have h' := (Bool.and_eq_true _ _).mp h.2
    cases hb : Nat.blt i x.1 with
    | true =>
      have h3 := (Bool.and_eq_true _ _).mp (sv_upto_ok h'.2 i (Nat.blt_eq.mp hb))
      exact ⟨sx_le_iff.mp h3.1, sx_le_iff.mp h3.2⟩
    | false => exact ⟨sx_le_iff.mp h.1, sx_le_iff.mp h'.1⟩
  · next hx =>
    have h := (Bool.and_eq_true _ _).mp h
    exact ⟨sx_le_iff.mp h.1, sx_le_iff.mp h.2⟩
theorem sv_JA {ψ : sx_R} (hψ : ∀ a, a < 250 → ∀ i, ψ a i = sv_row a i) : ∀ (a : Nat) (p : Int × Int), sj_2 sj_JAl a = some p → ∀ j, p.1 ≤ ψ a j ∧ ψ a j ≤ p.2 := by
  intro a p h j
  have h1 := sv_upto_ok ((Bool.and_eq_true _ _).mp ((Bool.and_eq_true _ _).mp sv_jA).2).2 a (sv_Alt a p h)
  unfold sv_ak at h1
  rw [h] at h1
  have h1 : (Nat.blt a 250 && sv_rng p a) = true := h1
  have h1 := (Bool.and_eq_true _ _).mp h1
  rw [hψ a (Nat.blt_eq.mp h1.1) j]
  exact sv_rng_ok h1.2 j
theorem sv_SAc : ∀ e ∈ mx_SAL, Nat.blt e.2.1 4 = true ∧ Nat.blt e.2.2.length 2000 = true := by
  have h : (mx_SAL.all fun e => Nat.blt e.2.1 4 && Nat.blt e.2.2.length 2000) = true := by decide +kernel
  exact fun e he => (Bool.and_eq_true _ _).mp (List.all_eq_true.mp h e he)
theorem sv_SAk : ∀ (j : Nat) (x : Nat × vp_A), mx_SAx j = some x → mx_kd x.1 x.2 = true ∧ x.1 < 4 ∧ x.2.1 < 2000 := by
  intro j x h
  obtain ⟨t, y⟩ := x
  obtain ⟨l, h1, rfl⟩ := mx_SAx_inv h
  obtain ⟨h2, h3⟩ := sv_SAc _ h1
  have h2 : t < 4 := Nat.blt_eq.mp h2
  refine ⟨?_, h2, Nat.blt_eq.mp h3⟩
  show mx_kd t (we_arr t l) = true
  unfold we_arr mx_kd
  cases ht : Nat.beq t 3 with
  | true => rfl
  | false =>
    have : ¬ t = 3 := fun z => by rw [z] at ht; cases ht
    exact Nat.blt_eq.mpr (by omega)
/-! what the proof says of rows, at the start -/
def sv_run1 (t p : Nat) : Bool := (tg_run (sv_row 141) (sv_row 142) (tg_hi (sv_row 140) t p - tg_lo (sv_row 140) t p) (170 * t + tg_lo (sv_row 140) t p) 0).isSome
theorem sv_T0a : sv_upto (sv_run1 0) 4 = true := by decide +kernel
theorem sv_T0b : (sv_rng (0, 160) 140 && sv_rng (-2147483648, 0) 143) = true := by decide +kernel
theorem sv_T0 : tg_T0 (sv_row 141) (sv_row 142) (sv_row 140) 1 := by
  refine ⟨fun j => sv_rng_ok ((Bool.and_eq_true _ _).mp sv_T0b).1 j, fun t p ht hp => ?_⟩
  have ht : t = 0 := by omega
  subst ht
  have h := sv_upto_ok sv_T0a p hp
  obtain ⟨d, hd⟩ := Option.isSome_iff_exists.mp h
  exact ⟨d, hd⟩
/-- two rows that are alike at the start -/
def sv_same (a b : Nat) : Bool := match sv_g a, sv_g b with
  | some (.inr (.inl (_, x))), some (.inr (.inl (_, y))) => Nat.beq x.1 y.1 && sv_upto (fun i => sx_iv (mx_con x i) == sx_iv (mx_con y i)) x.1
  | _, _ => false
theorem sv_same_ok {a b : Nat} (h : sv_same a b = true) : sv_row a = sv_row b := by
  unfold sv_same at h
  split at h
  · next t x u y hx hy =>
    rw [Bool.and_eq_true] at h
    have h1 := Nat.eq_of_beq_eq_true h.1
    funext i
    unfold sv_row
    rw [hx, hy]
    show (bif Nat.blt i x.1 then sx_iv (mx_con x i) else 0) = (bif Nat.blt i y.1 then sx_iv (mx_con y i) else 0)
    rw [← h1]
    cases hb : Nat.blt i x.1 with
    | true => exact eq_of_beq (sv_upto_ok h.2 i (Nat.blt_eq.mp hb))
    | false => rfl
  · cases h
/-- sheets that are alike at the start -/
def sv_sh (S Z M Y : Nat) : Bool := sv_upto (fun s => sv_row S s == sv_row M s + 1 && (sx_le (sv_row M s) (-1) || sv_row Z s == sv_row Y s)) 4
theorem sv_sh_ok {S Z M Y : Nat} (h : sv_sh S Z M Y = true) : ∀ s : Nat, s < 4 → sv_row S s = sv_row M s + 1 ∧ (0 ≤ sv_row M s → sv_row Z s = sv_row Y s) := by
  intro s hs
  have h := sv_upto_ok h s hs
  rw [Bool.and_eq_true, Bool.or_eq_true] at h
  refine ⟨eq_of_beq h.1, fun hm => ?_⟩
  rcases h.2 with z | z
  · have := sx_le_iff.mp z
    omega
  · exact eq_of_beq z
def sv_ce (C N M : Nat) : Bool := sv_upto (fun s => sx_le (sv_row M s) (-1) || sv_upto (fun i => sv_row C (40 * s + i) == sv_row N (40 * s + i)) 40) 4
theorem sv_ce_ok {C N M : Nat} (h : sv_ce C N M = true) : ∀ s : Nat, s < 4 → 0 ≤ sv_row M s → ∀ i : Nat, i < 40 → sv_row C (40 * s + i) = sv_row N (40 * s + i) := by
  intro s hs hm i hi
  have h := sv_upto_ok h s hs
  rw [Bool.or_eq_true] at h
  rcases h with h | h
  · have := sx_le_iff.mp h
    omega
  · exact eq_of_beq (sv_upto_ok h i hi)
