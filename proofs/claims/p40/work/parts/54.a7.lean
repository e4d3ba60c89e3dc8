/-! A RUN WITH UNKNOWN NUMBERS STANDS FOR THE RUNS OF THE SMALL MACHINE -/
def ac_R (σ : Nat → Int) (a : Option ax_V) (v : Option Value) : Prop := match a, v with
  | none, none => True
  | some a, some v => ac_V σ a v
  | _, _ => False
/-- one of the outcomes is what a call answers and leaves -/
def ac_Os (σ : Nat → Int) (os : List ax_O) (K : Option Value → mx_M → Prop) : Prop := ∃ o ∈ os, ac_B σ o.2.2 ∧ ∃ r N, K r N ∧ ac_R σ o.1 r ∧ ac_M σ o.2.1 N
theorem ac_Os.mono {σ : Nat → Int} {os os2 : List ax_O} {K K2 : Option Value → mx_M → Prop} (h : ac_Os σ os K) (h1 : ∀ o ∈ os, o ∈ os2) (h2 : ∀ r N, K r N → K2 r N) : ac_Os σ os2 K2 := by
  obtain ⟨o, a, b, r, N, e, f, g⟩ := h
  exact ⟨o, h1 o a, b, r, N, h2 r N e, f, g⟩
theorem ax_all_mem {α : Type} {f : α → Option (List ax_O)} : ∀ {l : List α} {os : List ax_O}, ax_all f l = some os → ∀ x ∈ l, ∃ l', f x = some l' ∧ ∀ o ∈ l', o ∈ os
  | [], _, _, x, hx => by cases hx
  | c :: cs, os, h, x, hx => by
    unfold ax_all at h
    split at h
    · next l hl =>
      split at h
      · next r hr =>
        cases h
        rcases List.mem_cons.mp hx with rfl | hx
        · exact ⟨l, hl, fun o ho => List.mem_append_left _ ho⟩
        · obtain ⟨l', h1, h2⟩ := ax_all_mem hr x hx
          exact ⟨l', h1, fun o ho => List.mem_append_right _ (h2 o ho)⟩
      · cases h
    · cases h
section ABY
variable {σ : Nat → Int} {SA SA' : mx_S} {P : ax_P} {DT : ax_T} {n0 : Nat} {c : ax_C} {c' : mx_C} {ds : List ax_C} {os : List ax_O}
theorem ax_spl_sound {B : ax_B} {s : Nat} {lo : Int} (hB : ac_B σ B) : ∀ (n : Nat), lo ≤ σ s → σ s ≤ lo + (n : Int) → ∃ B' ∈ ax_spl B s lo n, ac_B σ B'
  | 0, h1, h2 => ⟨_, List.mem_singleton.mpr rfl, ac_upd hB h1 (by simpa using h2)⟩
  | n + 1, h1, h2 => by
    by_cases z : σ s = lo + ((n + 1 : Nat) : Int)
    · exact ⟨_, List.mem_cons_self, ac_upd hB (by show lo + ((n + 1 : Nat) : Int) ≤ σ s; omega) (by show σ s ≤ lo + ((n + 1 : Nat) : Int); omega)⟩
    · obtain ⟨B', e1, e2⟩ := ax_spl_sound hB n h1 (by omega)
      exact ⟨B', List.mem_cons_of_mem _ e1, e2⟩
theorem ax_cut_sound {B : ax_B} {s : Nat} {a b : Int} {Bs : List ax_B} (hB : ac_B σ B) (h : ax_cut B s a b = some Bs) : ∃ B' ∈ Bs, ac_B σ B' := by
  unfold ax_cut at h
  split at h
  · next l u hs =>
    have hb := hB s (l, u) (by rw [← mx_nth_eq]; exact hs)
    have b1 : l ≤ σ s := hb.1
    have b2 : σ s ≤ u := hb.2
    cases hk : (decide (l < u) && (decide (max l a ≤ min u b) && decide (min u b - max l a ≤ 64))) with
    | false => rw [hk] at h; cases h
    | true =>
      rw [hk] at h
      cases h
      simp only [Bool.and_eq_true, decide_eq_true_eq] at hk
      obtain ⟨k1, k2, -⟩ := hk
      by_cases z1 : σ s < a
      · have : decide (l ≤ a - 1) = true := decide_eq_true (by omega)
        rw [this]
        exact ⟨ax_upd B s (l, a - 1), List.mem_append_left _ (List.mem_singleton.mpr rfl), ac_upd hB b1 (by show σ s ≤ a - 1; omega)⟩
      · by_cases z2 : b < σ s
        · have : decide (b + 1 ≤ u) = true := decide_eq_true (by omega)
          rw [this]
          exact ⟨ax_upd B s (b + 1, u), List.mem_append_right _ (List.mem_append_left _ (List.mem_singleton.mpr rfl)), ac_upd hB (by show b + 1 ≤ σ s; omega) b2⟩
        · obtain ⟨B', e1, e2⟩ := ax_spl_sound (B := B) (s := s) (lo := max l a) hB (min u b - max l a).toNat (by omega) (by omega)
          exact ⟨B', List.mem_append_right _ (List.mem_append_right _ e1), e2⟩
  · cases h
theorem ax_wv_sound {B : ax_B} {v : ax_V} {a b : Int} {Bs : List ax_B} (hB : ac_B σ B) (h : ax_wv B v a b = some Bs) : ∃ B' ∈ Bs, ac_B σ B' := by
  unfold ax_wv at h
  split at h
  · exact ax_cut_sound hB h
  · cases h
theorem ax_wf_sound {B : ax_B} {v : ax_V} {Bs : List ax_B} (hB : ac_B σ B) (h : ax_wf B v = some Bs) : ∃ B' ∈ Bs, ac_B σ B' := by
  unfold ax_wf at h
  split at h
  · split at h
    · exact ax_cut_sound hB h
    · cases h
  · cases h
theorem ax_w2_sound {B : ax_B} {x y : ax_V} {Bs : List ax_B} (hB : ac_B σ B) (h : ax_w2 B x y = some Bs) : ∃ B' ∈ Bs, ac_B σ B' := by
  unfold ax_w2 at h
  split at h
  · exact ax_wv_sound hB h
  · split at h
    · exact ax_wv_sound hB h
    · cases h
theorem ax_want_sound {i : mx_I} {Bs : List ax_B} (hB : ac_B σ c.2.2.2.2) (h : ax_want i c = some Bs) : ∃ B' ∈ Bs, ac_B σ B' := by
  unfold ax_want at h
  cases hk1 : (Nat.beq i.1 58 || Nat.beq i.1 62) with
  | true =>
    rw [hk1] at h
    simp only [cond_true] at h
    split at h
    · exact ax_wf_sound hB h
    · cases h
  | false =>
    rw [hk1] at h
    simp only [cond_false] at h
    cases hk2 : Nat.beq i.1 59 with
    | true =>
      rw [hk2] at h
      simp only [cond_true] at h
      split at h
      · exact ax_wf_sound hB h
      · cases h
    | false =>
      rw [hk2] at h
      simp only [cond_false] at h
      cases hk3 : Nat.beq i.1 11 with
      | true =>
        rw [hk3] at h
        simp only [cond_true] at h
        split at h
        · split at h
          · next s hs =>
            cases h
            exact ax_wf_sound hB hs
          · exact ax_wf_sound hB h
        · cases h
      | false =>
        rw [hk3] at h
        simp only [cond_false] at h
        cases hk4 : (Nat.beq i.1 36 || Nat.beq i.1 37) with
        | true =>
          rw [hk4] at h
          simp only [cond_true] at h
          split at h
          · exact ax_wv_sound hB h
          · cases h
        | false =>
          rw [hk4] at h
          simp only [cond_false] at h
          cases hk5 : (Nat.beq i.1 42 || Nat.beq i.1 43) with
          | true =>
            rw [hk5] at h
            simp only [cond_true] at h
            split at h
            · exact ax_w2_sound hB h
            · cases h
          | false =>
            rw [hk5] at h
            simp only [cond_false] at h
            cases hk6 : Nat.beq i.1 49 with
            | true =>
              rw [hk6] at h
              simp only [cond_true] at h
              split at h
              · exact ax_wv_sound hB h
              · cases h
            | false => rw [hk6] at h; cases h
theorem ax_fix1_sound {e : Nat × Nat × Int32} {B : ax_B} (hD : ac_D σ DT n0) (hB : ac_B σ B) : ∃ B', ax_fix1 DT n0 e B = some B' ∧ ac_B σ B' := by
  unfold ax_fix1
  split
  · next l h hs =>
    have hb := hB e.2.1 (l, h) (by rw [← mx_nth_eq]; exact hs)
    cases hk : (l == h && (Int32.ofInt l).toInt == l) with
    | false => exact ⟨B, rfl, hB⟩
    | true =>
      simp only [cond_true]
      rw [Bool.and_eq_true] at hk
      have k1 := eq_of_beq hk.1
      have k2 := eq_of_beq hk.2
      have b1 : l ≤ σ e.2.1 := hb.1
      have b2 : σ e.2.1 ≤ h := hb.2
      split
      · next t ht =>
        have key := hD e.1 e.2.1 t e.2.2 ht (Int32.ofInt l) (by omega)
        split
        · next a b hab =>
          have hc := hB t (a, b) (by rw [← mx_nth_eq]; exact hab)
          have c1 : a ≤ σ t := hc.1
          have c2 : σ t ≤ b := hc.2
          have d1 : decide (a ≤ (ac_fn e.1 (Int32.ofInt l) e.2.2).toInt) = true := decide_eq_true (by omega)
          have d2 : decide ((ac_fn e.1 (Int32.ofInt l) e.2.2).toInt ≤ b) = true := decide_eq_true (by omega)
          rw [d1, d2]
          exact ⟨_, rfl, ac_upd hB (by show (ac_fn e.1 (Int32.ofInt l) e.2.2).toInt ≤ σ t; omega) (by show σ t ≤ (ac_fn e.1 (Int32.ofInt l) e.2.2).toInt; omega)⟩
        · exact ⟨B, rfl, hB⟩
      · exact ⟨B, rfl, hB⟩
  · exact ⟨B, rfl, hB⟩
theorem ax_fix_sound (hD : ac_D σ DT n0) : ∀ {r : ax_T} {B : ax_B}, ac_B σ B → ∃ B', ax_fix DT n0 r B = some B' ∧ ac_B σ B'
  | [], B, hB => ⟨B, rfl, hB⟩
  | e :: r, B, hB => by
    obtain ⟨B1, h1, h2⟩ := ax_fix1_sound (e := e) hD hB
    obtain ⟨B2, h3, h4⟩ := ax_fix_sound hD (r := r) h2
    refine ⟨B2, ?_, h4⟩
    show (match ax_fix1 DT n0 e B with
      | some B' => ax_fix DT n0 r B'
      | none => none) = some B2
    rw [h1]
    exact h3
theorem ar_fix_some {rec : ax_C → Option (List ax_O)} {B : ax_B} (hD : ac_D σ DT n0) (hB : ac_B σ B) (h : ar_fix DT n0 rec c B = some os) : ∃ B', ac_B σ B' ∧ rec (c.1, c.2.1, c.2.2.1, c.2.2.2.1, B') = some os := by
  obtain ⟨B', h1, h2⟩ := ax_fix_sound (r := DT) hD hB
  unfold ar_fix at h
  rw [h1] at h
  exact ⟨B', h2, h⟩
theorem ax_args_sound : ∀ {n : Nat} {st as as2 rest : List ax_V} {st' as' : List Value}, ax_args n st as = some (as2, rest) → ac_Vs σ st st' → ac_Vs σ as as' → ∃ l rest', st' = l ++ rest' ∧ l.length = n ∧ ac_Vs σ as2 (l.reverse ++ as') ∧ ac_Vs σ rest rest'
  | 0, st, as, as2, rest, st', as', h, h1, h2 => by
    cases h
    exact ⟨[], st', rfl, rfl, h2, h1⟩
  | n + 1, [], as, as2, rest, st', as', h, h1, h2 => by cases h
  | n + 1, v :: st, as, as2, rest, st', as', h, h1, h2 => by
    obtain ⟨v', st1, rfl, e1, e2⟩ := ac_Vs_cons h1
    obtain ⟨l, rest', rfl, f1, f2, f3⟩ := ax_args_sound (n := n) (st := st) (as := v :: as) (as' := v' :: as') h e2 ⟨e1, h2⟩
    refine ⟨v' :: l, rest', rfl, by rw [List.length_cons, f1], ?_, f3⟩
    rw [List.reverse_cons, List.append_assoc]
    exact f2
theorem ax_rcv_sound {L : List Nat} {as : List ax_V} {as' : List Value} {M : ax_M} {N : mx_M} (h : ax_rcv L as M = true) (ha : ac_Vs σ as as') (hM : ac_M σ M N) : mx_rcv L as' N = true := by
  unfold ax_rcv at h
  unfold mx_rcv
  split at h
  · rfl
  · next ci L2 =>
    split at h
    · next b as2 =>
      obtain ⟨v', r', rfl, e1, e2⟩ := ac_Vs_cons ha
      have e1 : v' = .ref b := e1
      subst e1
      show mx_rcv1 ci (.ref b :: r') N = true
      unfold mx_rcv1
      simp only
      cases h98 : Nat.beq ci 98 with
      | true => rfl
      | false =>
        rw [h98] at h
        cases h99 : Nat.beq ci 99 with
        | true =>
          rw [h99] at h
          exact h
        | false =>
          rw [h99] at h
          simp only [cond_false] at h
          simp only [cond_false]
          split at h
          · next cj fs hg =>
            obtain ⟨e, e1, e2⟩ := ac_M_nth hM hg
            obtain ⟨gs, rfl, -⟩ := e2
            rw [e1]
            exact h
          · cases h
    · cases h
theorem ax_fit_sound {a : Nat} {v : ax_V} {v' : Value} (h : ax_fit a v = true) (hv : ac_V σ v v') : ∃ x, v' = .int x ∧ mx_fit a x = true := by
  unfold ax_fit at h
  split at h
  · next x => exact ⟨x, hv, h⟩
  · next p =>
    have := Nat.eq_of_beq_eq_true h
    subst this
    obtain ⟨x, rfl, -⟩ := hv
    exact ⟨x, rfl, rfl⟩
  · have := Nat.eq_of_beq_eq_true h
    subst this
    obtain ⟨x, rfl⟩ := hv
    exact ⟨x, rfl, rfl⟩
  · cases h
theorem ac_Vs_1 {a : ax_V} {l : List Value} (h : ac_Vs σ [a] l) : ∃ v, l = [v] ∧ ac_V σ a v := by
  obtain ⟨v, l1, rfl, h1, h2⟩ := ac_Vs_cons h
  match l1, h2 with
  | [], _ => exact ⟨v, rfl, h1⟩
theorem ax_ret_sound {i : mx_I} {B : ax_B} {st : List ax_V} {st' : List Value} {r : Option ax_V} (h : ax_ret i B st = some r) (hB : ac_B σ B) (hs : ac_Vs σ st st') : 80 ≤ i.1 ∧ ∃ r', mx_ret i st' = some r' ∧ ac_R σ r r' := by
  obtain ⟨o, a, b, L⟩ := i
  unfold ax_ret at h
  simp only at h
  cases h80 : Nat.beq o 80 with
  | true =>
    rw [h80] at h
    simp only [cond_true] at h
    have := Nat.eq_of_beq_eq_true h80
    subst this
    refine ⟨Nat.le_refl _, ?_⟩
    split at h
    · next v =>
      cases hf : ax_fit a (ax_nrm B v) with
      | false => rw [hf] at h; cases h
      | true =>
        rw [hf] at h
        cases h
        obtain ⟨v', rfl, e1⟩ := ac_Vs_1 hs
        have e1 := ac_nrm hB e1
        obtain ⟨x, rfl, e2⟩ := ax_fit_sound hf e1
        refine ⟨some (.int x), ?_, e1⟩
        show (bif mx_fit a x then some (some (Value.int x)) else none) = _
        rw [e2]
        rfl
    · cases h
  | false =>
    rw [h80] at h
    simp only [cond_false] at h
    cases h81 : Nat.beq o 81 with
    | true =>
      rw [h81] at h
      simp only [cond_true] at h
      have := Nat.eq_of_beq_eq_true h81
      subst this
      refine ⟨by show 80 ≤ 81; omega, ?_⟩
      split at h
      · next v =>
        cases hf : Nat.beq (ax_kind v) 1 with
        | false => rw [hf] at h; cases h
        | true =>
          rw [hf] at h
          cases h
          obtain ⟨v', rfl, e1⟩ := ac_Vs_1 hs
          obtain ⟨x, rfl⟩ := ac_V_long e1 (Nat.eq_of_beq_eq_true hf)
          exact ⟨some (.long x), rfl, e1⟩
      · cases h
    | false =>
      rw [h81] at h
      simp only [cond_false] at h
      cases h82 : Nat.beq o 82 with
      | true =>
        rw [h82] at h
        simp only [cond_true] at h
        have := Nat.eq_of_beq_eq_true h82
        subst this
        refine ⟨by show 80 ≤ 82; omega, ?_⟩
        split at h
        · next v =>
          cases hf : Nat.beq (ax_kind v) 2 with
          | false => rw [hf] at h; cases h
          | true =>
            rw [hf] at h
            cases h
            obtain ⟨v', rfl, e1⟩ := ac_Vs_1 hs
            obtain ⟨x, rfl, -⟩ := ac_V_ref e1 (Nat.eq_of_beq_eq_true hf)
            exact ⟨some (.ref x), rfl, e1⟩
        · cases h
      | false =>
        rw [h82] at h
        simp only [cond_false] at h
        cases h83 : Nat.beq o 83 with
        | true =>
          rw [h83] at h
          simp only [cond_true] at h
          have := Nat.eq_of_beq_eq_true h83
          subst this
          refine ⟨by show 80 ≤ 83; omega, ?_⟩
          split at h
          · cases h
            match st', hs with
            | [], _ => exact ⟨none, rfl, trivial⟩
          · cases h
        | false =>
          rw [h83] at h
          cases h
theorem ac_R_opt {r : Option ax_V} {r' : Option Value} {st : List ax_V} {st' : List Value} (h : ac_R σ r r') (hs : ac_Vs σ st st') : ac_Vs σ (ax_opt r st) (r'.toList ++ st') := by
  match r, r', h with
  | none, none, _ => exact hs
  | some a, some v, h => exact ⟨h, hs⟩
theorem ax_lva_sound : ∀ {k : Nat} {as : List ax_V} {as' : List Value}, ac_Vs σ as as' → ac_L σ (ax_lva k as) (lv_args k as')
  | _, [], [], _ => trivial
  | _, [], _ :: _, h => h.elim
  | _, _ :: _, [], h => h.elim
  | k, a :: as, v :: vs, h => by
    refine ⟨⟨rfl, h.1⟩, ?_⟩
    have e : (bif ax_is2 a then k + 2 else k + 1) = (if v.category = 2 then k + 2 else k + 1) := by
      rw [ac_V_is2 h.1]
      have := mx_is2_eq v
      cases hv : mx_is2 v with
      | true =>
        rw [hv] at this
        rw [if_pos (eq_of_beq this)]
        rfl
      | false =>
        rw [hv] at this
        rw [if_neg (by simpa using this)]
        rfl
    show ac_L σ (ax_lva (bif ax_is2 a then k + 2 else k + 1) as) (lv_args (if v.category = 2 then k + 2 else k + 1) vs)
    rw [e]
    exact ax_lva_sound h.2
theorem ax_run_sound {call : Nat → List ax_V → ax_M → ax_B → Option (List ax_O)} {call' : Nat → List Value → mx_M → Option Value → mx_M → Prop} {t : List (List (Nat × mx_I))} (hS : ac_S σ SA SA' P) (hD : ac_D σ DT n0)
    (hcall : ∀ k as as' M N B os, call k as M B = some os → ac_Vs σ as as' → ac_M σ M N → ac_B σ B → ac_Os σ os (call' k as' N)) :
    ∀ (n : Nat) (c : ax_C) (c' : mx_C) (os : List ax_O), ax_run SA P DT n0 call t n c = some os → ac_B σ c.2.2.2.2 → ac_C σ c c' → ac_Os σ os fun r N => ∃ m, mx_run call' (mx_op SA' mx_SF mx_DF 14) t m c' r N
  | 0, _, _, _, h, _, _ => by cases h
  | n + 1, c, c', os, h, hB, hC => by
    have ih := ax_run_sound (t := t) hS hD hcall n
    have h : ar_one (ax_run SA P DT n0 call t n) SA P DT n0 call c (mx_fetch t c.1) = some os := h
    cases hi : mx_fetch t c.1 with
    | none => rw [hi] at h; cases h
    | some i =>
      rw [hi] at h
      have hi' : mx_fetch t c'.1 = some i := by rw [← hC.1]; exact hi
      have h : (bif Nat.blt i.1 70 then ar_plain (ax_run SA P DT n0 call t n) SA P DT n0 i c else bif Nat.beq i.1 70 then ar_call (ax_run SA P DT n0 call t n) call i c else ar_end i c) = some os := h
      cases h70 : Nat.blt i.1 70 with
      | true =>
        rw [h70] at h
        have h : ar_plain (ax_run SA P DT n0 call t n) SA P DT n0 i c = some os := h
        unfold ar_plain at h
        split at h
        · next Bs hs =>
          obtain ⟨B1, e1, e2⟩ := ax_want_sound hB hs
          obtain ⟨l', f1, f2⟩ := ax_all_mem h B1 e1
          obtain ⟨B2, g1, g2⟩ := ar_fix_some hD e2 f1
          exact (ih (c.1, c.2.1, c.2.2.1, c.2.2.2.1, B2) c' l' g2 g1 hC).mono f2 fun _ _ z => z
        · have key : ∃ ds, ax_op SA P DT n0 i c = some ds ∧ ∀ d ∈ ds, ac_B σ d.2.2.2.2 → ∃ l' B2, ac_B σ B2 ∧ ax_run SA P DT n0 call t n (d.1, d.2.1, d.2.2.1, d.2.2.2.1, B2) = some l' ∧ ∀ o ∈ l', o ∈ os := by
            unfold ar_next at h
            split at h
            · next d hd => exact ⟨[d], hd, fun d2 h2 h3 => by
                have := List.mem_singleton.mp h2
                subst this
                exact ⟨os, d2.2.2.2.2, h3, h, fun _ z => z⟩⟩
            · refine ⟨_, by assumption, fun d2 h2 h3 => ?_⟩
              obtain ⟨l', f1, f2⟩ := ax_all_mem h d2 h2
              obtain ⟨B2, g1, g2⟩ := ar_fix_some hD h3 f1
              exact ⟨l', B2, g1, g2, f2⟩
            · cases h
          obtain ⟨ds, k1, k2⟩ := key
          obtain ⟨d, e1, e2, d', e3, e4⟩ := ax_op_sound hS hD k1 hB hC
          obtain ⟨l', B2, g1, f1, f2⟩ := k2 d e1 e2
          refine (ih (d.1, d.2.1, d.2.2.1, d.2.2.2.1, B2) d' l' f1 g1 e4).mono f2 fun r N z => ?_
          obtain ⟨m, z⟩ := z
          exact ⟨m + 1, i, hi', Or.inl ⟨Nat.le_of_ble_eq_true h70, d', e3, z⟩⟩
      | false =>
        rw [h70] at h
        simp only [cond_false] at h
        cases h7 : Nat.beq i.1 70 with
        | true =>
          rw [h7] at h
          have h : ar_call (ax_run SA P DT n0 call t n) call i c = some os := h
          unfold ar_call at h
          split at h
          · next p hp =>
            cases hk : (Nat.ble (ax_cat p.2) 8 && ax_rcv i.2.2.2 p.1 c.2.2.2.1) with
            | false => rw [hk] at h; cases h
            | true =>
              rw [hk] at h
              simp only [cond_true] at h
              simp only [Bool.and_eq_true] at hk
              obtain ⟨k1, k2⟩ := hk
              obtain ⟨l, rest', e1, e2, e3, e4⟩ := ax_args_sound (as2 := p.1) (rest := p.2) (as' := []) hp hC.2.2.1 trivial
              rw [List.append_nil] at e3
              have key : ∃ os1, call i.2.1 p.1 c.2.2.2.1 c.2.2.2.2 = some os1 ∧ ∀ o ∈ os1, ∃ l', ax_run SA P DT n0 call t n (c.1 + 3, c.2.1, ax_opt o.1 p.2, o.2.1, o.2.2) = some l' ∧ ∀ o ∈ l', o ∈ os := by
                unfold ar_back at h
                split at h
                · next o ho => exact ⟨[o], ho, fun d2 h2 => by rw [List.mem_singleton.mp h2]; exact ⟨os, h, fun _ z => z⟩⟩
                · exact ⟨_, by assumption, fun d2 h2 => ax_all_mem h d2 h2⟩
                · cases h
              obtain ⟨os1, g1, g2⟩ := key
              obtain ⟨o, f1, f2, r, N, f3, f4, f5⟩ := hcall _ _ _ _ _ _ _ g1 e3 hC.2.2.2 hB
              obtain ⟨l', g3, g4⟩ := g2 o f1
              refine (ih _ (c'.1 + 3, c'.2.1, r.toList ++ rest', N) l' g3 f2 ⟨?_, hC.2.1, ac_R_opt f4 e4, f5⟩).mono g4 fun r2 N2 z => ?_
              · show c.1 + 3 = c'.1 + 3
                rw [hC.1]
              · obtain ⟨m, z⟩ := z
                refine ⟨m + 1, i, hi', Or.inr (Or.inl ⟨Nat.eq_of_beq_eq_true h7, l.reverse, rest', r, N, ?_, ?_, ?_, ax_rcv_sound k2 e3 hC.2.2.2, f3, z⟩)⟩
                · rw [List.reverse_reverse]; exact e1
                · rw [List.length_reverse]; exact e2
                · rw [← ac_Vs_cat e4]; exact Nat.le_of_ble_eq_true k1
          · cases h
        | false =>
          rw [h7] at h
          have h : ar_end i c = some os := h
          unfold ar_end at h
          split at h
          · next r hr =>
            cases h
            obtain ⟨k1, r', k2, k3⟩ := ax_ret_sound hr hB hC.2.2.1
            exact ⟨_, List.mem_singleton.mpr rfl, hB, r', c'.2.2.2, ⟨1, i, hi', Or.inr (Or.inr ⟨k1, r', k2, rfl, rfl⟩)⟩, k3, hC.2.2.2⟩
          · cases h
theorem ax_call_sound {n : Nat} (hS : ac_S σ SA SA' P) (hD : ac_D σ DT n0) : ∀ (d k : Nat) (as : List ax_V) (as' : List Value) (M : ax_M) (N : mx_M) (B : ax_B) (os : List ax_O), ax_call SA P DT n0 n d k as M B = some os → ac_Vs σ as as' → ac_M σ M N → ac_B σ B → ac_Os σ os (mx_Ev SA' mx_code d k as' N)
  | 0, _, _, _, _, _, _, _, h, _, _, _ => by cases h
  | d + 1, k, as, as', M, N, B, os, h, ha, hM, hB => by
    unfold ax_call at h
    cases hk : (Nat.ble (ax_cat as) (mx_code k).1 && Nat.ble M.1 250) with
    | false => rw [hk] at h; cases h
    | true =>
      rw [hk] at h
      simp only [cond_true] at h
      simp only [Bool.and_eq_true] at hk
      obtain ⟨k1, k2⟩ := hk
      refine (ax_run_sound hS hD (ax_call_sound hS hD d) n _ (0, lv_args 0 as', [], N) os h hB ⟨rfl, ax_lva_sound ha, trivial, hM⟩).mono (fun _ z => z) fun r N2 z => ?_
      refine ⟨by rw [← ac_Vs_cat ha]; exact Nat.le_of_ble_eq_true k1, ?_, z⟩
      have := Nat.le_of_ble_eq_true k2
      rw [← hM.1]
      omega
end ABY
