section ABU
variable {σ : Nat → Int} {SA SA' : mx_S} {P : ax_P} {DT : ax_T} {n0 : Nat} {c : ax_C} {c' : mx_C} {ds : List ax_C}
theorem ax_both_sound {t f : Nat} {lv : ax_L} {st : List ax_V} {M : ax_M} {B : ax_B} (b : Bool) (hB : ac_B σ B) : ∃ d ∈ ax_both t f lv st M B, ac_B σ d.2.2.2.2 ∧ d = ((bif b then t else f), lv, st, M, d.2.2.2.2) := by
  cases b
  · exact ⟨(f, lv, st, M, B), by simp [ax_both], hB, rfl⟩
  · exact ⟨(t, lv, st, M, B), by simp [ax_both], hB, rfl⟩
theorem ax_if_sound {o t f : Nat} {lv : ax_L} {st : List ax_V} {M : ax_M} {B : ax_B} {x y : ax_V} {x' y' : Value} (ho : o ≤ 5) (hB : ac_B σ B) (h : ax_if o x y t f lv st M B = some ds) (hx : ac_V σ x x') (hy : ac_V σ y y') : ∃ a b : Int32, x' = .int a ∧ y' = .int b ∧ ∃ d ∈ ds, ac_B σ d.2.2.2.2 ∧ d = ((bif ax_dec o a.toInt b.toInt then t else f), lv, st, M, d.2.2.2.2) := by
  unfold ax_if at h
  split at h
  · next a b =>
    cases h
    exact ⟨a, b, hx, hy, _, List.mem_singleton.mpr rfl, hB, rfl⟩
  · next s k b =>
    obtain ⟨a, rfl, ha⟩ := hx
    refine ⟨a, b, rfl, hy, ?_⟩
    obtain ⟨d, d1, d2, d3⟩ := ax_br_sound hB h
    rw [ax_dec_shift ho, ← ha] at d3
    exact ⟨d, d1, d2, d3⟩
  · next a s k =>
    obtain ⟨b, rfl, hb⟩ := hy
    refine ⟨a, b, hx, rfl, ?_⟩
    obtain ⟨d, d1, d2, d3⟩ := ax_br_sound hB h
    rw [ax_dec_shift (ax_flip_le ho), ← hb, ax_dec_flip ho] at d3
    exact ⟨d, d1, d2, d3⟩
  · next s k u l =>
    obtain ⟨a, rfl, ha⟩ := hx
    obtain ⟨b, rfl, hb⟩ := hy
    refine ⟨a, b, rfl, rfl, ?_⟩
    cases hs : Nat.beq s u with
    | true =>
      rw [hs] at h
      have := Nat.eq_of_beq_eq_true hs
      subst this
      cases h
      refine ⟨_, List.mem_singleton.mpr rfl, hB, ?_⟩
      have e : ax_dec o k l = ax_dec o a.toInt b.toInt := by
        rw [ha, hb]
        have e1 : l = (σ s + l) - σ s := by omega
        have e2 := ax_dec_shift (o := o) (x := k) (k := σ s) (y := σ s + l) ho
        rw [← e1] at e2
        rw [e2, Int.add_comm k]
      rw [e]
    | false =>
      rw [hs] at h
      cases h
      exact ax_both_sound _ hB
  · next b =>
    obtain ⟨a, rfl⟩ := hx
    cases h
    exact ⟨a, b, rfl, hy, ax_both_sound _ hB⟩
  · next a =>
    obtain ⟨b, rfl⟩ := hy
    cases h
    exact ⟨a, b, hx, rfl, ax_both_sound _ hB⟩
  · obtain ⟨a, rfl⟩ := hx
    obtain ⟨b, rfl, -⟩ := hy
    cases h
    exact ⟨a, b, rfl, rfl, ax_both_sound _ hB⟩
  · obtain ⟨a, rfl, -⟩ := hx
    obtain ⟨b, rfl⟩ := hy
    cases h
    exact ⟨a, b, rfl, rfl, ax_both_sound _ hB⟩
  · obtain ⟨a, rfl⟩ := hx
    obtain ⟨b, rfl⟩ := hy
    cases h
    exact ⟨a, b, rfl, rfl, ax_both_sound _ hB⟩
  · cases h
theorem am_if1 {o t b : Nat} {L : List Nat} {x : Int32} {st : List Value} (ho : o ≤ 5) (hst : c'.2.2.1 = .int x :: st) : mx_op SA' mx_SF mx_DF 14 (36 + o, t, b, L) c' = some ((bif ax_dec o x.toInt (0 : Int32).toInt then t else c'.1 + 3), c'.2.1, st, c'.2.2.2) := by
  rw [ax_dec_i ho]
  match o, ho with
  | 0, _ => show mx_if _ _ _ = _; unfold mx_if; rw [hst]; rfl
  | 1, _ => show mx_if _ _ _ = _; unfold mx_if; rw [hst]; rfl
  | 2, _ => show mx_if _ _ _ = _; unfold mx_if; rw [hst]; rfl
  | 3, _ => show mx_if _ _ _ = _; unfold mx_if; rw [hst]; rfl
  | 4, _ => show mx_if _ _ _ = _; unfold mx_if; rw [hst]; rfl
  | 5, _ => show mx_if _ _ _ = _; unfold mx_if; rw [hst]; rfl
  | n + 6, h => exact absurd h (by omega)
theorem am_if2 {o t b : Nat} {L : List Nat} {x y : Int32} {st : List Value} (ho : o ≤ 5) (hst : c'.2.2.1 = .int y :: .int x :: st) : mx_op SA' mx_SF mx_DF 14 (42 + o, t, b, L) c' = some ((bif ax_dec o x.toInt y.toInt then t else c'.1 + 3), c'.2.1, st, c'.2.2.2) := by
  rw [ax_dec_i ho]
  match o, ho with
  | 0, _ => show mx_if2 _ _ _ = _; unfold mx_if2; rw [hst]; rfl
  | 1, _ => show mx_if2 _ _ _ = _; unfold mx_if2; rw [hst]; rfl
  | 2, _ => show mx_if2 _ _ _ = _; unfold mx_if2; rw [hst]; rfl
  | 3, _ => show mx_if2 _ _ _ = _; unfold mx_if2; rw [hst]; rfl
  | 4, _ => show mx_if2 _ _ _ = _; unfold mx_if2; rw [hst]; rfl
  | 5, _ => show mx_if2 _ _ _ = _; unfold mx_if2; rw [hst]; rfl
  | n + 6, h => exact absurd h (by omega)
theorem as_if1 {o t b : Nat} {L : List Nat} (ho : o ≤ 5) (h : ao_if1 o t c = some ds) (hB : ac_B σ c.2.2.2.2) (hC : ac_C σ c c') : ac_St σ SA' (36 + o, t, b, L) c' ds := by
  unfold ao_if1 at h
  split at h
  · next x st hst =>
    obtain ⟨x', r', e1, v1, v2⟩ := ac_st1 hst hC
    obtain ⟨a, z, rfl, hz, d, d1, d2, d3⟩ := ax_if_sound (y' := .int 0) ho hB h (ac_nrm hB v1) rfl
    have hz : (0 : Int32) = z := by cases hz; rfl
    subst hz
    refine ⟨d, d1, d2, _, am_if1 ho e1, ?_⟩
    rw [d3, hC.1]
    exact ⟨rfl, hC.2.1, v2, hC.2.2.2⟩
  · cases h
theorem as_if2 {o t b : Nat} {L : List Nat} (ho : o ≤ 5) (h : ao_if2 o t c = some ds) (hB : ac_B σ c.2.2.2.2) (hC : ac_C σ c c') : ac_St σ SA' (42 + o, t, b, L) c' ds := by
  unfold ao_if2 at h
  split at h
  · next y x st hst =>
    have hV := hC.2.2.1
    rw [hst] at hV
    obtain ⟨y', x', r', e1, v1, v2, v3⟩ := ac_Vs_2 hV
    obtain ⟨a, z, rfl, rfl, d, d1, d2, d3⟩ := ax_if_sound ho hB h (ac_nrm hB v2) (ac_nrm hB v1)
    refine ⟨d, d1, d2, _, am_if2 ho e1, ?_⟩
    rw [d3, hC.1]
    exact ⟨rfl, hC.2.1, v3, hC.2.2.2⟩
  · cases h
theorem as_goto {t b : Nat} {L : List Nat} (h : ao_goto t c = some ds) (hB : ac_B σ c.2.2.2.2) (hC : ac_C σ c c') : ac_St σ SA' (48, t, b, L) c' ds := by
  cases h
  exact ac_one hB (d' := (t, c'.2.1, c'.2.2.1, c'.2.2.2)) rfl ⟨rfl, hC.2⟩
/-! switches -/
theorem ax_sw_sound {s : Nat} {k lo a b : Int} {lv : ax_L} {st : List ax_V} {M : ax_M} {B : ax_B} (hB : ac_B σ B) (ha : a ≤ σ s) (hb : σ s ≤ b) : ∀ (ts : List Nat) (n m t : Nat), mx_nth ts m = some t → σ s + k = lo + (n + m : Nat) → ∃ d ∈ ax_sw s k lo lv st M B a b ts n, ac_B σ d.2.2.2.2 ∧ d = (t, lv, st, M, d.2.2.2.2)
  | [], n, m, t, h, _ => by simp [mx_nth] at h
  | u :: ts, n, 0, t, h, hv => by
    have h : some u = some t := h
    cases h
    have e : σ s = lo + n - k := by omega
    have hc : (decide (a ≤ lo + n - k) && decide (lo + n - k ≤ b)) = true := by
      rw [Bool.and_eq_true, decide_eq_true_eq, decide_eq_true_eq]
      omega
    refine ⟨(u, lv, st, M, ax_upd B s (lo + n - k, lo + n - k)), ?_, ac_upd hB (by show lo + n - k ≤ σ s; omega) (by show σ s ≤ lo + n - k; omega), rfl⟩
    unfold ax_sw
    rw [hc]
    simp
  | u :: ts, n, m + 1, t, h, hv => by
    have h : mx_nth ts m = some t := h
    obtain ⟨d, d1, d2⟩ := ax_sw_sound (k := k) (lo := lo) (lv := lv) (st := st) (M := M) hB ha hb ts (n + 1) m t h (by omega)
    refine ⟨d, ?_, d2⟩
    unfold ax_sw
    exact List.mem_append_right _ d1
theorem as_tsw {a b : Nat} {L : List Nat} (h : ao_tsw a b L c = some ds) (hB : ac_B σ c.2.2.2.2) (hC : ac_C σ c c') : ac_St σ SA' (49, a, b, L) c' ds := by
  unfold ao_tsw at h
  split at h
  · next x st hst =>
    obtain ⟨x', r', e1, v1, v2⟩ := ac_st1 hst hC
    have v1 := ac_nrm hB v1
    unfold ao_tswv at h
    split at h
    · next z hz =>
      rw [hz] at v1
      cases h
      have v1 : x' = .int z := v1
      subst v1
      refine ac_one hB (d' := (mx_tsw a (Int32.ofNat b).toInt L z.toInt, c'.2.1, r', c'.2.2.2)) ?_ ⟨rfl, hC.2.1, v2, hC.2.2.2⟩
      show mx_sw _ c' = _
      unfold mx_sw
      rw [e1]
    · next s k hz =>
      rw [hz] at v1
      split at h
      · next p hp =>
        cases h
        obtain ⟨z, rfl, hz⟩ := v1
        have hop : mx_op SA' mx_SF mx_DF 14 (49, a, b, L) c' = some (mx_tsw a (Int32.ofNat b).toInt L z.toInt, c'.2.1, r', c'.2.2.2) := by
          show mx_sw _ c' = _
          unfold mx_sw
          rw [e1]
        have hdef : mx_tsw a (Int32.ofNat b).toInt L z.toInt = a → ac_St σ SA' (49, a, b, L) c' (ax_sw s k (Int32.ofNat b).toInt c.2.1 st c.2.2.2.1 c.2.2.2.2 p.1 p.2 L 0 ++ [(a, c.2.1, st, c.2.2.2.1, c.2.2.2.2)]) := by
          intro e
          rw [e] at hop
          exact ⟨(a, c.2.1, st, c.2.2.2.1, c.2.2.2.2), by simp, hB, _, hop, rfl, hC.2.1, v2, hC.2.2.2⟩
        unfold mx_tsw at hdef hop
        split at hop
        · next m hm =>
          have hm : z.toInt - (Int32.ofNat b).toInt = (m : Int) := hm
          split at hop
          · next t ht =>
            have h2 := hB s p (by rw [← mx_nth_eq]; exact hp)
            obtain ⟨d, d1, d2, d3⟩ := ax_sw_sound (k := k) (lo := (Int32.ofNat b).toInt) (lv := c.2.1) (st := st) (M := c.2.2.2.1) hB h2.1 h2.2 L 0 m t ht (by rw [← hz]; omega)
            refine ⟨d, List.mem_append_left _ d1, d2, _, hop, ?_⟩
            rw [d3]
            exact ⟨rfl, hC.2.1, v2, hC.2.2.2⟩
          · next ht =>
            apply hdef
            rw [hm]
            show (match mx_nth L m with
              | some t => t
              | none => a) = a
            rw [ht]
        · next m hm =>
          apply hdef
          rw [hm]
      · cases h
    · cases h
  · cases h
theorem as_lsw {a b : Nat} {L : List Nat} (h : ao_lsw a L c = some ds) (hB : ac_B σ c.2.2.2.2) (hC : ac_C σ c c') : ac_St σ SA' (50, a, b, L) c' ds := by
  unfold ao_lsw at h
  split at h
  · next x st hst =>
    obtain ⟨x', r', e1, v1, v2⟩ := ac_st1 hst hC
    have v1 : x' = .int x := v1
    subst v1
    cases h
    refine ac_one hB (d' := (mx_lsw a x L, c'.2.1, r', c'.2.2.2)) ?_ ⟨rfl, hC.2.1, v2, hC.2.2.2⟩
    show mx_sw _ c' = _
    unfold mx_sw
    rw [e1]
  · cases h
/-! fields -/
theorem as_get {a b : Nat} {L : List Nat} (h : ao_get a b c = some ds) (hB : ac_B σ c.2.2.2.2) (hC : ac_C σ c c') : ac_St σ SA' (51, a, b, L) c' ds := by
  unfold ao_get at h
  split at h
  · next q st hst =>
    obtain ⟨x', r', e1, v1, v2⟩ := ac_st1 hst hC
    have v1 : x' = .ref q := v1
    subst v1
    split at h
    · next p hp =>
      cases hk : Nat.beq p.1 a with
      | false => rw [hk] at h; cases h
      | true =>
        rw [hk] at h
        simp only [cond_true] at h
        split at h
        · next v hv =>
          cases h
          obtain ⟨e, e2, gs, rfl, e4⟩ := ac_M_nth hC.2.2.2 hp
          obtain ⟨w, w1, w2⟩ := ac_Vs_nth e4 hv
          refine ac_one hB (d' := (c'.1 + 3, c'.2.1, w :: r', c'.2.2.2)) ?_ ⟨?_, hC.2.1, ⟨ac_nrm hB w2, v2⟩, hC.2.2.2⟩
          · show mx_get a b c' = _
            unfold mx_get
            rw [e1]
            simp only
            rw [e2]
            simp only
            rw [hk]
            simp only [cond_true]
            rw [w1]
          · show c.1 + 3 = c'.1 + 3
            rw [hC.1]
        · cases h
    · cases h
  · cases h
theorem as_gstr {a b : Nat} {L : List Nat} (h : ao_gstr a c = some ds) (hB : ac_B σ c.2.2.2.2) (hC : ac_C σ c c') : ac_St σ SA' (52, a, b, L) c' ds := by
  unfold ao_gstr at h
  split at h
  · next q st hst =>
    obtain ⟨x', r', e1, v1, v2⟩ := ac_st1 hst hC
    have v1 : x' = .ref q := v1
    subst v1
    cases hk : (Nat.ble 1100 q && Nat.blt q 1114) with
    | false => rw [hk] at h; cases h
    | true =>
      rw [hk] at h
      cases h
      refine ac_one hB (d' := (c'.1 + 3, c'.2.1, (bif Nat.beq a 0 then .ref (q + 100) else .int 0) :: r', c'.2.2.2)) ?_ ⟨?_, hC.2.1, ⟨rfl, v2⟩, hC.2.2.2⟩
      · show mx_gstr a 14 c' = _
        unfold mx_gstr
        rw [e1]
        simp only
        rw [show (Nat.ble 1100 q && Nat.blt q (1100 + 14)) = true from hk]
        rfl
      · show c.1 + 3 = c'.1 + 3
        rw [hC.1]
  · cases h
theorem ao_put_inv {kd a b : Nat} (h : ao_put kd a b c = some ds) : ∃ v q st p, c.2.2.1 = v :: .inl (.ref q) :: st ∧ ax_mg c.2.2.2.1 q = some (.inl p) ∧ p.1 = a ∧ b < p.2.length ∧ ax_kind v = kd ∧ ds = [(c.1 + 3, c.2.1, st, ax_ms c.2.2.2.1 q (.inl (p.1, p.2.set b v)), c.2.2.2.2)] := by
  unfold ao_put at h
  split at h
  · next v q st hst =>
    split at h
    · next p hp =>
      cases hk : (Nat.beq p.1 a && (Nat.blt b p.2.length && Nat.beq (ax_kind v) kd)) with
      | false => rw [hk] at h; cases h
      | true =>
        rw [hk] at h
        simp only [Bool.and_eq_true] at hk
        exact ⟨v, q, st, p, hst, hp, Nat.eq_of_beq_eq_true hk.1, Nat.le_of_ble_eq_true hk.2.1, Nat.eq_of_beq_eq_true hk.2.2, (Option.some.inj h).symm⟩
    · cases h
  · cases h
theorem as_put {a b : Nat} {L : List Nat} (h : ao_put 0 a b c = some ds) (hB : ac_B σ c.2.2.2.2) (hC : ac_C σ c c') : ac_St σ SA' (53, a, b, L) c' ds := by
  obtain ⟨v, q, st, p, hst, hp, ha, hb, hk, rfl⟩ := ao_put_inv h
  have hV := hC.2.2.1
  rw [hst] at hV
  obtain ⟨v', x', r', e1, v1, v2, v3⟩ := ac_Vs_2 hV
  have v2 : x' = .ref q := v2
  subst v2
  obtain ⟨x, rfl⟩ := ac_V_int v1 hk
  obtain ⟨e, e2, gs, rfl, e4⟩ := ac_M_nth hC.2.2.2 hp
  have hq := (ax_mg_some hp).1
  refine ac_one hB (d' := (c'.1 + 3, c'.2.1, r', c'.2.2.2.set q (.inl (p.1, gs.set b (.int x))))) ?_ ⟨?_, hC.2.1, v3, ac_M_set (a := .inl (p.1, p.2.set b v)) ⟨_, rfl, ac_Vs_set v1 e4⟩ hq hC.2.2.2⟩
  · show mx_put a b c' = _
    unfold mx_put
    rw [e1]
    simp only
    rw [e2]
    simp only
    have hk2 : (Nat.beq p.1 a && Nat.blt b gs.length) = true := by
      rw [← ac_Vs_len e4, Bool.and_eq_true]
      refine ⟨by rw [ha]; exact Nat.beq_refl a, Nat.ble_eq_true_of_le hb⟩
    rw [hk2]
    rfl
  · show c.1 + 3 = c'.1 + 3
    rw [hC.1]
theorem as_putF {a b : Nat} {L : List Nat} (h : ao_put 2 a b c = some ds) (hB : ac_B σ c.2.2.2.2) (hC : ac_C σ c c') : ac_St σ SA' (54, a, b, L) c' ds := by
  obtain ⟨v, q, st, p, hst, hp, ha, hb, hk, rfl⟩ := ao_put_inv h
  have hV := hC.2.2.1
  rw [hst] at hV
  obtain ⟨v', x', r', e1, v1, v2, v3⟩ := ac_Vs_2 hV
  have v2 : x' = .ref q := v2
  subst v2
  obtain ⟨x, rfl, -⟩ := ac_V_ref v1 hk
  obtain ⟨e, e2, gs, rfl, e4⟩ := ac_M_nth hC.2.2.2 hp
  have hq := (ax_mg_some hp).1
  refine ac_one hB (d' := (c'.1 + 3, c'.2.1, r', c'.2.2.2.set q (.inl (p.1, gs.set b (.ref x))))) ?_ ⟨?_, hC.2.1, v3, ac_M_set (a := .inl (p.1, p.2.set b v)) ⟨_, rfl, ac_Vs_set v1 e4⟩ hq hC.2.2.2⟩
  · show mx_putF a b c' = _
    unfold mx_putF
    rw [e1]
    simp only
    rw [e2]
    simp only
    have hk2 : (Nat.beq p.1 a && Nat.blt b gs.length) = true := by
      rw [← ac_Vs_len e4, Bool.and_eq_true]
      refine ⟨by rw [ha]; exact Nat.beq_refl a, Nat.ble_eq_true_of_le hb⟩
    rw [hk2]
    rfl
  · show c.1 + 3 = c'.1 + 3
    rw [hC.1]
theorem as_gets {a b : Nat} {L : List Nat} (h : ao_gets a c = some ds) (hB : ac_B σ c.2.2.2.2) (hC : ac_C σ c c') : ac_St σ SA' (55, a, b, L) c' ds := by
  unfold ao_gets at h
  split at h
  · next q hq =>
    refine as_push ?_ h hB hC
    show (match mx_nth mx_SF a with
      | some q => mx_push q.2.2.2 3 c'
      | none => none) = _
    rw [hq]
  · cases h
theorem as_ldcS {a b : Nat} {L : List Nat} (h : ao_ldcS a c = some ds) (hB : ac_B σ c.2.2.2.2) (hC : ac_C σ c c') : ac_St σ SA' (56, a, b, L) c' ds := by
  unfold ao_ldcS at h
  cases hk : Nat.blt a 14 with
  | false => rw [hk] at h; cases h
  | true =>
    rw [hk] at h
    refine as_push ?_ h hB hC
    show (bif Nat.blt a 14 then mx_push (.ref (1100 + a)) 2 c' else none) = _
    rw [hk]
    rfl
end ABU
