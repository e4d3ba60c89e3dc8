section ABT
variable {σ : Nat → Int} {SA SA' : mx_S} {P : ax_P} {DT : ax_T} {n0 : Nat} {c : ax_C} {c' : mx_C} {ds : List ax_C}
theorem ac_Vs_2 {y x : ax_V} {st : List ax_V} {l : List Value} (h : ac_Vs σ (y :: x :: st) l) : ∃ y' x' st', l = y' :: x' :: st' ∧ ac_V σ y y' ∧ ac_V σ x x' ∧ ac_Vs σ st st' := by
  obtain ⟨y', l1, rfl, h1, h2⟩ := ac_Vs_cons h
  obtain ⟨x', l2, rfl, h3, h4⟩ := ac_Vs_cons h2
  exact ⟨y', x', l2, rfl, h1, h3, h4⟩
theorem ai_op {o a b : Nat} {L : List Nat} {SF : List mx_F} {DF : List (List Value)} {N : Nat} {d : mx_C} (h1 : 9 ≤ o) (h2 : o ≤ 18) (h3 : o ≠ 16) : mx_op SA SF DF N (o, a, b, L) d = mx_ii (ai_fn o) d := by
  match o, h1, h2, h3 with
  | 9, _, _, _ => rfl
  | 10, _, _, _ => rfl
  | 11, _, _, _ => rfl
  | 12, _, _, _ => rfl
  | 13, _, _, _ => rfl
  | 14, _, _, _ => rfl
  | 15, _, _, _ => rfl
  | 16, _, _, h => exact absurd rfl h
  | 17, _, _, _ => rfl
  | 18, _, _, _ => rfl
  | n + 19, _, h2, _ => exact absurd h2 (by omega)
/-- longs: some answer there is -/
theorem al_op {o a b : Nat} {L : List Nat} {SF : List mx_F} {DF : List (List Value)} {N pc : Nat} {lv : mx_L} {M : mx_M} {x' y' : Value} {st : List Value} (h1 : 19 ≤ o) (h2 : o ≤ 27) (h3 : o ≠ 22) (hx : ∃ z, x' = .long z) (hy : (o = 25 ∨ o = 26) ∧ (∃ z, y' = .int z) ∨ ¬ (o = 25 ∨ o = 26) ∧ ∃ z, y' = .long z) :
    ∃ w, mx_op SA SF DF N (o, a, b, L) (pc, lv, y' :: x' :: st, M) = some (pc + 1, lv, w :: st, M) ∧ (o = 27 → ∃ z, w = .int z) ∧ (o ≠ 27 → ∃ z, w = .long z) := by
  obtain ⟨x, rfl⟩ := hx
  rcases hy with ⟨ho, z, rfl⟩ | ⟨ho, z, rfl⟩
  · rcases ho with rfl | rfl
    · exact ⟨_, rfl, fun h => by omega, fun _ => ⟨_, rfl⟩⟩
    · exact ⟨_, rfl, fun h => by omega, fun _ => ⟨_, rfl⟩⟩
  · match o, h1, h2, h3, ho with
    | 19, _, _, _, _ => exact ⟨_, rfl, fun h => by omega, fun _ => ⟨_, rfl⟩⟩
    | 20, _, _, _, _ => exact ⟨_, rfl, fun h => by omega, fun _ => ⟨_, rfl⟩⟩
    | 21, _, _, _, _ => exact ⟨_, rfl, fun h => by omega, fun _ => ⟨_, rfl⟩⟩
    | 22, _, _, h, _ => exact absurd rfl h
    | 23, _, _, _, _ => exact ⟨_, rfl, fun h => by omega, fun _ => ⟨_, rfl⟩⟩
    | 24, _, _, _, _ => exact ⟨_, rfl, fun h => by omega, fun _ => ⟨_, rfl⟩⟩
    | 25, _, _, _, h => exact absurd (Or.inl rfl) h
    | 26, _, _, _, h => exact absurd (Or.inr rfl) h
    | 27, _, _, _, _ => exact ⟨_, rfl, fun _ => ⟨_, rfl⟩, fun h => absurd rfl h⟩
    | n + 28, _, h2, _, _ => exact absurd h2 (by omega)
theorem as_un' {o a b : Nat} {L : List Nat} {pc : Nat} {lv : ax_L} {st : List ax_V} {M : ax_M} {B : ax_B} {lv' : mx_L} {st' : List Value} {M' : mx_M} (h1 : 9 ≤ o) (h2 : o ≤ 35) (hD : ac_D σ DT n0) (h : ax_un DT n0 o pc lv st M B = some ds) (hB : ac_B σ B) (hL : ac_L σ lv lv') (hV : ac_Vs σ st st') (hM : ac_M σ M M') : ac_St σ SA' (o, a, b, L) (pc, lv', st', M') ds := by
  unfold ax_un at h
  cases g1 : (Nat.ble 9 o && Nat.ble o 18) with
  | true =>
    rw [g1] at h
    simp only [Bool.and_eq_true] at g1
    have o18 : o ≤ 18 := Nat.le_of_ble_eq_true g1.2
    simp only [cond_true] at h
    cases g16 : Nat.beq o 16 with
    | true =>
      have := Nat.eq_of_beq_eq_true g16
      subst this
      rw [g16] at h
      simp only [cond_true] at h
      split at h
      · next x st =>
        cases hk : Nat.beq (ax_kind x) 0 with
        | false => rw [hk] at h; cases h
        | true =>
          rw [hk] at h
          cases h
          obtain ⟨x', r', rfl, v1, v2⟩ := ac_Vs_cons hV
          obtain ⟨z, rfl⟩ := ac_V_int v1 (Nat.eq_of_beq_eq_true hk)
          exact ac_one hB (d' := (pc + 1, lv', .int (-z) :: r', M')) rfl ⟨rfl, hL, ⟨⟨_, rfl⟩, v2⟩, hM⟩
      · cases h
    | false =>
      rw [g16] at h
      simp only [cond_false] at h
      split at h
      · next y x st =>
        split at h
        · next v hv =>
          cases h
          obtain ⟨y', x', r', rfl, v1, v2, v3⟩ := ac_Vs_2 hV
          obtain ⟨p, q, z, rfl, rfl, f1, f2⟩ := ax_ii_sound hB hD hv v2 v1
          have n16 : o ≠ 16 := by intro z; subst z; cases g16
          refine ac_one hB (d' := (pc + 1, lv', .int z :: r', M')) ?_ ⟨rfl, hL, ⟨f2, v3⟩, hM⟩
          rw [ai_op h1 o18 n16]
          show (match ai_fn o p q with
            | some v => some (pc + 1, lv', v :: r', M')
            | none => none) = _
          rw [f1]
        · cases h
      · cases h
  | false =>
    have o19 : 19 ≤ o := by
      rcases Nat.lt_or_ge o 19 with z | z
      · have e1 : Nat.ble 9 o = true := Nat.ble_eq_true_of_le h1
        have e2 : Nat.ble o 18 = true := Nat.ble_eq_true_of_le (by omega)
        rw [e1, e2] at g1
        cases g1
      · exact z
    rw [g1] at h
    simp only [cond_false] at h
    cases g2 : Nat.ble o 27 with
    | true =>
      have o27 : o ≤ 27 := Nat.le_of_ble_eq_true g2
      rw [g2] at h
      simp only [cond_true] at h
      split at h
      · next y x st =>
        cases hk : (Nat.beq (ax_kind x) 1 && (Nat.beq (ax_kind y) (bif Nat.beq o 25 || Nat.beq o 26 then 0 else 1) && !(Nat.beq o 22))) with
        | false => rw [hk] at h; cases h
        | true =>
          rw [hk] at h
          cases h
          simp only [Bool.and_eq_true, Bool.not_eq_true'] at hk
          obtain ⟨k1, k2, k3⟩ := hk
          obtain ⟨y', x', r', rfl, v1, v2, v3⟩ := ac_Vs_2 hV
          have hx := ac_V_long v2 (Nat.eq_of_beq_eq_true k1)
          have hy : (o = 25 ∨ o = 26) ∧ (∃ z, y' = .int z) ∨ ¬ (o = 25 ∨ o = 26) ∧ ∃ z, y' = .long z := by
            by_cases ho : o = 25 ∨ o = 26
            · refine Or.inl ⟨ho, ac_V_int v1 ?_⟩
              have k2 := Nat.eq_of_beq_eq_true k2
              rcases ho with rfl | rfl <;> exact k2
            · refine Or.inr ⟨ho, ac_V_long v1 ?_⟩
              have k2 := Nat.eq_of_beq_eq_true k2
              have e1 : (Nat.beq o 25 || Nat.beq o 26) = false := by
                cases hz : (Nat.beq o 25 || Nat.beq o 26) with
                | false => rfl
                | true =>
                  simp only [Bool.or_eq_true] at hz
                  exact absurd (hz.elim (fun z => Or.inl (Nat.eq_of_beq_eq_true z)) (fun z => Or.inr (Nat.eq_of_beq_eq_true z))) ho
              rw [e1] at k2
              exact k2
          obtain ⟨w, w1, w2, w3⟩ := al_op (SA := SA') (SF := mx_SF) (DF := mx_DF) (N := 14) (a := a) (b := b) (L := L) (pc := pc) (lv := lv') (M := M') (st := r') o19 o27 (by intro z; subst z; cases k3) hx hy
          refine ac_one hB w1 ⟨rfl, hL, ⟨?_, v3⟩, hM⟩
          by_cases ho : o = 27
          · subst ho
            exact w2 rfl
          · have e1 : Nat.beq o 27 = false := by
              cases hz : Nat.beq o 27 with
              | false => rfl
              | true => exact absurd (Nat.eq_of_beq_eq_true hz) ho
            show ac_V σ (bif Nat.beq o 27 then ax_any else ax_anyL) w
            rw [e1]
            exact w3 ho
      · cases h
    | false =>
      have o28 : 28 ≤ o := by
        rcases Nat.lt_or_ge o 28 with z | z
        · have e2 : Nat.ble o 27 = true := Nat.ble_eq_true_of_le (by omega)
          rw [e2] at g2
          cases g2
        · exact z
      rw [g2] at h
      simp only [cond_false] at h
      cases g3 : Nat.ble o 32 with
      | true =>
        have o32 : o ≤ 32 := Nat.le_of_ble_eq_true g3
        rw [g3] at h
        simp only [cond_true] at h
        split at h
        · next x st =>
          cases hk : Nat.beq (ax_kind x) (bif Nat.beq o 29 then 1 else 0) with
          | false => rw [hk] at h; cases h
          | true =>
            rw [hk] at h
            cases h
            obtain ⟨x', r', rfl, v1, v2⟩ := ac_Vs_cons hV
            have hk := Nat.eq_of_beq_eq_true hk
            match o, o28, o32, hk with
            | 28, _, _, hk =>
              obtain ⟨z, rfl⟩ := ac_V_int v1 hk
              exact ac_one hB (d' := (pc + 1, lv', .long z.toInt64 :: r', M')) rfl ⟨rfl, hL, ⟨⟨_, rfl⟩, v2⟩, hM⟩
            | 29, _, _, hk =>
              obtain ⟨z, rfl⟩ := ac_V_long v1 hk
              exact ac_one hB (d' := (pc + 1, lv', .int z.toInt32 :: r', M')) rfl ⟨rfl, hL, ⟨⟨_, rfl⟩, v2⟩, hM⟩
            | 30, _, _, hk =>
              obtain ⟨z, rfl⟩ := ac_V_int v1 hk
              exact ac_one hB (d' := (pc + 1, lv', .int z.toInt8.toInt32 :: r', M')) rfl ⟨rfl, hL, ⟨⟨_, rfl⟩, v2⟩, hM⟩
            | 31, _, _, hk =>
              obtain ⟨z, rfl⟩ := ac_V_int v1 hk
              exact ac_one hB (d' := (pc + 1, lv', .int z.toInt16.toInt32 :: r', M')) rfl ⟨rfl, hL, ⟨⟨_, rfl⟩, v2⟩, hM⟩
            | 32, _, _, hk =>
              obtain ⟨z, rfl⟩ := ac_V_int v1 hk
              exact ac_one hB (d' := (pc + 1, lv', .int (z.toUInt32 % 65536).toInt32 :: r', M')) rfl ⟨rfl, hL, ⟨⟨_, rfl⟩, v2⟩, hM⟩
            | n + 33, _, h2, _ => exact absurd h2 (by omega)
        · cases h
      | false =>
        have o33 : 33 ≤ o := by
          rcases Nat.lt_or_ge o 33 with z | z
          · have e2 : Nat.ble o 32 = true := Nat.ble_eq_true_of_le (by omega)
            rw [e2] at g3
            cases g3
          · exact z
        rw [g3] at h
        simp only [cond_false] at h
        cases g4 : Nat.beq o 33 with
        | true =>
          have := Nat.eq_of_beq_eq_true g4
          subst this
          rw [g4] at h
          simp only [cond_true] at h
          split at h
          · next x st =>
            cases hk : ax_is2 x with
            | true => rw [hk] at h; cases h
            | false =>
              rw [hk] at h
              cases h
              obtain ⟨x', r', rfl, v1, v2⟩ := ac_Vs_cons hV
              refine ac_one hB (d' := (pc + 1, lv', x' :: x' :: r', M')) ?_ ⟨rfl, hL, ⟨v1, v1, v2⟩, hM⟩
              show (bif mx_is2 x' then none else some (pc + 1, lv', x' :: x' :: r', M')) = _
              rw [← ac_V_is2 v1, hk]
              rfl
          · cases h
        | false =>
          rw [g4] at h
          simp only [cond_false] at h
          cases g5 : Nat.beq o 34 with
          | true =>
            have := Nat.eq_of_beq_eq_true g5
            subst this
            rw [g5] at h
            simp only [cond_true] at h
            split at h
            · next x st =>
              cases hk : ax_is2 x with
              | true => rw [hk] at h; cases h
              | false =>
                rw [hk] at h
                cases h
                obtain ⟨x', r', rfl, v1, v2⟩ := ac_Vs_cons hV
                refine ac_one hB (d' := (pc + 1, lv', r', M')) ?_ ⟨rfl, hL, v2, hM⟩
                show (bif mx_is2 x' then none else some (pc + 1, lv', r', M')) = _
                rw [← ac_V_is2 v1, hk]
                rfl
            · cases h
          | false =>
            rw [g5] at h
            simp only [cond_false] at h
            cases g6 : Nat.beq o 35 with
            | true =>
              have := Nat.eq_of_beq_eq_true g6
              subst this
              rw [g6] at h
              simp only [cond_true] at h
              split at h
              · next x y st =>
                cases hk : (ax_is2 x || ax_is2 y) with
                | true => rw [hk] at h; cases h
                | false =>
                  rw [hk] at h
                  cases h
                  obtain ⟨x', y', r', rfl, v1, v2, v3⟩ := ac_Vs_2 hV
                  refine ac_one hB (d' := (pc + 1, lv', x' :: y' :: x' :: y' :: r', M')) ?_ ⟨rfl, hL, ⟨v1, v2, v1, v2, v3⟩, hM⟩
                  show (bif mx_is2 x' || mx_is2 y' then none else some (pc + 1, lv', x' :: y' :: x' :: y' :: r', M')) = _
                  rw [← ac_V_is2 v1, ← ac_V_is2 v2, hk]
                  rfl
              · cases h
            | false =>
              rw [g6] at h
              cases h
theorem as_un {o a b : Nat} {L : List Nat} (h1 : 9 ≤ o) (h2 : o ≤ 35) (hD : ac_D σ DT n0) (h : ax_un DT n0 o c.1 c.2.1 c.2.2.1 c.2.2.2.1 c.2.2.2.2 = some ds) (hB : ac_B σ c.2.2.2.2) (hC : ac_C σ c c') : ac_St σ SA' (o, a, b, L) c' ds := by
  obtain ⟨pc', lv', st', M'⟩ := c'
  have e0 : c.1 = pc' := hC.1
  have g := as_un' (SA' := SA') (a := a) (b := b) (L := L) h1 h2 hD h hB hC.2.1 hC.2.2.1 hC.2.2.2
  rw [e0] at g
  exact g
theorem as_pure {o a b : Nat} {L : List Nat} (h1 : 9 ≤ o) (h2 : o ≤ 35) (hD : ac_D σ DT n0) (h : ao_pure DT n0 o c = some ds) (hB : ac_B σ c.2.2.2.2) (hC : ac_C σ c c') : ac_St σ SA' (o, a, b, L) c' ds := by
  unfold ao_pure at h
  split at h
  · next lr hlr =>
    split at h
    · next d hd =>
      cases h
      obtain ⟨r', e1, e2⟩ := ac_top (l := lr.1) (r := lr.2) hlr hC.2.2.1
      rw [ao_pp_op (SA := SA') (SF := mx_SF) (DF := mx_DF) (N := 14) (a := a) (b := b) (L := L) h1 h2] at hd
      have hf := mf_op (SA' := SA') (i := (o, a, b, L)) h1 h2 hd c'.2.1 r' c'.2.2.2
      have ec : c' = (c.1, c'.2.1, lr.1 ++ r', c'.2.2.2) := by rw [← e1, hC.1]
      rw [← ec] at hf
      exact ac_one hB hf ⟨rfl, hC.2.1, ac_Vs_app (ac_Vs_emb _) e2, hC.2.2.2⟩
    · cases h
  · exact as_un h1 h2 hD h hB hC
/-! branches -/
theorem ax_dec_i {o : Nat} {x y : Int32} (ho : o ≤ 5) : ax_dec o x.toInt y.toInt = (match o with
    | 0 => decide (x = y)
    | 1 => !decide (x = y)
    | 2 => decide (x < y)
    | 3 => decide (y ≤ x)
    | 4 => decide (y < x)
    | _ => decide (x ≤ y)) := by
  have e1 : (x.toInt == y.toInt) = decide (x = y) := by
    by_cases h : x = y
    · subst h; simp
    · have h2 : ¬ x.toInt = y.toInt := fun z => h (Int32.toInt_inj.mp z)
      simp [h, h2]
  match o, ho with
  | 0, _ => exact e1
  | 1, _ =>
    show (!(x.toInt == y.toInt)) = !decide (x = y)
    rw [e1]
  | 2, _ => exact decide_eq_decide.mpr Int32.lt_iff_toInt_lt.symm
  | 3, _ => exact decide_eq_decide.mpr Int32.le_iff_toInt_le.symm
  | 4, _ => exact decide_eq_decide.mpr Int32.lt_iff_toInt_lt.symm
  | 5, _ => exact decide_eq_decide.mpr Int32.le_iff_toInt_le.symm
  | n + 6, h => exact absurd h (by omega)
theorem ax_cmp_sound {o : Nat} {lo hi v k : Int} (h1 : lo ≤ v) (h2 : v ≤ hi) : (ax_dec o v k = true → ∃ p, (ax_cmp o lo hi k).1 = some p ∧ p.1 ≤ v ∧ v ≤ p.2) ∧ (ax_dec o v k = false → ∃ p, (ax_cmp o lo hi k).2 = some p ∧ p.1 ≤ v ∧ v ≤ p.2) := by
  have ok : ∀ p : Int × Int, p.1 ≤ v → v ≤ p.2 → ∃ q, (bif decide (p.1 ≤ p.2) then some p else none) = some q ∧ q.1 ≤ v ∧ v ≤ q.2 := by
    intro p z1 z2
    have : decide (p.1 ≤ p.2) = true := decide_eq_true (by omega)
    exact ⟨p, by rw [this]; rfl, z1, z2⟩
  have lt1 : v < k → ∃ q, (bif decide (lo ≤ min hi (k - 1)) then some (lo, min hi (k - 1)) else none) = some q ∧ q.1 ≤ v ∧ v ≤ q.2 := fun z => ok (lo, min hi (k - 1)) h1 (show v ≤ min hi (k - 1) by omega)
  have lt2 : ¬ v < k → ∃ q, (bif decide (max lo k ≤ hi) then some (max lo k, hi) else none) = some q ∧ q.1 ≤ v ∧ v ≤ q.2 := fun z => ok (max lo k, hi) (show max lo k ≤ v by omega) h2
  have le1 : v ≤ k → ∃ q, (bif decide (lo ≤ min hi k) then some (lo, min hi k) else none) = some q ∧ q.1 ≤ v ∧ v ≤ q.2 := fun z => ok (lo, min hi k) h1 (show v ≤ min hi k by omega)
  have le2 : ¬ v ≤ k → ∃ q, (bif decide (max lo (k + 1) ≤ hi) then some (max lo (k + 1), hi) else none) = some q ∧ q.1 ≤ v ∧ v ≤ q.2 := fun z => ok (max lo (k + 1), hi) (show max lo (k + 1) ≤ v by omega) h2
  have eq1 : v = k → ∃ q, (bif decide (max lo k ≤ min hi k) then some (max lo k, min hi k) else none) = some q ∧ q.1 ≤ v ∧ v ≤ q.2 := fun z => ok (max lo k, min hi k) (show max lo k ≤ v by omega) (show v ≤ min hi k by omega)
  have eq2 : ¬ v = k → ∃ q, (bif lo == k then (bif decide (lo + 1 ≤ hi) then some (lo + 1, hi) else none) else bif hi == k then (bif decide (lo ≤ hi - 1) then some (lo, hi - 1) else none) else some (lo, hi)) = some q ∧ q.1 ≤ v ∧ v ≤ q.2 := fun z => by
    cases hl : (lo == k) with
    | true =>
      have hl := eq_of_beq hl
      exact ok (lo + 1, hi) (show lo + 1 ≤ v by omega) h2
    | false =>
      cases hh : (hi == k) with
      | true =>
        have hh := eq_of_beq hh
        exact ok (lo, hi - 1) h1 (show v ≤ hi - 1 by omega)
      | false => exact ⟨(lo, hi), rfl, h1, h2⟩
  unfold ax_dec ax_cmp
  split
  · exact ⟨fun z => eq1 (eq_of_beq z), fun z => eq2 (fun e => by simp [e] at z)⟩
  · exact ⟨fun z => eq2 (fun e => by simp [e] at z), fun z => eq1 (by simpa using z)⟩
  · exact ⟨fun z => lt1 (of_decide_eq_true z), fun z => lt2 (of_decide_eq_false z)⟩
  · exact ⟨fun z => lt2 (by have := of_decide_eq_true z; omega), fun z => lt1 (by have := of_decide_eq_false z; omega)⟩
  · exact ⟨fun z => le2 (by have := of_decide_eq_true z; omega), fun z => le1 (by have := of_decide_eq_false z; omega)⟩
  · exact ⟨fun z => le1 (of_decide_eq_true z), fun z => le2 (of_decide_eq_false z)⟩
theorem ac_upd {B : ax_B} {s : Nat} {p : Int × Int} (hB : ac_B σ B) (h1 : p.1 ≤ σ s) (h2 : σ s ≤ p.2) : ac_B σ (ax_upd B s p) := by
  intro t q hq
  unfold ax_upd at hq
  rw [List.getElem?_set] at hq
  split at hq
  · next e =>
    subst e
    split at hq
    · cases hq; exact ⟨h1, h2⟩
    · cases hq
  · exact hB t q hq
theorem ax_br_sound {o s t f : Nat} {k cc : Int} {lv : ax_L} {st : List ax_V} {M : ax_M} {B : ax_B} (hB : ac_B σ B) (h : ax_br o s k cc t f lv st M B = some ds) : ∃ d ∈ ds, ac_B σ d.2.2.2.2 ∧ d = ((bif ax_dec o (σ s) (cc - k) then t else f), lv, st, M, d.2.2.2.2) := by
  unfold ax_br at h
  split at h
  · next lo hi hs =>
    have h2 := hB s (lo, hi) (by rw [← mx_nth_eq]; exact hs)
    have key := ax_cmp_sound (o := o) (lo := lo) (hi := hi) (v := σ s) (k := cc - k) h2.1 h2.2
    split at h
    next a b hab =>
    rw [hab] at key
    cases h
    cases hd : ax_dec o (σ s) (cc - k) with
    | true =>
      obtain ⟨p, e1, e2, e3⟩ := key.1 hd
      have e1 : a = some p := e1
      subst e1
      refine ⟨(t, lv, st, M, ax_upd B s p), ?_, ac_upd hB e2 e3, rfl⟩
      cases b <;> simp [ax_two]
    | false =>
      obtain ⟨p, e1, e2, e3⟩ := key.2 hd
      have e1 : b = some p := e1
      subst e1
      refine ⟨(f, lv, st, M, ax_upd B s p), ?_, ac_upd hB e2 e3, rfl⟩
      cases a <;> simp [ax_two]
  · cases h
theorem ai_beq (a b : Int) : (a == b) = decide (a = b) := by
  cases h : (a == b) with
  | true => exact (decide_eq_true (eq_of_beq h)).symm
  | false =>
    have : ¬ a = b := by simpa using h
    exact (decide_eq_false this).symm
theorem ax_dec_shift {o : Nat} {x k y : Int} (ho : o ≤ 5) : ax_dec o x (y - k) = ax_dec o (x + k) y := by
  match o, ho with
  | 0, _ =>
    show (x == y - k) = (x + k == y)
    rw [ai_beq, ai_beq]
    exact decide_eq_decide.mpr (by omega)
  | 1, _ =>
    show (!(x == y - k)) = !(x + k == y)
    rw [ai_beq, ai_beq]
    rw [decide_eq_decide.mpr (show x = y - k ↔ x + k = y by omega)]
  | 2, _ => exact decide_eq_decide.mpr (by omega)
  | 3, _ => exact decide_eq_decide.mpr (by omega)
  | 4, _ => exact decide_eq_decide.mpr (by omega)
  | 5, _ => exact decide_eq_decide.mpr (by omega)
  | n + 6, h => exact absurd h (by omega)
theorem ax_dec_flip {o : Nat} {x y : Int} (ho : o ≤ 5) : ax_dec (ax_flip o) y x = ax_dec o x y := by
  match o, ho with
  | 0, _ =>
    show (y == x) = (x == y)
    rw [ai_beq, ai_beq]
    exact decide_eq_decide.mpr (by omega)
  | 1, _ =>
    show (!(y == x)) = !(x == y)
    rw [ai_beq, ai_beq]
    rw [decide_eq_decide.mpr (show y = x ↔ x = y by omega)]
  | 2, _ => rfl
  | 3, _ => rfl
  | 4, _ => rfl
  | 5, _ => rfl
  | n + 6, h => exact absurd h (by omega)
theorem ax_flip_le {o : Nat} (ho : o ≤ 5) : ax_flip o ≤ 5 := by
  match o, ho with
  | 0, _ => exact (by decide)
  | 1, _ => exact (by decide)
  | 2, _ => exact (by decide)
  | 3, _ => exact (by decide)
  | 4, _ => exact (by decide)
  | 5, _ => exact (by decide)
  | n + 6, h => exact absurd h (by omega)
end ABT
