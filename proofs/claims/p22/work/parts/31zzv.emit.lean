/-! TEXTS: what is emitted, proved -/
theorem tr_EF_mono {T V : Nat → Int} {nx : Nat → Nat} {rec rec' : Int → Int → Int → Nat → Nat → List Int → Prop} (hr : ∀ w j o k a L, rec w j o k a L → rec' w j o k a L) {w j o : Int} {k a : Nat} {L : List Int} (h : tr_EF T V nx rec w j o k a L) : tr_EF T V nx rec' w j o k a L := by
  rcases h with h | h | ⟨h1, h2, h3, b, h4, h5, h6⟩ | ⟨h1, h2, h3, L1, h4, h5⟩ | h | ⟨h1, h2, h3, b, L1, L2, h4, h5, h6⟩ | ⟨h1, h2, h3, L1, h4, h5⟩ | ⟨h1, h2, h3, b, L1, L2, h4, h5, h6⟩
  · exact Or.inl h
  · exact Or.inr (Or.inl h)
  · exact Or.inr (Or.inr (Or.inl ⟨h1, h2, h3, b, hr _ _ _ _ _ _ h4, h5, h6⟩))
  · exact Or.inr (Or.inr (Or.inr (Or.inl ⟨h1, h2, h3, L1, hr _ _ _ _ _ _ h4, h5⟩)))
  · exact Or.inr (Or.inr (Or.inr (Or.inr (Or.inl h))))
  · exact Or.inr (Or.inr (Or.inr (Or.inr (Or.inr (Or.inl ⟨h1, h2, h3, b, L1, L2, hr _ _ _ _ _ _ h4, hr _ _ _ _ _ _ h5, h6⟩)))))
  · exact Or.inr (Or.inr (Or.inr (Or.inr (Or.inr (Or.inr (Or.inl ⟨h1, h2, h3, L1, hr _ _ _ _ _ _ h4, h5⟩))))))
  · exact Or.inr (Or.inr (Or.inr (Or.inr (Or.inr (Or.inr (Or.inr ⟨h1, h2, h3, b, L1, L2, hr _ _ _ _ _ _ h4, hr _ _ _ _ _ _ h5, h6⟩))))))
theorem tr_em_1 {T V : Nat → Int} {nx : Nat → Nat} : ∀ {m : Nat} {w j o : Int} {k a : Nat} {L : List Int}, tr_em T V nx m w j o k a L → tr_em T V nx (m + 1) w j o k a L
  | 0, _, _, _, _, _, _, h => h.elim
  | m + 1, w, j, o, k, a, L, h => tr_EF_mono (rec := tr_em T V nx m) (rec' := tr_em T V nx (m + 1)) (fun w j o k a L h => tr_em_1 h) h
theorem tr_em_le {T V : Nat → Int} {nx : Nat → Nat} {m : Nat} {w j o : Int} {k a : Nat} {L : List Int} (h : tr_em T V nx m w j o k a L) : ∀ {d : Nat}, tr_em T V nx (m + d) w j o k a L
  | 0 => h
  | d + 1 => tr_em_1 (tr_em_le h (d := d))
theorem tr_em_up {T V : Nat → Int} {nx : Nat → Nat} {m m' : Nat} {w j o : Int} {k a : Nat} {L : List Int} (h : tr_em T V nx m w j o k a L) (hm : m ≤ m') : tr_em T V nx m' w j o k a L := by
  obtain ⟨d, rfl⟩ : ∃ d, m' = m + d := ⟨m' - m, by omega⟩
  exact tr_em_le h
/-- only one list is emitted -/
theorem tr_em_un {T V : Nat → Int} {nx : Nat → Nat} : ∀ {m : Nat} {w j o : Int} {k a : Nat} {L : List Int}, tr_em T V nx m w j o k a L → ∀ {m' a' : Nat} {L' : List Int}, tr_em T V nx m' w j o k a' L' → a' = a ∧ L' = L
  | 0, _, _, _, _, _, _, h, _, _, _, _ => h.elim
  | m + 1, w, j, o, k, a, L, h, 0, _, _, h' => h'.elim
  | m + 1, w, j, o, k, a, L, h, m' + 1, a', L', h' => by
    have ih : ∀ {w j o : Int} {k a : Nat} {L : List Int}, tr_em T V nx m w j o k a L → ∀ {a' : Nat} {L' : List Int}, tr_em T V nx m' w j o k a' L' → a' = a ∧ L' = L := by
      intro w j o k a L h1 a' L' h2
      exact tr_em_un h1 h2
    have h : tr_EF T V nx (tr_em T V nx m) w j o k a L := h
    have h' : tr_EF T V nx (tr_em T V nx m') w j o k a' L' := h'
    rcases h with ⟨h1, h2, h3, h4⟩ | ⟨h1, h2, h3, h4, h5⟩ | ⟨h1, h2, h3, b, h4, h5, h6⟩ | ⟨h1, h2, h3, L1, h4, h5⟩ | ⟨h1, h2, h3, h4, h5⟩ | ⟨h1, h2, h3, b, L1, L2, h4, h5, h6⟩ | ⟨h1, h2, h3, L1, h4, h5⟩ | ⟨h1, h2, h3, b, L1, L2, h4, h5, h6⟩ <;>
    rcases h' with ⟨g1, g2, g3, g4⟩ | ⟨g1, g2, g3, g4, g5⟩ | ⟨g1, g2, g3, b', g4, g5, g6⟩ | ⟨g1, g2, g3, M1, g4, g5⟩ | ⟨g1, g2, g3, g4, g5⟩ | ⟨g1, g2, g3, b', M1, M2, g4, g5, g6⟩ | ⟨g1, g2, g3, M1, g4, g5⟩ | ⟨g1, g2, g3, b', M1, M2, g4, g5, g6⟩ <;>
    first
      | (exfalso; omega)
      | (rw [h3] at g3; cases g3; done)
      | exact ⟨g3.trans h3.symm, g4.trans h4.symm⟩
      | exact ⟨g4.trans h4.symm, g5.trans h5.symm⟩
      | (obtain ⟨e1, e2⟩ := ih h4 g4; subst e1; subst e2; exact ⟨g6.trans h6.symm, rfl⟩)
      | (obtain ⟨e1, e2⟩ := ih h4 g4; subst e1; subst e2; exact ⟨rfl, g5.trans h5.symm⟩)
      | (obtain ⟨e1, e2⟩ := ih h4 g4; subst e1; subst e2; obtain ⟨e3, e4⟩ := ih h5 g5; subst e3; subst e4; exact ⟨rfl, g6.trans h6.symm⟩)
/-- the same over other tokens that are alike -/
theorem tr_em_hm {T V T' V' : Nat → Int} {nx nx' pc : Nat → Nat} {I : Nat → Prop} (h1 : ∀ k, I k → T k = T' (pc k)) (hV : ∀ k, I k → T k = 2 → V k = V' (pc k)) (h2 : ∀ k, I k → 2 ≤ T k → I (nx k) ∧ pc (nx k) = nx' (pc k)) : ∀ {m : Nat} {w j o : Int} {k a : Nat} {L : List Int}, I k → tr_em T V nx m w j o k a L → I a ∧ tr_em T' V' nx' m w j o (pc k) (pc a) L
  | 0, _, _, _, _, _, _, _, h => h.elim
  | m + 1, w, j, o, k, a, L, hk, h => by
    have ih : ∀ {w j o : Int} {k a : Nat} {L : List Int}, I k → tr_em T V nx m w j o k a L → I a ∧ tr_em T' V' nx' m w j o (pc k) (pc a) L := fun hk h => tr_em_hm h1 hV h2 hk h
    have h : tr_EF T V nx (tr_em T V nx m) w j o k a L := h
    show I a ∧ tr_EF T' V' nx' (tr_em T' V' nx' m) w j o (pc k) (pc a) L
    have e := h1 k hk
    rcases h with ⟨c1, c2, c3, c4⟩ | ⟨c1, c2, c3, c4, c5⟩ | ⟨c1, c2, c3, b, c4, c5, c6⟩ | ⟨c1, c2, c3, L1, c4, c5⟩ | ⟨c1, c2, c3, c4, c5⟩ | ⟨c1, c2, c3, b, L1, L2, c4, c5, c6⟩ | ⟨c1, c2, c3, L1, c4, c5⟩ | ⟨c1, c2, c3, b, L1, L2, c4, c5, c6⟩
    · obtain ⟨i1, i2⟩ := h2 k hk (by omega)
      subst c3
      exact ⟨i1, Or.inl ⟨c1, by omega, i2, by rw [c4, hV k hk c2]⟩⟩
    · obtain ⟨i1, i2⟩ := h2 k hk (by omega)
      subst c4
      exact ⟨i1, Or.inr (Or.inl ⟨c1, by omega, by omega, i2, by rw [c5, e]⟩)⟩
    · obtain ⟨i1, i2⟩ := h2 k hk (by omega)
      obtain ⟨i3, i4⟩ := ih i1 c4
      obtain ⟨i5, i6⟩ := h2 b i3 (by omega)
      subst c6
      rw [i2] at i4
      exact ⟨i5, Or.inr (Or.inr (Or.inl ⟨c1, c2, by omega, pc b, i4, by rw [← h1 b i3]; exact c5, i6⟩))⟩
    · obtain ⟨i1, i2⟩ := h2 k hk (by omega)
      obtain ⟨i3, i4⟩ := ih i1 c4
      rw [i2] at i4
      exact ⟨i3, Or.inr (Or.inr (Or.inr (Or.inl ⟨c1, c2, by omega, L1, i4, c5⟩)))⟩
    · subst c4
      exact ⟨hk, Or.inr (Or.inr (Or.inr (Or.inr (Or.inl ⟨c1, c2, by rw [← e]; exact c3, rfl, c5⟩))))⟩
    · have h2k : 2 ≤ T k := by
        unfold tr_jn at c3
        rw [decide_eq_true_eq] at c3
        omega
      obtain ⟨i1, i2⟩ := h2 k hk h2k
      obtain ⟨i3, i4⟩ := ih i1 c4
      obtain ⟨i5, i6⟩ := ih i3 c5
      rw [i2] at i4
      exact ⟨i5, Or.inr (Or.inr (Or.inr (Or.inr (Or.inr (Or.inl ⟨c1, c2, by rw [← e]; exact c3, pc b, L1, L2, i4, i6, by rw [← e]; exact c6⟩)))))⟩
    · obtain ⟨i1, i2⟩ := h2 k hk (by omega)
      obtain ⟨i3, i4⟩ := ih i1 c4
      rw [i2] at i4
      exact ⟨i3, Or.inr (Or.inr (Or.inr (Or.inr (Or.inr (Or.inr (Or.inl ⟨c1, by omega, c3, L1, i4, c5⟩))))))⟩
    · obtain ⟨i3, i4⟩ := ih hk c4
      obtain ⟨i5, i6⟩ := ih i3 c5
      exact ⟨i5, Or.inr (Or.inr (Or.inr (Or.inr (Or.inr (Or.inr (Or.inr ⟨c1, c2, by rw [← e]; exact c3, pc b, L1, L2, i4, i6, c6⟩))))))⟩
theorem tr_ht_app : ∀ {L1 L2 : List Int} {d : Nat}, tr_ht (L1 ++ L2) d = tr_ht L2 (tr_ht L1 d)
  | [], _, _ => rfl
  | c :: l, L2, d => tr_ht_app (L1 := l) (L2 := L2) (d := tr_h1 c d)
/-- a level leaves one number more, a loop as many as there are -/
theorem tr_em_ht {T V : Nat → Int} {nx : Nat → Nat} (hV : ∀ k, T k = 2 → 0 ≤ V k) : ∀ {m : Nat} {w j o : Int} {k a : Nat} {L : List Int}, tr_em T V nx m w j o k a L → (w ≤ 9 → ∀ d, tr_ht L d = d + 1) ∧ (10 ≤ w → ∀ d, 1 ≤ d → tr_ht L d = d)
  | 0, _, _, _, _, _, _, h => h.elim
  | m + 1, w, j, o, k, a, L, h => by
    have ih : ∀ {w j o : Int} {k a : Nat} {L : List Int}, tr_em T V nx m w j o k a L → (w ≤ 9 → ∀ d, tr_ht L d = d + 1) ∧ (10 ≤ w → ∀ d, 1 ≤ d → tr_ht L d = d) := fun h => tr_em_ht hV h
    have h : tr_EF T V nx (tr_em T V nx m) w j o k a L := h
    have u1 : ∀ (c : Int) (d : Nat), (c = -4 ∨ c = -269) → tr_h1 c (d + 1) = d + 1 := fun c d hc => by
      unfold tr_h1
      rw [if_neg (by omega), if_pos hc]
      omega
    rcases h with ⟨c1, c2, c3, c4⟩ | ⟨c1, c2, c3, c4, c5⟩ | ⟨c1, c2, c3, b, c4, c5, c6⟩ | ⟨c1, c2, c3, L1, c4, c5⟩ | ⟨c1, c2, c3, c4, c5⟩ | ⟨c1, c2, c3, b, L1, L2, c4, c5, c6⟩ | ⟨c1, c2, c3, L1, c4, c5⟩ | ⟨c1, c2, c3, b, L1, L2, c4, c5, c6⟩
    · refine ⟨fun _ d => ?_, fun z => by omega⟩
      rw [c4]
      exact if_pos (Or.inl (hV k c2))
    · refine ⟨fun _ d => ?_, fun z => by omega⟩
      rw [c5]
      exact if_pos (Or.inr (by omega))
    · exact ⟨fun _ => (ih c4).1 (by omega), fun z => by omega⟩
    · refine ⟨fun _ d => ?_, fun z => by omega⟩
      rw [c5, tr_ht_app, (ih c4).1 (by omega) d]
      exact u1 _ _ (Or.inl rfl)
    · refine ⟨fun z => by omega, fun _ d _ => ?_⟩
      rw [c5]
      rfl
    · refine ⟨fun z => by omega, fun _ d hd => ?_⟩
      rw [c6, tr_ht_app, (ih c4).1 (by omega) d]
      show tr_ht L2 (tr_h1 (-1 - T k) (d + 1)) = d
      have hh : tr_h1 (-1 - T k) (d + 1) = d := by
        unfold tr_jn at c3
        rw [decide_eq_true_eq] at c3
        unfold tr_h1
        rw [if_neg (by omega), if_neg (by omega)]
        omega
      rw [hh]
      exact (ih c5).2 c1 d hd
    · refine ⟨fun _ d => ?_, fun z => by omega⟩
      rw [c5, tr_ht_app, (ih c4).1 (by omega) d]
      exact u1 _ _ (Or.inr rfl)
    · refine ⟨fun _ d => ?_, fun z => by omega⟩
      rw [c6, tr_ht_app, (ih c4).1 (by omega) d]
      exact (ih c5).2 (by omega) _ (by omega)
/-! numbers -/
theorem tr_nb_cg {A B : Nat → Int} {f : Nat} : ∀ {n : Nat}, (∀ i, i < n → A (f + i) = B (f + i)) → tr_nb A f n = tr_nb B f n
  | 0, _ => rfl
  | n + 1, h => by
    unfold tr_nb
    rw [tr_nb_cg (n := n) (fun i hi => h i (by omega)), h n (by omega)]
theorem tr_fn11 {v : Int} (h0 : 0 ≤ v) (h1 : v ≤ 999) : sx_fn 11 v 10 = v * 10 := by
  have e1 : (Int32.ofInt v).toInt = v := Int32.toInt_ofInt_of_le (by omega) (by omega)
  have e2 : (Int32.ofInt 10).toInt = 10 := Int32.toInt_ofInt_of_le (by omega) (by omega)
  show (Int32.ofInt v * Int32.ofInt 10).toInt = _
  rw [sn_mul (by rw [e1, e2]; omega) (by rw [e1, e2]; omega), e1, e2]
theorem tr_fn9 {v x : Int} (h0 : 0 ≤ v) (h1 : v ≤ 9990) (h2 : 0 ≤ x) (h3 : x ≤ 255) : sx_fn 9 v x = v + x := by
  have e1 : (Int32.ofInt v).toInt = v := Int32.toInt_ofInt_of_le (by omega) (by omega)
  have e2 : (Int32.ofInt x).toInt = x := Int32.toInt_ofInt_of_le (by omega) (by omega)
  show (Int32.ofInt v + Int32.ofInt x).toInt = _
  rw [sn_add (by rw [e1, e2]; omega) (by rw [e1, e2]; omega), e1, e2]
theorem tr_fn10 {v : Int} (h0 : 0 ≤ v) (h1 : v ≤ 20000) : sx_fn 10 v 48 = v - 48 := by
  have e1 : (Int32.ofInt v).toInt = v := Int32.toInt_ofInt_of_le (by omega) (by omega)
  have e2 : (Int32.ofInt 48).toInt = 48 := Int32.toInt_ofInt_of_le (by omega) (by omega)
  show (Int32.ofInt v - Int32.ofInt 48).toInt = _
  rw [sn_sub (by rw [e1, e2]; omega) (by rw [e1, e2]; omega), e1, e2]
theorem tr_fn11c {v : Int} : sx_fn 11 10 v = sx_fn 11 v 10 := by
  show (Int32.ofInt 10 * Int32.ofInt v).toInt = (Int32.ofInt v * Int32.ofInt 10).toInt
  rw [Int32.mul_comm]
theorem tr_nb_rg {A : Nat → Int} {f : Nat} : ∀ {n : Nat}, n ≤ 4 → (∀ i, i < n → 48 ≤ A (f + i) ∧ A (f + i) ≤ 57) → 0 ≤ tr_nb A f n ∧ tr_nb A f n < 10 ^ n
  | 0, _, _ => ⟨Int.le_refl _, by
    show (0 : Int) < 10 ^ 0
    decide⟩
  | n + 1, h, ha => by
    obtain ⟨i1, i2⟩ := tr_nb_rg (A := A) (f := f) (n := n) (by omega) (fun i hi => ha i (by omega))
    have hn := ha n (by omega)
    have hp : (10 : Int) ^ n ≤ 1000 := by
      have : ∀ k : Nat, k < 4 → (10 : Int) ^ k ≤ 1000 := by decide +kernel
      exact this n (by omega)
    have e2 : (10 : Int) ^ (n + 1) = 10 ^ n * 10 := Int.pow_succ ..
    have e : tr_nb A f (n + 1) = tr_nb A f n * 10 + (A (f + n) - 48) := by
      show sx_fn 10 (sx_fn 9 (sx_fn 11 (tr_nb A f n) 10) (A (f + n))) 48 = _
      rw [tr_fn11 i1 (by omega), tr_fn9 (by omega) (by omega) (by omega) (by omega), tr_fn10 (by omega) (by omega)]
      omega
    rw [e, e2]
    omega
/-- a token that is a number: its digits -/
theorem tr_kd_num {A : Nat → Int} {n f : Nat} (h : tr_kd A n f = 2) : f < n ∧ tr_is 2 (A f) = true ∧ tr_ut A n f = tr_e 2 A n f ∧ tr_e 2 A n f ≤ f + 4 := by
  by_cases h0 : n ≤ f
  · rw [(tr_kd_0 h0).1] at h
    omega
  · have hlt : f < n := by omega
    cases h1 : tr_is 1 (A f) with
    | true =>
      rw [(tr_kd_1 hlt h1).1] at h
      rcases tr_fw_rg (A := A) (f := f) (u := tr_e 1 A n f) (m := 13) (w := 0) with z | z
      · omega
      · omega
    | false =>
      cases h2 : tr_is 2 (A f) with
      | true =>
        obtain ⟨z1, z2, -, -⟩ := tr_kd_2 hlt h2
        refine ⟨hlt, rfl, z2, ?_⟩
        rw [z1] at h
        cases hb : Nat.ble (tr_e 2 A n f) (f + 4) with
        | true => exact Nat.le_of_ble_eq_true hb
        | false =>
          rw [hb] at h
          have h : (1 : Int) = 2 := h
          omega
      | false =>
        rw [(tr_kd_3 hlt h1 h2).1] at h
        cases hs : tr_sg (A f) with
        | true =>
          rw [hs] at h
          have h : A f = 2 := h
          have := tr_sg_iff.mp hs
          omega
        | false =>
          rw [hs] at h
          have h : (1 : Int) = 2 := h
          omega
theorem tr_dig {A : Nat → Int} {n f : Nat} {i : Nat} (h : f + i < tr_e 2 A n f) : 48 ≤ A (f + i) ∧ A (f + i) ≤ 57 := tr_is2.mp (tr_en_in (Nat.le_add_right f i) h)
theorem tr_vl_nn {A : Nat → Int} {n f : Nat} (h : tr_kd A n f = 2) : 0 ≤ tr_vl A n f := by
  obtain ⟨h1, h2, h3, h4⟩ := tr_kd_num h
  unfold tr_vl
  rw [h3]
  exact (tr_nb_rg (by omega) (fun i hi => tr_dig (n := n) (by omega))).1
theorem tr_vl_al {A B : Nat → Int} (hal : tr_al A B) {n f : Nat} (h : tr_kd A n f = 2) : tr_vl A n f = tr_vl B n f := by
  obtain ⟨h1, h2, h3, h4⟩ := tr_kd_num h
  have h' : tr_kd B n f = 2 := by rw [← tr_al_kd hal]; exact h
  obtain ⟨g1, g2, g3, g4⟩ := tr_kd_num h'
  unfold tr_vl
  rw [h3, g3, ← tr_al_e hal]
  refine tr_nb_cg fun i hi => ?_
  have hd := tr_dig (A := A) (n := n) (f := f) (i := i) (by omega)
  have hd2 : 48 ≤ B (f + i) ∧ B (f + i) ≤ 57 := tr_dig (A := B) (n := n) (f := f) (i := i) (by rw [← tr_al_e hal]; omega)
  rcases hal (f + i) with z | z
  · exact z
  · omega
/-! items in rows -/
theorem tr_sw_app {E : Int → Nat → Prop} : ∀ {L1 L2 : List Int} {u : Nat}, tr_sw E u (L1 ++ L2) ↔ tr_sw E u L1 ∧ tr_sw E (u + L1.length) L2
  | [], _, _ => ⟨fun h => ⟨trivial, h⟩, fun h => h.2⟩
  | c :: l, L2, u => by
    show (E c u ∧ tr_sw E (u + 1) (l ++ L2)) ↔ (E c u ∧ tr_sw E (u + 1) l) ∧ tr_sw E (u + (l.length + 1)) L2
    rw [tr_sw_app (L1 := l) (L2 := L2) (u := u + 1), show u + 1 + l.length = u + (l.length + 1) by omega]
    exact ⟨fun h => ⟨⟨h.1, h.2.1⟩, h.2.2⟩, fun h => ⟨h.1.1, h.1.2, h.2⟩⟩
theorem tr_sw_cg {E E' : Int → Nat → Prop} : ∀ {L : List Int} {u : Nat}, (∀ c i, u ≤ i → i < u + L.length → E c i → E' c i) → tr_sw E u L → tr_sw E' u L
  | [], _, _, _ => trivial
  | c :: l, u, h, hs => by
    have hl : (c :: l).length = l.length + 1 := rfl
    exact ⟨h c u (Nat.le_refl _) (by omega) hs.1, tr_sw_cg (L := l) (u := u + 1) (fun c i h1 h2 h3 => h c i (by omega) (by omega) h3) hs.2⟩
/-- two runs over items that are alike -/
theorem tr_rf_eq {stp stp' : Nat → List Int → List Int} {E E' : Int → Nat → Prop} (hs : ∀ c i i' st, E c i → E' c i' → stp i st = stp' i' st) : ∀ {L : List Int} {u u' : Nat} {st : List Int}, tr_sw E u L → tr_sw E' u' L → tr_rf stp u L.length st = tr_rf stp' u' L.length st
  | [], _, _, _, _, _ => rfl
  | c :: l, u, u', st, h, h' => by
    show tr_rf stp (u + 1) l.length (stp u st) = tr_rf stp' (u' + 1) l.length (stp' u' st)
    rw [hs c u u' st h.1 h'.1]
    exact tr_rf_eq hs h.2 h'.2
theorem tr_rf_len {stp : Nat → List Int → List Int} {E : Int → Nat → Prop} (hs : ∀ c i st, E c i → (stp i st).length = tr_h1 c st.length) : ∀ {L : List Int} {u : Nat} {st : List Int}, tr_sw E u L → (tr_rf stp u L.length st).length = tr_ht L st.length
  | [], _, _, _ => rfl
  | c :: l, u, st, h => by
    show (tr_rf stp (u + 1) l.length (stp u st)).length = tr_ht l (tr_h1 c st.length)
    rw [tr_rf_len hs h.2, hs c u st h.1]
theorem tr_rf_snoc {stp : Nat → List Int → List Int} : ∀ {n u : Nat} {st : List Int}, tr_rf stp u (n + 1) st = stp (u + n) (tr_rf stp u n st)
  | 0, _, _ => rfl
  | n + 1, u, st => by
    show tr_rf stp (u + 1) (n + 1) (stp u st) = stp (u + (n + 1)) (tr_rf stp (u + 1) n (stp u st))
    rw [tr_rf_snoc (n := n) (u := u + 1), show u + 1 + n = u + (n + 1) by omega]
theorem tr_tl_len (st : List Int) : (tr_tl st).length = st.length - 1 := by
  cases st with
  | nil => rfl
  | cons c l => rfl
theorem tr_ev1_len {nm : Int → Int} {c : Int} {st : List Int} : (tr_ev1 nm c st).length = tr_h1 c st.length := by
  unfold tr_ev1 tr_h1
  by_cases h1 : 0 ≤ c
  · rw [if_pos h1, if_pos (Or.inl h1)]
    rfl
  · by_cases h2 : -262 ≤ c ∧ c ≤ -257
    · rw [if_neg h1, if_pos h2, if_pos (Or.inr h2)]
      rfl
    · have h3 : ¬ (0 ≤ c ∨ (-262 ≤ c ∧ c ≤ -257)) := fun z => z.elim h1 h2
      rw [if_neg h1, if_neg h2, if_neg h3]
      by_cases h4 : c = -4
      · rw [if_pos h4, if_pos (Or.inl h4)]
        show (tr_tl st).length + 1 = _
        rw [tr_tl_len]
        omega
      · by_cases h5 : c = -269
        · rw [if_neg h4, if_pos h5, if_pos (Or.inr h5)]
          show (tr_tl st).length + 1 = _
          rw [tr_tl_len]
          omega
        · rw [if_neg h4, if_neg h5, if_neg (fun z => z.elim h4 h5)]
          show (tr_tl (tr_tl st)).length + 1 = _
          rw [tr_tl_len, tr_tl_len]
          omega
/-- the same step for a row's item and for the reference's -/
theorem tr_ev_eq {nm nm' : Int → Int} (hn : ∀ i : Int, 0 ≤ i → i ≤ 5 → nm i = nm' i) {c a w : Int} {st : List Int} (h : tr_it c a w) : tr_ev1 nm c st = tr_ev2 nm' a w st := by
  unfold tr_ev1 tr_ev2
  rcases h with ⟨h1, h2, h3⟩ | ⟨h1, h2, h3, h4⟩ | ⟨h1, h2⟩ | ⟨h1, h2⟩ | ⟨h1, h2⟩ | ⟨h1, h2⟩ | ⟨h1, h2⟩
  · rw [if_pos h1, if_pos h2, h3]
  · rw [if_neg (by omega), if_pos ⟨h1, h2⟩, if_neg (by omega), if_pos h3, h4, hn _ (by omega) (by omega)]
  · rw [if_neg (by omega), if_neg (by omega), if_pos h1, if_neg (by omega), if_neg (by omega), if_pos h2]
  · rw [if_neg (by omega), if_neg (by omega), if_neg (by omega), if_pos h1, if_neg (by omega), if_neg (by omega), if_neg (by omega), if_pos h2]
  · rw [if_neg (by omega), if_neg (by omega), if_neg (by omega), if_neg (by omega), if_neg (by omega), if_neg (by omega), if_neg (by omega), if_neg (by omega)]
    unfold tr_ob
    rw [if_neg (by omega), if_pos h2, show -1 - c = 267 by omega]
  · rw [if_neg (by omega), if_neg (by omega), if_neg (by omega), if_neg (by omega), if_neg (by omega), if_neg (by omega), if_neg (by omega), if_neg (by omega)]
    unfold tr_ob
    rw [if_neg (by omega), if_neg (by omega), show -1 - c = 266 by omega]
  · rw [if_neg (by omega), if_neg (by omega), if_neg (by omega), if_neg (by omega), if_neg (by omega), if_neg (by omega), if_neg (by omega), if_neg (by omega)]
    unfold tr_ob
    rw [if_pos (by omega), h2]
/-! piles in rows -/
theorem tr_pi_cg {K K' : Nat → Int} : ∀ {l : List Int} {u : Nat}, (∀ i, i < u → K' i = K i) → tr_pi K u l → tr_pi K' u l
  | [], _, _, h => h
  | c :: l, u, h, ⟨v, h1, h2, h3⟩ => ⟨v, h1, by rw [h v (by omega)]; exact h2, tr_pi_cg (l := l) (fun i hi => h i (by omega)) h3⟩
theorem tr_pi_len {K : Nat → Int} : ∀ {l : List Int} {u : Nat}, tr_pi K u l → u = l.length
  | [], _, h => h
  | c :: l, u, ⟨v, h1, h2, h3⟩ => by
    have := tr_pi_len h3
    show u = l.length + 1
    omega
theorem tr_pi_hd {K : Nat → Int} {l : List Int} {u : Nat} (h : tr_pi K (u + 1) l) : tr_hd l = K u ∧ tr_pi K u (tr_tl l) := by
  cases l with
  | nil => cases h
  | cons c l =>
    obtain ⟨v, h1, h2, h3⟩ := h
    have e : v = u := by omega
    subst e
    exact ⟨h2.symm, h3⟩
theorem tr_pi_0 {K : Nat → Int} {l : List Int} (h : tr_pi K 0 l) : tr_hd l = 0 ∧ tr_tl l = [] ∧ l = [] := by
  cases l with
  | nil => exact ⟨rfl, rfl, rfl⟩
  | cons c l =>
    obtain ⟨v, h1, -⟩ := h
    omega
