/-! TEXTS: what a tape's tokens are, how they are read (the proof's own words for both readers) -/
/-- a byte of a run: 0 blanks, 1 letters, else digits -/
def tr_is (p x : Int) : Bool := bif p == 0 then decide (x = 32 ∨ x = 10) else bif p == 1 then decide (97 ≤ x ∧ x ≤ 122) else decide (48 ≤ x ∧ x ≤ 57)
def tr_en (p : Int) (A : Nat → Int) (n : Nat) : Nat → Nat → Nat
  | 0, i => i
  | m + 1, i => bif Nat.blt i n && tr_is p (A i) then tr_en p A n m (i + 1) else i
/-- the end of a run that begins at i, of a tape of n -/
def tr_e (p : Int) (A : Nat → Int) (n i : Nat) : Nat := tr_en p A n (n - i) i
theorem tr_e_stop {p : Int} {A : Nat → Int} {n i : Nat} (h : (Nat.blt i n && tr_is p (A i)) = false) : tr_e p A n i = i := by
  unfold tr_e
  cases hm : n - i with
  | zero => rfl
  | succ m =>
    show (bif Nat.blt i n && tr_is p (A i) then tr_en p A n m (i + 1) else i) = i
    rw [h]
    rfl
theorem tr_e_go {p : Int} {A : Nat → Int} {n i : Nat} (h : i < n) (h2 : tr_is p (A i) = true) : tr_e p A n i = tr_e p A n (i + 1) := by
  unfold tr_e
  rw [show n - i = (n - (i + 1)) + 1 by omega]
  show (bif Nat.blt i n && tr_is p (A i) then tr_en p A n (n - (i + 1)) (i + 1) else i) = _
  have h3 : Nat.blt i n = true := Nat.ble_eq_true_of_le h
  rw [h3, h2]
  rfl
theorem tr_en_le {p : Int} {A : Nat → Int} {n : Nat} : ∀ {m i : Nat}, i ≤ tr_en p A n m i
  | 0, i => Nat.le_refl _
  | m + 1, i => by
    show i ≤ (bif Nat.blt i n && tr_is p (A i) then tr_en p A n m (i + 1) else i)
    cases (Nat.blt i n && tr_is p (A i)) with
    | false => exact Nat.le_refl _
    | true =>
      have := tr_en_le (p := p) (A := A) (n := n) (m := m) (i := i + 1)
      exact Nat.le_trans (Nat.le_succ i) this
theorem tr_e_le {p : Int} {A : Nat → Int} {n i : Nat} : i ≤ tr_e p A n i := tr_en_le
/-- all bytes of a run are of its sort -/
theorem tr_en_in {p : Int} {A : Nat → Int} {n : Nat} : ∀ {m i j : Nat}, i ≤ j → j < tr_en p A n m i → tr_is p (A j) = true
  | 0, i, j, h1, h2 => by
    have h3 : j < i := h2
    omega
  | m + 1, i, j, h1, h2 => by
    have h3 : j < (bif Nat.blt i n && tr_is p (A i) then tr_en p A n m (i + 1) else i) := h2
    cases hb : (Nat.blt i n && tr_is p (A i)) with
    | false =>
      rw [hb] at h3
      have h4 : j < i := h3
      omega
    | true =>
      rw [hb] at h3
      rw [Bool.and_eq_true] at hb
      by_cases hj : j = i
      · rw [hj]
        exact hb.2
      · exact tr_en_in (m := m) (i := i + 1) (by omega) h3
theorem tr_en_cg {p : Int} {A B : Nat → Int} {n : Nat} (h : ∀ i, tr_is p (A i) = tr_is p (B i)) : ∀ {m i : Nat}, tr_en p A n m i = tr_en p B n m i
  | 0, _ => rfl
  | m + 1, i => by
    show (bif Nat.blt i n && tr_is p (A i) then tr_en p A n m (i + 1) else i) = (bif Nat.blt i n && tr_is p (B i) then tr_en p B n m (i + 1) else i)
    rw [h i, tr_en_cg h]
/-- the signs -/
def tr_sg (x : Int) : Bool := decide (x = 40 ∨ x = 41 ∨ x = 59 ∨ x = 43 ∨ x = 45 ∨ x = 42 ∨ x = 60 ∨ x = 61)
/-- the words, from their last letter to the first -/
def tr_wn : Nat → List Int
  | 0 => [115, 108, 97, 111, 103]
  | 1 => [101, 100, 97, 109]
  | 2 => [110, 111, 119]
  | 3 => [115, 100, 114, 97, 99]
  | 4 => [100, 110, 105, 107]
  | 5 => [101, 116, 97, 108]
  | 6 => [110, 105, 119]
  | 7 => [119, 97, 114, 100]
  | 8 => [101, 107, 105, 108]
  | 9 => [110, 97, 98]
  | 10 => [114, 111]
  | 11 => [100, 110, 97]
  | _ => [116, 111, 110]
/-- a word's letters stand from place f on -/
def tr_mt (A : Nat → Int) (f : Nat) : List Int → Bool
  | [] => true
  | c :: r => decide (A (f + r.length) = c) && tr_mt A f r
def tr_wd (A : Nat → Int) (f u w : Nat) : Bool := Nat.beq u (f + (tr_wn w).length) && tr_mt A f (tr_wn w)
/-- the first of m words from w on that stands from f to u; 1 if none does -/
def tr_fw (A : Nat → Int) (f u : Nat) : Nat → Nat → Int
  | 0, _ => 1
  | m + 1, w => bif tr_wd A f u w then 256 + (w : Int) else tr_fw A f u m (w + 1)
/-- the token at place f: 0 the end, 1 none, 2 a number, a sign, 256 and more a word -/
def tr_kd (A : Nat → Int) (n f : Nat) : Int :=
  bif Nat.ble n f then 0 else bif tr_is 2 (A f) then (bif Nat.ble (tr_e 2 A n f) (f + 4) then 2 else 1) else bif tr_is 1 (A f) then tr_fw A f (tr_e 1 A n f) 13 0 else bif tr_sg (A f) then A f else 1
/-- where it ends -/
def tr_ut (A : Nat → Int) (n f : Nat) : Nat :=
  bif Nat.ble n f then f + 1 else bif tr_is 2 (A f) then tr_e 2 A n f else bif tr_is 1 (A f) then tr_e 1 A n f else f + 1
/-- where the next one begins -/
def tr_nx (A : Nat → Int) (n f : Nat) : Nat := tr_e 0 A n (tr_ut A n f)
/-- where token k begins -/
def tr_pc (A : Nat → Int) (n : Nat) : Nat → Nat
  | 0 => tr_e 0 A n 0
  | k + 1 => tr_nx A n (tr_pc A n k)
/-- the reference's sort of the token at f: words are all 1, none is -1; its end -/
def tr_rt (A : Nat → Int) (n f : Nat) : Int :=
  bif Nat.ble n f then 0 else bif tr_is 1 (A f) then 1 else bif tr_is 2 (A f) then (bif Nat.ble (tr_e 2 A n f) (f + 4) then 2 else -1) else bif tr_sg (A f) then A f else -1
def tr_ru (A : Nat → Int) (n f : Nat) : Nat := bif Nat.ble n f then f else tr_ut A n f
/-! reading: what a level (0 to 5), a text from part j on (7), what may be joined to a level (10 on) takes; 1 and where it ends, 0 and where the fault is; 2: not known -/
def tr_b (q : Int × Nat) (g : Nat → Int × Nat) : Int × Nat := if q.1 = 1 then g q.2 else q
def tr_jn (w j t : Int) : Bool := decide ((w = 10 ∧ t = 266) ∨ (w = 11 ∧ t = 267) ∨ (w = 12 ∧ j = 0 ∧ (t = 60 ∨ t = 61)) ∨ (w = 13 ∧ (t = 43 ∨ t = 45)) ∨ (w = 14 ∧ t = 42))
def tr_F (T : Nat → Int) (nx : Nat → Nat) (rec : Int → Int → Int → Nat → Int × Nat) (w j o : Int) (k : Nat) : Int × Nat :=
  if w = 5 then
    (if T k = 2 ∨ (256 ≤ T k ∧ T k ≤ 261) then (1, nx k)
    else if 5 ≤ o then (0, k)
    else if T k = 40 then tr_b (rec 0 0 (o + 1) (nx k)) (fun a => if T a = 41 then (1, nx a) else (0, a))
    else if T k = 45 then rec 5 0 (o + 1) (nx k)
    else (0, k))
  else if w = 7 then
    (if 4 ≤ j then (if T k = 0 then (1, k) else (0, k))
    else if 0 ≤ j ∧ T k = 262 + j then tr_b (rec 0 0 0 (nx k)) (fun a => if T a = 59 then rec 7 (j + 1) 0 (nx a) else (0, a))
    else (0, k))
  else if 10 ≤ w then
    (if tr_jn w j (T k) = true then tr_b (rec (w - 9) 0 o (nx k)) (fun a => rec w (if w = 12 then j + 1 else 0) o a) else (1, k))
  else if w = 2 ∧ T k = 268 then (if 5 ≤ o then (0, k) else rec 2 0 (o + 1) (nx k))
  else tr_b (rec (w + 1) 0 o k) (fun a => rec (w + 10) 0 o a)
def tr_pf (T : Nat → Int) (nx : Nat → Nat) : Nat → Int → Int → Int → Nat → Int × Nat
  | 0 => fun _ _ _ k => (2, k)
  | m + 1 => tr_F T nx (tr_pf T nx m)
theorem tr_b_mono {q q' : Int × Nat} {g g' : Nat → Int × Nat} (hq : ¬ q.1 = 2 → q' = q) (hg : ∀ a, ¬ (g a).1 = 2 → g' a = g a) (h : ¬ (tr_b q g).1 = 2) : tr_b q' g' = tr_b q g := by
  unfold tr_b at h ⊢
  by_cases h1 : q.1 = 1
  · have h2 := hq (by omega)
    rw [if_pos h1] at h
    rw [h2, if_pos h1, if_pos h1]
    exact hg _ h
  · rw [if_neg h1] at h
    have h2 := hq h
    rw [h2, if_neg h1, if_neg h1]
theorem tr_F_mono {T : Nat → Int} {nx : Nat → Nat} {rec rec' : Int → Int → Int → Nat → Int × Nat} (hr : ∀ w j o k, ¬ (rec w j o k).1 = 2 → rec' w j o k = rec w j o k) {w j o : Int} {k : Nat} (h : ¬ (tr_F T nx rec w j o k).1 = 2) : tr_F T nx rec' w j o k = tr_F T nx rec w j o k := by
  unfold tr_F at h ⊢
  by_cases c1 : w = 5
  · rw [if_pos c1] at h
    rw [if_pos c1, if_pos c1]
    by_cases c2 : T k = 2 ∨ (256 ≤ T k ∧ T k ≤ 261)
    · rw [if_pos c2, if_pos c2]
    · rw [if_neg c2] at h
      rw [if_neg c2, if_neg c2]
      by_cases c3 : 5 ≤ o
      · rw [if_pos c3, if_pos c3]
      · rw [if_neg c3] at h
        rw [if_neg c3, if_neg c3]
        by_cases c4 : T k = 40
        · rw [if_pos c4] at h
          rw [if_pos c4, if_pos c4]
          exact tr_b_mono (hr _ _ _ _) (fun a _ => rfl) h
        · rw [if_neg c4] at h
          rw [if_neg c4, if_neg c4]
          by_cases c5 : T k = 45
          · rw [if_pos c5] at h
            rw [if_pos c5, if_pos c5]
            exact hr _ _ _ _ h
          · rw [if_neg c5, if_neg c5]
  · rw [if_neg c1] at h
    rw [if_neg c1, if_neg c1]
    by_cases c2 : w = 7
    · rw [if_pos c2] at h
      rw [if_pos c2, if_pos c2]
      by_cases c3 : 4 ≤ j
      · rw [if_pos c3, if_pos c3]
      · rw [if_neg c3] at h
        rw [if_neg c3, if_neg c3]
        by_cases c4 : 0 ≤ j ∧ T k = 262 + j
        · rw [if_pos c4] at h
          rw [if_pos c4, if_pos c4]
          refine tr_b_mono (hr _ _ _ _) (fun a ha => ?_) h
          by_cases c5 : T a = 59
          · rw [if_pos c5] at ha
            rw [if_pos c5, if_pos c5]
            exact hr _ _ _ _ ha
          · rw [if_neg c5, if_neg c5]
        · rw [if_neg c4, if_neg c4]
    · rw [if_neg c2] at h
      rw [if_neg c2, if_neg c2]
      by_cases c3 : 10 ≤ w
      · rw [if_pos c3] at h
        rw [if_pos c3, if_pos c3]
        by_cases c4 : tr_jn w j (T k) = true
        · rw [if_pos c4] at h
          rw [if_pos c4, if_pos c4]
          exact tr_b_mono (hr _ _ _ _) (fun a ha => hr _ _ _ _ ha) h
        · rw [if_neg c4, if_neg c4]
      · rw [if_neg c3] at h
        rw [if_neg c3, if_neg c3]
        by_cases c4 : w = 2 ∧ T k = 268
        · rw [if_pos c4] at h
          rw [if_pos c4, if_pos c4]
          by_cases c5 : 5 ≤ o
          · rw [if_pos c5, if_pos c5]
          · rw [if_neg c5] at h
            rw [if_neg c5, if_neg c5]
            exact hr _ _ _ _ h
        · rw [if_neg c4] at h
          rw [if_neg c4, if_neg c4]
          exact tr_b_mono (hr _ _ _ _) (fun a ha => hr _ _ _ _ ha) h
theorem tr_pf_1 {T : Nat → Int} {nx : Nat → Nat} : ∀ {m : Nat} {w j o : Int} {k : Nat}, ¬ (tr_pf T nx m w j o k).1 = 2 → tr_pf T nx (m + 1) w j o k = tr_pf T nx m w j o k
  | 0, _, _, _, _, h => (h rfl).elim
  | m + 1, w, j, o, k, h => tr_F_mono (rec := tr_pf T nx m) (rec' := tr_pf T nx (m + 1)) (fun w j o k hk => tr_pf_1 hk) h
theorem tr_pf_le {T : Nat → Int} {nx : Nat → Nat} {w j o : Int} {k : Nat} {m : Nat} (h : ¬ (tr_pf T nx m w j o k).1 = 2) : ∀ {d : Nat}, tr_pf T nx (m + d) w j o k = tr_pf T nx m w j o k
  | 0 => rfl
  | d + 1 => by
    have ih := tr_pf_le h (d := d)
    have h2 : ¬ (tr_pf T nx (m + d) w j o k).1 = 2 := by rw [ih]; exact h
    exact (tr_pf_1 h2).trans ih
theorem tr_pf_up {T : Nat → Int} {nx : Nat → Nat} {w j o r : Int} {k a m m' : Nat} (h : tr_pf T nx m w j o k = (r, a)) (hr : ¬ r = 2) (hm : m ≤ m') : tr_pf T nx m' w j o k = (r, a) := by
  obtain ⟨d, rfl⟩ : ∃ d, m' = m + d := ⟨m' - m, by omega⟩
  rw [tr_pf_le (by rw [h]; exact hr)]
  exact h
theorem tr_pf_un {T : Nat → Int} {nx : Nat → Nat} {w j o r r' : Int} {k a a' m m' : Nat} (h : tr_pf T nx m w j o k = (r, a)) (hr : ¬ r = 2) (h' : tr_pf T nx m' w j o k = (r', a')) (hr' : ¬ r' = 2) : r = r' ∧ a = a' := by
  have h1 := tr_pf_up h hr (Nat.le_add_right m m')
  have h2 := tr_pf_up h' hr' (Nat.le_add_left m' m)
  have h3 := h1.symm.trans h2
  exact ⟨congrArg Prod.fst h3, congrArg Prod.snd h3⟩
/-! over tokens that stand in a row, and over the tape's own: the same -/
def tr_hm (pc : Nat → Nat) (M : Nat) (q q' : Int × Nat) : Prop := q' = (q.1, pc q.2) ∧ q.2 < M
theorem tr_hm_b {pc : Nat → Nat} {M : Nat} {q q' : Int × Nat} {g g' : Nat → Int × Nat} (hq : tr_hm pc M q q') (hg : ∀ a, a < M → tr_hm pc M (g a) (g' (pc a))) : tr_hm pc M (tr_b q g) (tr_b q' g') := by
  obtain ⟨h1, h2⟩ := hq
  subst h1
  show tr_hm pc M (if q.1 = 1 then g q.2 else q) (if q.1 = 1 then g' (pc q.2) else (q.1, pc q.2))
  by_cases h : q.1 = 1
  · rw [if_pos h, if_pos h]
    exact hg _ h2
  · rw [if_neg h, if_neg h]
    exact ⟨rfl, h2⟩
theorem tr_hm_F {T T' : Nat → Int} {nx' pc : Nat → Nat} {M : Nat} (h1 : ∀ k, k < M → T k = T' (pc k)) (h2 : ∀ k, pc (k + 1) = nx' (pc k)) (h3 : T (M - 1) = 0 ∨ T (M - 1) = 1) {rec rec' : Int → Int → Int → Nat → Int × Nat} (hr : ∀ w j o k, k < M → tr_hm pc M (rec w j o k) (rec' w j o (pc k))) {w j o : Int} {k : Nat} (hk : k < M) : tr_hm pc M (tr_F T (fun i => i + 1) rec w j o k) (tr_F T' nx' rec' w j o (pc k)) := by
  have hl : ∀ {k : Nat}, k < M → 2 ≤ T k → k + 1 < M := fun {k} h4 h5 => by
    by_cases h6 : k = M - 1
    · rw [h6] at h5
      omega
    · omega
  have hz : ∀ {k : Nat} {x : Int}, k < M → tr_hm pc M (x, k) (x, pc k) := fun {k x} h4 => ⟨rfl, h4⟩
  have hs : ∀ {k : Nat} {x : Int}, k < M → 2 ≤ T k → tr_hm pc M (x, k + 1) (x, nx' (pc k)) := fun {k x} h4 h5 => by
    rw [← h2]
    exact ⟨rfl, hl h4 h5⟩
  have hrs : ∀ {k : Nat} (w j o : Int), k < M → 2 ≤ T k → tr_hm pc M (rec w j o (k + 1)) (rec' w j o (nx' (pc k))) := fun {k} w j o h4 h5 => by
    rw [← h2]
    exact hr _ _ _ _ (hl h4 h5)
  unfold tr_F
  rw [← h1 k hk]
  by_cases c1 : w = 5
  · rw [if_pos c1, if_pos c1]
    by_cases c2 : T k = 2 ∨ (256 ≤ T k ∧ T k ≤ 261)
    · rw [if_pos c2, if_pos c2]
      exact hs hk (by omega)
    · rw [if_neg c2, if_neg c2]
      by_cases c3 : 5 ≤ o
      · rw [if_pos c3, if_pos c3]
        exact hz hk
      · rw [if_neg c3, if_neg c3]
        by_cases c4 : T k = 40
        · rw [if_pos c4, if_pos c4]
          refine tr_hm_b (hrs _ _ _ hk (by omega)) fun a ha => ?_
          show tr_hm pc M (if T a = 41 then (1, a + 1) else (0, a)) (if T' (pc a) = 41 then (1, nx' (pc a)) else (0, pc a))
          rw [← h1 a ha]
          by_cases c5 : T a = 41
          · rw [if_pos c5, if_pos c5]
            exact hs ha (by omega)
          · rw [if_neg c5, if_neg c5]
            exact hz ha
        · rw [if_neg c4, if_neg c4]
          by_cases c5 : T k = 45
          · rw [if_pos c5, if_pos c5]
            exact hrs _ _ _ hk (by omega)
          · rw [if_neg c5, if_neg c5]
            exact hz hk
  · rw [if_neg c1, if_neg c1]
    by_cases c2 : w = 7
    · rw [if_pos c2, if_pos c2]
      by_cases c3 : 4 ≤ j
      · rw [if_pos c3, if_pos c3]
        by_cases c4 : T k = 0
        · rw [if_pos c4, if_pos c4]
          exact hz hk
        · rw [if_neg c4, if_neg c4]
          exact hz hk
      · rw [if_neg c3, if_neg c3]
        by_cases c4 : 0 ≤ j ∧ T k = 262 + j
        · rw [if_pos c4, if_pos c4]
          refine tr_hm_b (hrs _ _ _ hk (by omega)) fun a ha => ?_
          show tr_hm pc M (if T a = 59 then rec 7 (j + 1) 0 (a + 1) else (0, a)) (if T' (pc a) = 59 then rec' 7 (j + 1) 0 (nx' (pc a)) else (0, pc a))
          rw [← h1 a ha]
          by_cases c5 : T a = 59
          · rw [if_pos c5, if_pos c5]
            exact hrs _ _ _ ha (by omega)
          · rw [if_neg c5, if_neg c5]
            exact hz ha
        · rw [if_neg c4, if_neg c4]
          exact hz hk
    · rw [if_neg c2, if_neg c2]
      by_cases c3 : 10 ≤ w
      · rw [if_pos c3, if_pos c3]
        by_cases c4 : tr_jn w j (T k) = true
        · rw [if_pos c4, if_pos c4]
          have c5 : 2 ≤ T k := by
            unfold tr_jn at c4
            rw [decide_eq_true_eq] at c4
            omega
          exact tr_hm_b (hrs _ _ _ hk c5) fun a ha => hr _ _ _ _ ha
        · rw [if_neg c4, if_neg c4]
          exact hz hk
      · rw [if_neg c3, if_neg c3]
        by_cases c4 : w = 2 ∧ T k = 268
        · rw [if_pos c4, if_pos c4]
          by_cases c5 : 5 ≤ o
          · rw [if_pos c5, if_pos c5]
            exact hz hk
          · rw [if_neg c5, if_neg c5]
            exact hrs _ _ _ hk (by omega)
        · rw [if_neg c4, if_neg c4]
          exact tr_hm_b (hr _ _ _ _ hk) fun a ha => hr _ _ _ _ ha
theorem tr_hm_pf {T T' : Nat → Int} {nx' pc : Nat → Nat} {M : Nat} (h1 : ∀ k, k < M → T k = T' (pc k)) (h2 : ∀ k, pc (k + 1) = nx' (pc k)) (h3 : T (M - 1) = 0 ∨ T (M - 1) = 1) : ∀ {m : Nat} {w j o : Int} {k : Nat}, k < M → tr_hm pc M (tr_pf T (fun i => i + 1) m w j o k) (tr_pf T' nx' m w j o (pc k))
  | 0, _, _, _, _, hk => ⟨rfl, hk⟩
  | m + 1, w, j, o, k, hk => tr_hm_F (rec := tr_pf T (fun i => i + 1) m) (rec' := tr_pf T' nx' m) (w := w) (j := j) (o := o) h1 h2 h3 (fun w j o k hk => tr_hm_pf h1 h2 h3 (m := m) (w := w) (j := j) (o := o) hk) hk
/-! what facts say -/
def tr_nj (w j : Int) : Int := if w = 7 ∨ w = 12 then j else 0
def tr_ps (T : Nat → Int) (nx : Nat → Nat) (w j o f r f2 : Int) : Prop := 0 ≤ f ∧ 0 ≤ f2 ∧ (r = 0 ∨ r = 1) ∧ ∃ m, tr_pf T nx m w (tr_nj w j) o f.toNat = (r, f2.toNat)
/-- the fault of a tape: its place, or -1 -/
def tr_fa (A : Nat → Int) (n : Nat) (x : Int) : Prop := ∃ m r a, tr_pf (tr_kd A n) (tr_nx A n) m 7 0 0 (tr_e 0 A n 0) = (r, a) ∧ ((r = 0 ∧ x = (a : Int)) ∨ (r = 1 ∧ x = -1))
/-- bytes that are alike, once from 0 to 255, once from -128 to 127 -/
def tr_al (A B : Nat → Int) : Prop := ∀ i, A i = B i ∨ (B i < 0 ∧ 128 ≤ A i)
/-- the text that holds in a day -/
def tr_bt (F : Nat → Int) (d : Int) : Nat → Int
  | 0 => -1
  | n + 1 => if F n ≤ d ∧ (tr_bt F d n < 0 ∨ F (tr_bt F d n).toNat ≤ F n) then (n : Int) else tr_bt F d n
def tr_at (C : Nat → Int) (z b : Int) : Int := if b < 0 then z else C b.toNat
def sx_TGr : Nat → List (Nat → Int) → List Int → Prop := fun k as es => match k, as, es with
  | 1016, [C, F], [n, d, f, l] => 0 ≤ n ∧ f = tr_at C 0 (tr_bt F d n.toNat) ∧ l = tr_at F (-1) (tr_bt F d n.toNat)
  | 1017, [F], [n, d, b] => 0 ≤ n ∧ b = tr_bt F d n.toNat
  | 1018, [C, F], [n, d, f] => f = tr_at C 0 (tr_bt F d n.toNat)
  | 1040, [A, B], [] => tr_al A B
  | 1041, [A], [p, n, i, e] => 0 ≤ i ∧ e = (tr_e p A n.toNat i.toNat : Int)
  | 1045, [A], [n, f, t, u] => 0 ≤ f ∧ t = tr_rt A n.toNat f.toNat ∧ u = (tr_ru A n.toNat f.toNat : Int)
  | 1046, [A], [w, f, u, r] => 0 ≤ f ∧ 0 ≤ u ∧ r = bif tr_wd A f.toNat u.toNat w.toNat then 1 else 0
  | 1047, [A], [n, f, t, u] => 0 ≤ f ∧ t = tr_kd A n.toNat f.toNat ∧ u = (tr_ut A n.toNat f.toNat : Int)
  | 1048, [A, T, L], [n, m, q] => 0 ≤ m ∧ 0 ≤ q ∧ tr_pc A n.toNat m.toNat = tr_e 0 A n.toNat q.toNat ∧ ∀ k : Nat, (k : Int) < m → T k = tr_kd A n.toNat (tr_pc A n.toNat k) ∧ L k = (tr_pc A n.toNat k : Int)
  | 1049, [A], [f, u, t] => 0 ≤ f ∧ 0 ≤ u ∧ t = tr_fw A f.toNat u.toNat 13 0
  | 1050, [A, T, L], [n, m] => ∀ k : Nat, (k : Int) < m → T k = tr_kd A n.toNat (tr_pc A n.toNat k) ∧ L k = (tr_pc A n.toNat k : Int)
  | 1060, [T], [w, j, o, f, r, f2] => tr_ps T (fun i => i + 1) w j o f r f2
  | 1061, [A], [n, w, j, o, f, r, f2] => tr_ps (tr_kd A n.toNat) (tr_nx A n.toNat) w j o f r f2
  | 1070, [A], [n, x] => tr_fa A n.toNat x
  | _, _, _ => True
