/-! THE METHODS OF ROWS -/
section SXM
variable {SA : mx_S} {call : Nat → List Value → mx_M → Option Value → mx_M → Prop} {t : List (List (Nat × mx_I))} {c c' : mx_C} {i : mx_I} {r : Option Value} {M M' : mx_M}
abbrev mr_o (SA : mx_S) : mx_I → mx_C → Option mx_C := mx_op SA mx_SF mx_DF 14
def mr_st (SA : mx_S) (t : List (List (Nat × mx_I))) (pc : Nat) (lv : mx_L) (st : List Value) (M : mx_M) : Option mx_C := match mx_fetch t pc with
  | some i => bif Nat.blt i.1 70 then mr_o SA i (pc, lv, st, M) else none
  | none => none
def mr_en (t : List (List (Nat × mx_I))) (pc : Nat) (st : List Value) : Option (Option Value) := match mx_fetch t pc with
  | some i => bif Nat.ble 80 i.1 then mx_ret i st else none
  | none => none
theorem mr_op {pc : Nat} {lv : mx_L} {st : List Value} (ho : mr_st SA t pc lv st M = some c') (h : ∃ n, mx_run call (mr_o SA) t n c' r M') : ∃ n, mx_run call (mr_o SA) t n (pc, lv, st, M) r M' := by
  obtain ⟨n, h⟩ := h
  unfold mr_st at ho
  split at ho
  · next i hf =>
    cases hb : Nat.blt i.1 70 with
    | false => rw [hb] at ho; cases ho
    | true =>
      rw [hb] at ho
      exact ⟨n + 1, i, hf, Or.inl ⟨Nat.le_of_ble_eq_true hb, c', ho, h⟩⟩
  · cases ho
theorem mr_end {pc : Nat} {lv : mx_L} {st : List Value} (ho : mr_en t pc st = some r) : ∃ n, mx_run call (mr_o SA) t n (pc, lv, st, M) r M := by
  unfold mr_en at ho
  split at ho
  · next i hf =>
    cases hb : Nat.ble 80 i.1 with
    | false => rw [hb] at ho; cases ho
    | true =>
      rw [hb] at ho
      exact ⟨1, i, hf, Or.inr (Or.inr ⟨Nat.le_of_ble_eq_true hb, r, ho, rfl, rfl⟩)⟩
  · cases ho
theorem mr_sto_self {k : Nat} {v : Value} {lv : mx_L} : mx_lk k (mx_sto k v lv) = some v := by
  unfold mx_sto mx_lk
  rw [sx_beq_rf]
  rfl
theorem mr_sto {k j : Nat} {v w : Value} {lv : mx_L} (h : mx_lk j lv = some w) (hj : ¬ j = k) (h2 : j + 1 = k → mx_is2 w = false) : mx_lk j (mx_sto k v lv) = some w := by
  unfold mx_sto mx_lk
  rw [sx_beq_ne (fun z => hj z.symm)]
  refine mx_lk_filter ?_ h
  show (!(j == k) && !(j + 1 == k && w.category == 2)) = true
  rw [mx_is2_eq]
  by_cases z : j + 1 = k
  · rw [h2 z]
    simp [hj]
  · simp [hj, z]
theorem mr_ldi {a n pc : Nat} {lv : mx_L} {st : List Value} {x : Int32} (h : mx_lk a lv = some (.int x)) : mx_ldi a n (pc, lv, st, M) = some (pc + n, lv, .int x :: st, M) := by
  unfold mx_ldi
  simp only [h]
theorem mr_ldl {a n pc : Nat} {lv : mx_L} {st : List Value} {x : Int64} (h : mx_lk a lv = some (.long x)) : mx_ldl a n (pc, lv, st, M) = some (pc + n, lv, .long x :: st, M) := by
  unfold mx_ldl
  simp only [h]
theorem mr_lda {a n pc : Nat} {lv : mx_L} {st : List Value} {x : Nat} (h : mx_lk a lv = some (.ref x)) : mx_lda a n (pc, lv, st, M) = some (pc + n, lv, .ref x :: st, M) := by
  unfold mx_lda
  simp only [h]
theorem mr_get {ci k q pc : Nat} {lv : mx_L} {st fs : List Value} {v : Value} (h : M[q]? = some (.inl (ci, fs))) (hk : fs[k]? = some v) : mx_get ci k (pc, lv, .ref q :: st, M) = some (pc + 3, lv, v :: st, M) := by
  unfold mx_get
  simp only [mx_nth_eq, h, sx_beq_rf, hk, cond_true]
theorem mr_ble {q : Nat} (hq : q < 1000) : Nat.ble 1000 q = false := by
  cases h : Nat.ble 1000 q with
  | false => rfl
  | true => have := Nat.le_of_ble_eq_true h; omega
theorem mr_alen {q pc t n : Nat} {lv : mx_L} {st : List Value} {x : vp_A} (hq : q < 1000) (h : M[q]? = some (.inr (t, x))) (hn : x.1 = n) (hk : mx_kd t x = true) : mx_alen SA (pc, lv, .ref q :: st, M) = some (pc + 1, lv, .int (Int32.ofNat n) :: st, M) := by
  unfold mx_alen mx_ar
  simp only [mr_ble hq, mx_nth_eq, h, hk, cond_false, cond_true, hn]
theorem mr_if {p : Int32 → Bool} {u pc : Nat} {lv : mx_L} {st : List Value} {x : Int32} : mx_if p u (pc, lv, .int x :: st, M) = some (bif p x then u else pc + 3, lv, st, M) := rfl
theorem mr_if2 {p : Int32 → Int32 → Bool} {u pc : Nat} {lv : mx_L} {st : List Value} {x y : Int32} : mx_if2 p u (pc, lv, .int y :: .int x :: st, M) = some (bif p x y then u else pc + 3, lv, st, M) := rfl
theorem mr_ald {q pc n : Nat} {lv : mx_L} {st : List Value} {f : Nat → Int32} {i : Int32} (hq : q < 1000) (h : M[q]? = some (.inr (0, n, .inl f))) (h1 : 0 ≤ i.toInt) (h2 : i.toInt < n) : mx_ald SA 0 (pc, lv, .int i :: .ref q :: st, M) = some (pc + 1, lv, .int (f i.toInt.toNat) :: st, M) := by
  unfold mx_ald mx_ar
  simp only [mr_ble hq, mx_nth_eq, h, show mx_kd 0 (n, .inl f) = true from rfl, cond_false, cond_true, sx_beq_rf, sn_inb h1 h2, Bool.and_self, sn_nat]
  rfl
theorem mr_ast {q pc n : Nat} {lv : mx_L} {st : List Value} {f : Nat → Int32} {i v : Int32} (h : M[q]? = some (.inr (0, n, .inl f))) (h1 : 0 ≤ i.toInt) (h2 : i.toInt < n) : mx_ast 0 (pc, lv, .int v :: .int i :: .ref q :: st, M) = some (pc + 1, lv, st, M.set q (.inr (0, n, .inl (upd f i.toInt.toNat v)))) := by
  unfold mx_ast
  simp only [mx_nth_eq, h, sx_beq_rf, sn_inb h1 h2, Bool.and_self, cond_true, sn_nat]
  rfl
theorem mr_lst {q pc n : Nat} {lv : mx_L} {st : List Value} {f : Nat → Int64} {i : Int32} {v : Int64} (h : M[q]? = some (.inr (3, n, .inr (.inl f)))) (h1 : 0 ≤ i.toInt) (h2 : i.toInt < n) : mx_last (pc, lv, .long v :: .int i :: .ref q :: st, M) = some (pc + 1, lv, st, M.set q (.inr (3, n, .inr (.inl (vp_updL f i.toInt.toNat v))))) := by
  unfold mx_last
  simp only [mx_nth_eq, h, sx_beq_rf, sn_inb h1 h2, Bool.and_self, cond_true, sn_nat]
theorem mr_len {n : Nat} (hn : n < 2000) : (Int32.ofNat n).toInt = n := Int32.toInt_ofNat_of_lt (by omega)
/-- the index is in the row or it isn't -/
theorem mr_idx {n : Nat} {i : Int32} (hn : n < 2000) : (decide (i < 0) = true ∧ ¬ (0 ≤ i.toInt ∧ i.toInt < n)) ∨ (decide (i < 0) = false ∧ decide (Int32.ofNat n ≤ i) = true ∧ ¬ (0 ≤ i.toInt ∧ i.toInt < n)) ∨ (decide (i < 0) = false ∧ decide (Int32.ofNat n ≤ i) = false ∧ 0 ≤ i.toInt ∧ i.toInt < n) := by
  have h0 : (0 : Int32).toInt = 0 := rfl
  have hl := mr_len hn
  by_cases h1 : i.toInt < 0
  · exact Or.inl ⟨decide_eq_true (Int32.lt_iff_toInt_lt.mpr (by omega)), by omega⟩
  · have d1 : decide (i < 0) = false := decide_eq_false fun z => by have := Int32.lt_iff_toInt_lt.mp z; omega
    by_cases h2 : i.toInt < n
    · exact Or.inr (Or.inr ⟨d1, decide_eq_false fun z => by have := Int32.le_iff_toInt_le.mp z; omega, by omega, h2⟩)
    · exact Or.inr (Or.inl ⟨d1, decide_eq_true (Int32.le_iff_toInt_le.mpr (by omega)), by omega⟩)
theorem mr_68 {d q a n : Nat} {u i : Int32} {f : Nat → Int32} (hl : M.length ≤ 1000) (hq : M[q]? = some (.inl (6, [.ref a, .int u]))) (ha : a < 1000) (hn : n < 2000) (hr : M[a]? = some (.inr (0, n, .inl f))) : mx_Ev SA mx_code (d + 1) 68 [.ref q, .int i] M (some (.int (if 0 ≤ i.toInt ∧ i.toInt < n then f i.toInt.toNat else 0))) M := by
  refine ⟨Nat.le_of_ble_eq_true rfl, hl, ?_⟩
  have hc : (mx_code 68).2 = mt_68 := rfl
  rw [hc]
  have z22 : ∃ k, mx_run (mx_Ev SA mx_code d) (mr_o SA) mt_68 k (22, [(0, .ref q), (1, .int i)], [], M) (some (.int 0)) M := by
    refine mr_op (c' := (23, _, [.int 0], M)) rfl ?_
    exact mr_end rfl
  refine mr_op (c' := (1, [(0, .ref q), (1, .int i)], [.int i], M)) rfl ?_
  rcases mr_idx (i := i) hn with ⟨h1, h2⟩ | ⟨h1, h2, h3⟩ | ⟨h1, h2, h3, h4⟩
  · rw [if_neg h2]
    exact mr_op (c' := (22, _, [], M)) (by show some (bif decide (i < 0) then _ else _, _, _, _) = _; rw [h1]; rfl) z22
  · rw [if_neg h3]
    refine mr_op (c' := (4, [(0, .ref q), (1, .int i)], [], M)) (by show some (bif decide (i < 0) then _ else _, _, _, _) = _; rw [h1]; rfl) ?_
    refine mr_op (c' := (5, _, [.int i], M)) rfl ?_
    refine mr_op (c' := (6, _, [.ref q, .int i], M)) rfl ?_
    refine mr_op (c' := (9, _, [.ref a, .int i], M)) (mr_get hq rfl) ?_
    refine mr_op (c' := (10, _, [.int (Int32.ofNat n), .int i], M)) (mr_alen ha hr rfl rfl) ?_
    exact mr_op (c' := (22, _, [], M)) (by show some (bif decide (Int32.ofNat n ≤ i) then _ else _, _, _, _) = _; rw [h2]; rfl) z22
  · rw [if_pos ⟨h3, h4⟩]
    refine mr_op (c' := (4, [(0, .ref q), (1, .int i)], [], M)) (by show some (bif decide (i < 0) then _ else _, _, _, _) = _; rw [h1]; rfl) ?_
    refine mr_op (c' := (5, _, [.int i], M)) rfl ?_
    refine mr_op (c' := (6, _, [.ref q, .int i], M)) rfl ?_
    refine mr_op (c' := (9, _, [.ref a, .int i], M)) (mr_get hq rfl) ?_
    refine mr_op (c' := (10, _, [.int (Int32.ofNat n), .int i], M)) (mr_alen ha hr rfl rfl) ?_
    refine mr_op (c' := (13, [(0, .ref q), (1, .int i)], [], M)) (by show some (bif decide (Int32.ofNat n ≤ i) then _ else _, _, _, _) = _; rw [h2]; rfl) ?_
    refine mr_op (c' := (14, _, [.ref q], M)) rfl ?_
    refine mr_op (c' := (17, _, [.ref a], M)) (mr_get hq rfl) ?_
    refine mr_op (c' := (18, [(0, .ref q), (1, .int i)], [.int i, .ref a], M)) rfl ?_
    refine mr_op (c' := (19, _, [.int (f i.toInt.toNat)], M)) (mr_ald ha hr h3 h4) ?_
    refine mr_op (c' := (23, _, [.int (f i.toInt.toNat)], M)) rfl ?_
    exact mr_end rfl
theorem mr_69 {d q a n : Nat} {u i v : Int32} {f : Nat → Int32} (hl : M.length ≤ 1000) (hq : M[q]? = some (.inl (6, [.ref a, .int u]))) (ha : a < 1000) (hn : n < 2000) (hr : M[a]? = some (.inr (0, n, .inl f))) : mx_Ev SA mx_code (d + 1) 69 [.ref q, .int i, .int v] M none (if 0 ≤ i.toInt ∧ i.toInt < n then M.set a (.inr (0, n, .inl (upd f i.toInt.toNat v))) else M) := by
  refine ⟨Nat.le_of_ble_eq_true rfl, hl, ?_⟩
  have hc : (mx_code 69).2 = mt_69 := rfl
  rw [hc]
  have z22 : ∃ k, mx_run (mx_Ev SA mx_code d) (mr_o SA) mt_69 k (20, [(0, .ref q), (1, .int i), (2, .int v)], [], M) none M := mr_end rfl
  refine mr_op (c' := (1, [(0, .ref q), (1, .int i), (2, .int v)], [.int i], M)) rfl ?_
  rcases mr_idx (i := i) hn with ⟨h1, h2⟩ | ⟨h1, h2, h3⟩ | ⟨h1, h2, h3, h4⟩
  · rw [if_neg h2]
    exact mr_op (c' := (20, _, [], M)) (by show some (bif decide (i < 0) then _ else _, _, _, _) = _; rw [h1]; rfl) z22
  · rw [if_neg h3]
    refine mr_op (c' := (4, [(0, .ref q), (1, .int i), (2, .int v)], [], M)) (by show some (bif decide (i < 0) then _ else _, _, _, _) = _; rw [h1]; rfl) ?_
    refine mr_op (c' := (5, _, [.int i], M)) rfl ?_
    refine mr_op (c' := (6, _, [.ref q, .int i], M)) rfl ?_
    refine mr_op (c' := (9, _, [.ref a, .int i], M)) (mr_get hq rfl) ?_
    refine mr_op (c' := (10, _, [.int (Int32.ofNat n), .int i], M)) (mr_alen ha hr rfl rfl) ?_
    exact mr_op (c' := (20, _, [], M)) (by show some (bif decide (Int32.ofNat n ≤ i) then _ else _, _, _, _) = _; rw [h2]; rfl) z22
  · rw [if_pos ⟨h3, h4⟩]
    refine mr_op (c' := (4, [(0, .ref q), (1, .int i), (2, .int v)], [], M)) (by show some (bif decide (i < 0) then _ else _, _, _, _) = _; rw [h1]; rfl) ?_
    refine mr_op (c' := (5, _, [.int i], M)) rfl ?_
    refine mr_op (c' := (6, _, [.ref q, .int i], M)) rfl ?_
    refine mr_op (c' := (9, _, [.ref a, .int i], M)) (mr_get hq rfl) ?_
    refine mr_op (c' := (10, _, [.int (Int32.ofNat n), .int i], M)) (mr_alen ha hr rfl rfl) ?_
    refine mr_op (c' := (13, [(0, .ref q), (1, .int i), (2, .int v)], [], M)) (by show some (bif decide (Int32.ofNat n ≤ i) then _ else _, _, _, _) = _; rw [h2]; rfl) ?_
    refine mr_op (c' := (14, _, [.ref q], M)) rfl ?_
    refine mr_op (c' := (17, _, [.ref a], M)) (mr_get hq rfl) ?_
    refine mr_op (c' := (18, [(0, .ref q), (1, .int i), (2, .int v)], [.int i, .ref a], M)) rfl ?_
    refine mr_op (c' := (19, [(0, .ref q), (1, .int i), (2, .int v)], [.int v, .int i, .ref a], M)) rfl ?_
    refine mr_op (c' := (20, _, [], M.set a (.inr (0, n, .inl (upd f i.toInt.toNat v))))) (mr_ast hr h3 h4) ?_
    exact mr_end rfl
theorem mr_70 {d q a n : Nat} {u i v : Int32} {f : Nat → Int32} (hl : M.length ≤ 1000) (hq : M[q]? = some (.inl (6, [.ref a, .int u]))) (ha : a < 1000) (hn : n < 2000) (hr : M[a]? = some (.inr (0, n, .inl f))) : mx_Ev SA mx_code (d + 1) 70 [.ref q, .int i, .int v] M none (if 0 ≤ i.toInt ∧ i.toInt < n then M.set a (.inr (0, n, .inl (upd f i.toInt.toNat (f i.toInt.toNat + v)))) else M) := by
  refine ⟨Nat.le_of_ble_eq_true rfl, hl, ?_⟩
  have hc : (mx_code 70).2 = mt_70 := rfl
  rw [hc]
  have z22 : ∃ k, mx_run (mx_Ev SA mx_code d) (mr_o SA) mt_70 k (23, [(0, .ref q), (1, .int i), (2, .int v)], [], M) none M := mr_end rfl
  refine mr_op (c' := (1, [(0, .ref q), (1, .int i), (2, .int v)], [.int i], M)) rfl ?_
  rcases mr_idx (i := i) hn with ⟨h1, h2⟩ | ⟨h1, h2, h3⟩ | ⟨h1, h2, h3, h4⟩
  · rw [if_neg h2]
    exact mr_op (c' := (23, _, [], M)) (by show some (bif decide (i < 0) then _ else _, _, _, _) = _; rw [h1]; rfl) z22
  · rw [if_neg h3]
    refine mr_op (c' := (4, [(0, .ref q), (1, .int i), (2, .int v)], [], M)) (by show some (bif decide (i < 0) then _ else _, _, _, _) = _; rw [h1]; rfl) ?_
    refine mr_op (c' := (5, _, [.int i], M)) rfl ?_
    refine mr_op (c' := (6, _, [.ref q, .int i], M)) rfl ?_
    refine mr_op (c' := (9, _, [.ref a, .int i], M)) (mr_get hq rfl) ?_
    refine mr_op (c' := (10, _, [.int (Int32.ofNat n), .int i], M)) (mr_alen ha hr rfl rfl) ?_
    exact mr_op (c' := (23, _, [], M)) (by show some (bif decide (Int32.ofNat n ≤ i) then _ else _, _, _, _) = _; rw [h2]; rfl) z22
  · rw [if_pos ⟨h3, h4⟩]
    refine mr_op (c' := (4, [(0, .ref q), (1, .int i), (2, .int v)], [], M)) (by show some (bif decide (i < 0) then _ else _, _, _, _) = _; rw [h1]; rfl) ?_
    refine mr_op (c' := (5, _, [.int i], M)) rfl ?_
    refine mr_op (c' := (6, _, [.ref q, .int i], M)) rfl ?_
    refine mr_op (c' := (9, _, [.ref a, .int i], M)) (mr_get hq rfl) ?_
    refine mr_op (c' := (10, _, [.int (Int32.ofNat n), .int i], M)) (mr_alen ha hr rfl rfl) ?_
    refine mr_op (c' := (13, [(0, .ref q), (1, .int i), (2, .int v)], [], M)) (by show some (bif decide (Int32.ofNat n ≤ i) then _ else _, _, _, _) = _; rw [h2]; rfl) ?_
    refine mr_op (c' := (14, _, [.ref q], M)) rfl ?_
    refine mr_op (c' := (17, _, [.ref a], M)) (mr_get hq rfl) ?_
    refine mr_op (c' := (18, [(0, .ref q), (1, .int i), (2, .int v)], [.int i, .ref a], M)) rfl ?_
    refine mr_op (c' := (19, [(0, .ref q), (1, .int i), (2, .int v)], [.int i, .ref a, .int i, .ref a], M)) rfl ?_
    refine mr_op (c' := (20, [(0, .ref q), (1, .int i), (2, .int v)], [.int (f i.toInt.toNat), .int i, .ref a], M)) (mr_ald ha hr h3 h4) ?_
    refine mr_op (c' := (21, [(0, .ref q), (1, .int i), (2, .int v)], [.int v, .int (f i.toInt.toNat), .int i, .ref a], M)) rfl ?_
    refine mr_op (c' := (22, [(0, .ref q), (1, .int i), (2, .int v)], [.int (f i.toInt.toNat + v), .int i, .ref a], M)) rfl ?_
    refine mr_op (c' := (23, _, [], M.set a (.inr (0, n, .inl (upd f i.toInt.toNat (f i.toInt.toNat + v)))))) (mr_ast hr h3 h4) ?_
    exact mr_end rfl
theorem mr_set_id {e : mx_E} {q : Nat} (h : M[q]? = some e) : M.set q e = M := by
  apply List.ext_getElem?
  intro j
  by_cases z : q = j
  · subst z
    rw [List.getElem?_set_self (List.getElem?_eq_some_iff.mp h).1, h]
  · rw [List.getElem?_set_ne z]
theorem mr_fl {d a n : Nat} {v : Int32} (ha : a < 1000) (hn : n < 2000) : ∀ (m k : Nat) (lv : mx_L) (M : mx_M) (f : Nat → Int32), m + k = n → M[a]? = some (.inr (0, n, .inl f)) → mx_lk 0 lv = some (.ref a) → mx_lk 1 lv = some (.int v) → mx_lk 2 lv = some (.int (Int32.ofNat k)) → mx_lk 3 lv = some (.int (Int32.ofNat n)) →
    ∃ g : Nat → Int32, (∀ j, j < n → g j = if k ≤ j then v else f j) ∧ ∃ z, mx_run (mx_Ev SA mx_code d) (mr_o SA) mt_273 z (5, lv, [], M) none (M.set a (.inr (0, n, .inl g))) := by
  intro m
  induction m with
  | zero =>
    intro k lv M f hk hr h0 h1 h2 h3
    refine ⟨f, fun j hj => by rw [if_neg (by omega)], ?_⟩
    rw [mr_set_id hr]
    have hd : decide (Int32.ofNat n ≤ Int32.ofNat k) = true := decide_eq_true (Int32.le_iff_toInt_le.mpr (by rw [mr_len hn, mr_len (by omega)]; omega))
    refine mr_op (c' := (6, lv, [.int (Int32.ofNat k)], M)) (mr_ldi h2) ?_
    refine mr_op (c' := (7, lv, [.int (Int32.ofNat n), .int (Int32.ofNat k)], M)) (mr_ldi h3) ?_
    refine mr_op (c' := (20, lv, [], M)) (by show some (bif decide (Int32.ofNat n ≤ Int32.ofNat k) then _ else _, _, _, _) = _; rw [hd]; rfl) ?_
    exact mr_end rfl
  | succ m ih =>
    intro k lv M f hk hr h0 h1 h2 h3
    have hkn : (Int32.ofNat k).toInt = k := mr_len (by omega)
    have hadd : Int32.ofNat k + Int32.ofNat 1 = Int32.ofNat (k + 1) := Int32.toInt_inj.mp (by
      have h1 : (Int32.ofNat 1).toInt = 1 := rfl
      rw [sn_add (by rw [hkn, h1]; omega) (by rw [hkn, h1]; omega), hkn, h1, mr_len (by omega)]
      omega)
    obtain ⟨g, g1, g2⟩ := ih (k + 1) (mx_sto 2 (.int (Int32.ofNat k + Int32.ofNat 1)) lv) (M.set a (.inr (0, n, .inl (upd f (Int32.ofNat k).toInt.toNat v)))) (upd f (Int32.ofNat k).toInt.toNat v) (by omega) (List.getElem?_set_self (List.getElem?_eq_some_iff.mp hr).1)
      (mr_sto h0 (by decide) (fun _ => rfl)) (mr_sto h1 (by decide) (fun _ => rfl)) (by rw [hadd]; exact mr_sto_self) (mr_sto h3 (by decide) (fun _ => rfl))
    rw [List.set_set] at g2
    refine ⟨g, fun j hj => ?_, ?_⟩
    · rw [g1 j hj]
      unfold upd
      rw [hkn]
      by_cases z1 : k + 1 ≤ j
      · rw [if_pos z1, if_pos (by omega)]
      · rw [if_neg z1]
        by_cases z2 : j = k
        · rw [if_pos (by omega), if_pos (by omega)]
        · rw [if_neg (by omega), if_neg (by omega)]
    · have hd : decide (Int32.ofNat n ≤ Int32.ofNat k) = false := decide_eq_false fun z => by
        have := Int32.le_iff_toInt_le.mp z
        rw [mr_len hn, hkn] at this
        omega
      refine mr_op (c' := (6, lv, [.int (Int32.ofNat k)], M)) (mr_ldi h2) ?_
      refine mr_op (c' := (7, lv, [.int (Int32.ofNat n), .int (Int32.ofNat k)], M)) (mr_ldi h3) ?_
      refine mr_op (c' := (10, lv, [], M)) (by show some (bif decide (Int32.ofNat n ≤ Int32.ofNat k) then _ else _, _, _, _) = _; rw [hd]; rfl) ?_
      refine mr_op (c' := (11, lv, [.ref a], M)) (mr_lda h0) ?_
      refine mr_op (c' := (12, lv, [.int (Int32.ofNat k), .ref a], M)) (mr_ldi h2) ?_
      refine mr_op (c' := (13, lv, [.int v, .int (Int32.ofNat k), .ref a], M)) (mr_ldi h1) ?_
      refine mr_op (c' := (14, lv, [], M.set a (.inr (0, n, .inl (upd f (Int32.ofNat k).toInt.toNat v))))) (mr_ast hr (by rw [hkn]; omega) (by rw [hkn]; omega)) ?_
      refine mr_op (c' := (17, mx_sto 2 (.int (Int32.ofNat k + Int32.ofNat 1)) lv, [], M.set a (.inr (0, n, .inl (upd f (Int32.ofNat k).toInt.toNat v))))) (by show mx_inc 2 1 _ = _; unfold mx_inc; simp only [h2]) ?_
      refine mr_op (c' := (5, mx_sto 2 (.int (Int32.ofNat k + Int32.ofNat 1)) lv, [], M.set a (.inr (0, n, .inl (upd f (Int32.ofNat k).toInt.toNat v))))) rfl ?_
      exact g2
theorem mr_273 {d a n : Nat} {v : Int32} {f : Nat → Int32} (hl : M.length ≤ 1000) (ha : a < 1000) (hn : n < 2000) (hr : M[a]? = some (.inr (0, n, .inl f))) : ∃ g : Nat → Int32, (∀ j, j < n → g j = v) ∧ mx_Ev SA mx_code (d + 1) 273 [.ref a, .int v] M none (M.set a (.inr (0, n, .inl g))) := by
  have h0 : mx_lk 0 [(0, Value.ref a), (1, .int v)] = some (.ref a) := rfl
  have h1 : mx_lk 1 [(0, Value.ref a), (1, .int v)] = some (.int v) := rfl
  obtain ⟨g, g1, g2⟩ := mr_fl (SA := SA) (d := d) (v := v) ha hn n 0 (mx_sto 3 (.int (Int32.ofNat n)) (mx_sto 2 (.int 0) [(0, .ref a), (1, .int v)])) M f (by omega) hr
    (mr_sto (mr_sto h0 (by decide) (fun _ => rfl)) (by decide) (fun _ => rfl)) (mr_sto (mr_sto h1 (by decide) (fun _ => rfl)) (by decide) (fun _ => rfl)) (mr_sto mr_sto_self (by decide) (fun _ => rfl)) mr_sto_self
  refine ⟨g, fun j hj => by rw [g1 j hj, if_pos (Nat.zero_le _)], Nat.le_of_ble_eq_true rfl, hl, ?_⟩
  have hc : (mx_code 273).2 = mt_273 := rfl
  rw [hc]
  refine mr_op (c' := (1, [(0, .ref a), (1, .int v)], [.int 0], M)) rfl ?_
  refine mr_op (c' := (2, mx_sto 2 (.int 0) [(0, .ref a), (1, .int v)], [], M)) rfl ?_
  refine mr_op (c' := (3, mx_sto 2 (.int 0) [(0, .ref a), (1, .int v)], [.ref a], M)) rfl ?_
  refine mr_op (c' := (4, mx_sto 2 (.int 0) [(0, .ref a), (1, .int v)], [.int (Int32.ofNat n)], M)) (mr_alen ha hr rfl rfl) ?_
  refine mr_op (c' := (5, mx_sto 3 (.int (Int32.ofNat n)) (mx_sto 2 (.int 0) [(0, .ref a), (1, .int v)]), [], M)) rfl ?_
  exact g2
theorem mr_flL {d a n : Nat} {v : Int64} (ha : a < 1000) (hn : n < 2000) : ∀ (m k : Nat) (lv : mx_L) (M : mx_M) (f : Nat → Int64), m + k = n → M[a]? = some (.inr (3, n, .inr (.inl f))) → mx_lk 0 lv = some (.ref a) → mx_lk 1 lv = some (.long v) → mx_lk 3 lv = some (.int (Int32.ofNat k)) → mx_lk 4 lv = some (.int (Int32.ofNat n)) →
    ∃ g : Nat → Int64, (∀ j, j < n → g j = if k ≤ j then v else f j) ∧ ∃ z, mx_run (mx_Ev SA mx_code d) (mr_o SA) mt_272 z (6, lv, [], M) none (M.set a (.inr (3, n, .inr (.inl g)))) := by
  intro m
  induction m with
  | zero =>
    intro k lv M f hk hr h0 h1 h2 h3
    refine ⟨f, fun j hj => by rw [if_neg (by omega)], ?_⟩
    rw [mr_set_id hr]
    have hd : decide (Int32.ofNat n ≤ Int32.ofNat k) = true := decide_eq_true (Int32.le_iff_toInt_le.mpr (by rw [mr_len hn, mr_len (by omega)]; omega))
    refine mr_op (c' := (7, lv, [.int (Int32.ofNat k)], M)) (mr_ldi h2) ?_
    refine mr_op (c' := (9, lv, [.int (Int32.ofNat n), .int (Int32.ofNat k)], M)) (mr_ldi h3) ?_
    refine mr_op (c' := (22, lv, [], M)) (by show some (bif decide (Int32.ofNat n ≤ Int32.ofNat k) then _ else _, _, _, _) = _; rw [hd]; rfl) ?_
    exact mr_end rfl
  | succ m ih =>
    intro k lv M f hk hr h0 h1 h2 h3
    have hkn : (Int32.ofNat k).toInt = k := mr_len (by omega)
    have hadd : Int32.ofNat k + Int32.ofNat 1 = Int32.ofNat (k + 1) := Int32.toInt_inj.mp (by
      have h1 : (Int32.ofNat 1).toInt = 1 := rfl
      rw [sn_add (by rw [hkn, h1]; omega) (by rw [hkn, h1]; omega), hkn, h1, mr_len (by omega)]
      omega)
    obtain ⟨g, g1, g2⟩ := ih (k + 1) (mx_sto 3 (.int (Int32.ofNat k + Int32.ofNat 1)) lv) (M.set a (.inr (3, n, .inr (.inl (vp_updL f (Int32.ofNat k).toInt.toNat v))))) (vp_updL f (Int32.ofNat k).toInt.toNat v) (by omega) (List.getElem?_set_self (List.getElem?_eq_some_iff.mp hr).1)
      (mr_sto h0 (by decide) (fun _ => rfl)) (mr_sto h1 (by decide) (fun z => absurd z (by decide))) (by rw [hadd]; exact mr_sto_self) (mr_sto h3 (by decide) (fun _ => rfl))
    rw [List.set_set] at g2
    refine ⟨g, fun j hj => ?_, ?_⟩
    · rw [g1 j hj]
      unfold vp_updL
      rw [hkn]
      by_cases z1 : k + 1 ≤ j
      · rw [if_pos z1, if_pos (by omega)]
      · rw [if_neg z1]
        by_cases z2 : j = k
        · rw [if_pos (by omega), if_pos (by omega)]
        · rw [if_neg (by omega), if_neg (by omega)]
    · have hd : decide (Int32.ofNat n ≤ Int32.ofNat k) = false := decide_eq_false fun z => by
        have := Int32.le_iff_toInt_le.mp z
        rw [mr_len hn, hkn] at this
        omega
      refine mr_op (c' := (7, lv, [.int (Int32.ofNat k)], M)) (mr_ldi h2) ?_
      refine mr_op (c' := (9, lv, [.int (Int32.ofNat n), .int (Int32.ofNat k)], M)) (mr_ldi h3) ?_
      refine mr_op (c' := (12, lv, [], M)) (by show some (bif decide (Int32.ofNat n ≤ Int32.ofNat k) then _ else _, _, _, _) = _; rw [hd]; rfl) ?_
      refine mr_op (c' := (13, lv, [.ref a], M)) (mr_lda h0) ?_
      refine mr_op (c' := (14, lv, [.int (Int32.ofNat k), .ref a], M)) (mr_ldi h2) ?_
      refine mr_op (c' := (15, lv, [.long v, .int (Int32.ofNat k), .ref a], M)) (mr_ldl h1) ?_
      refine mr_op (c' := (16, lv, [], M.set a (.inr (3, n, .inr (.inl (vp_updL f (Int32.ofNat k).toInt.toNat v)))))) (mr_lst hr (by rw [hkn]; omega) (by rw [hkn]; omega)) ?_
      refine mr_op (c' := (19, mx_sto 3 (.int (Int32.ofNat k + Int32.ofNat 1)) lv, [], M.set a (.inr (3, n, .inr (.inl (vp_updL f (Int32.ofNat k).toInt.toNat v)))))) (by show mx_inc 3 1 _ = _; unfold mx_inc; simp only [h2]) ?_
      refine mr_op (c' := (6, mx_sto 3 (.int (Int32.ofNat k + Int32.ofNat 1)) lv, [], M.set a (.inr (3, n, .inr (.inl (vp_updL f (Int32.ofNat k).toInt.toNat v)))))) rfl ?_
      exact g2
theorem mr_272 {d a n : Nat} {v : Int64} {f : Nat → Int64} (hl : M.length ≤ 1000) (ha : a < 1000) (hn : n < 2000) (hr : M[a]? = some (.inr (3, n, .inr (.inl f)))) : ∃ g : Nat → Int64, (∀ j, j < n → g j = v) ∧ mx_Ev SA mx_code (d + 1) 272 [.ref a, .long v] M none (M.set a (.inr (3, n, .inr (.inl g)))) := by
  have h0 : mx_lk 0 [(0, Value.ref a), (1, .long v)] = some (.ref a) := rfl
  have h1 : mx_lk 1 [(0, Value.ref a), (1, .long v)] = some (.long v) := rfl
  obtain ⟨g, g1, g2⟩ := mr_flL (SA := SA) (d := d) (v := v) ha hn n 0 (mx_sto 4 (.int (Int32.ofNat n)) (mx_sto 3 (.int 0) [(0, .ref a), (1, .long v)])) M f (by omega) hr
    (mr_sto (mr_sto h0 (by decide) (fun _ => rfl)) (by decide) (fun _ => rfl)) (mr_sto (mr_sto h1 (by decide) (fun z => absurd z (by decide))) (by decide) (fun z => absurd z (by decide))) (mr_sto mr_sto_self (by decide) (fun _ => rfl)) mr_sto_self
  refine ⟨g, fun j hj => by rw [g1 j hj, if_pos (Nat.zero_le _)], Nat.le_of_ble_eq_true rfl, hl, ?_⟩
  have hc : (mx_code 272).2 = mt_272 := rfl
  rw [hc]
  refine mr_op (c' := (1, [(0, .ref a), (1, .long v)], [.int 0], M)) rfl ?_
  refine mr_op (c' := (2, mx_sto 3 (.int 0) [(0, .ref a), (1, .long v)], [], M)) rfl ?_
  refine mr_op (c' := (3, mx_sto 3 (.int 0) [(0, .ref a), (1, .long v)], [.ref a], M)) rfl ?_
  refine mr_op (c' := (4, mx_sto 3 (.int 0) [(0, .ref a), (1, .long v)], [.int (Int32.ofNat n)], M)) (mr_alen ha hr rfl rfl) ?_
  refine mr_op (c' := (6, mx_sto 4 (.int (Int32.ofNat n)) (mx_sto 3 (.int 0) [(0, .ref a), (1, .long v)]), [], M)) rfl ?_
  exact g2
/-! calls may be deeper -/
theorem mx_run_sub {call call' : Nat → List Value → mx_M → Option Value → mx_M → Prop} {op : mx_I → mx_C → Option mx_C} (hc : ∀ k as M r M', call k as M r M' → call' k as M r M') : ∀ {n : Nat} {c : mx_C}, mx_run call op t n c r M' → mx_run call' op t n c r M'
  | 0, _, h => h
  | n + 1, c, h => by
    obtain ⟨i, hf, h⟩ := h
    refine ⟨i, hf, ?_⟩
    rcases h with ⟨h1, c', h2, h3⟩ | ⟨h1, as, rest, r1, M1, h2, h3, h4, h5, h6, h7⟩ | h
    · exact Or.inl ⟨h1, c', h2, mx_run_sub hc h3⟩
    · exact Or.inr (Or.inl ⟨h1, as, rest, r1, M1, h2, h3, h4, h5, hc _ _ _ _ _ h6, mx_run_sub hc h7⟩)
    · exact Or.inr (Or.inr h)
theorem mx_Ev_up {SA : mx_S} {code : Nat → Nat × List (List (Nat × mx_I))} : ∀ (d k : Nat) (as : List Value) (M : mx_M) (r : Option Value) (M' : mx_M), mx_Ev SA code d k as M r M' → mx_Ev SA code (d + 1) k as M r M'
  | 0, _, _, _, _, _, h => h.elim
  | d + 1, k, as, M, r, M', h => by
    obtain ⟨h1, h2, n, h3⟩ := h
    exact ⟨h1, h2, n, mx_run_sub (mx_Ev_up d) h3⟩
theorem mx_Ev_le {SA : mx_S} {code : Nat → Nat × List (List (Nat × mx_I))} {d d' k : Nat} {as : List Value} {M M' : mx_M} {r : Option Value} (hd : d ≤ d') (h : mx_Ev SA code d k as M r M') : mx_Ev SA code d' k as M r M' := by
  induction hd with
  | refl => exact h
  | step _ ih => exact mx_Ev_up _ _ _ _ _ _ ih
end SXM
