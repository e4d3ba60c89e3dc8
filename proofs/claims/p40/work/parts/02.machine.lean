/-! THE SMALL MACHINE: a method's frame is (pc, locals, stack, memory); the memory is a list of cells, a reference is a cell's place in it (from 1000 on: a thing that nobody writes). An instruction is (what, a, b, list). -/
abbrev mx_E : Type := (Nat × List Value) ⊕ (Nat × vp_A)
abbrev mx_M : Type := List mx_E
abbrev mx_L : Type := List (Nat × Value)
abbrev mx_C : Type := Nat × mx_L × List Value × mx_M
abbrev mx_I : Type := Nat × Nat × Nat × List Nat
abbrev mx_G : Type := Nat × (Nat → Nat) × (Nat → ClassId) × va_G
abbrev mx_S : Type := Nat → Option (Nat × vp_A)
def mx_nth {α : Type} : List α → Nat → Option α
  | [], _ => none
  | a :: _, 0 => some a
  | _ :: l, n + 1 => mx_nth l n
theorem mx_nth_eq {α : Type} : ∀ (l : List α) (n : Nat), mx_nth l n = l[n]?
  | [], n => by simp [mx_nth]
  | a :: l, 0 => by simp [mx_nth]
  | a :: l, n + 1 => by simp [mx_nth, mx_nth_eq l n]
def mx_lk (i : Nat) : mx_L → Option Value
  | [] => none
  | (j, v) :: l => bif Nat.beq j i then some v else mx_lk i l
theorem mx_lk_mem {i : Nat} {v : Value} : ∀ {l : mx_L}, mx_lk i l = some v → (i, v) ∈ l
  | [], h => by simp [mx_lk] at h
  | (j, w) :: l, h => by
    unfold mx_lk at h
    cases hb : Nat.beq j i with
    | true =>
      rw [hb] at h
      simp only [cond_true, Option.some.injEq] at h
      have := Nat.eq_of_beq_eq_true hb
      subst this; subst h
      exact List.mem_cons_self
    | false =>
      rw [hb] at h
      simp only [cond_false] at h
      exact List.mem_cons_of_mem _ (mx_lk_mem h)
def mx_sto (i : Nat) (v : Value) (lv : mx_L) : mx_L := (i, v) :: lv.filter (fun q => !(q.1 == i) && !(q.1 + 1 == i && q.2.category == 2))
def mx_sto2 (i : Nat) (v : Value) (lv : mx_L) : mx_L := (i, v) :: lv.filter (fun q => !(q.1 == i) && (!(q.1 == i + 1) && !(q.1 + 1 == i && q.2.category == 2)))
/-- a reference's address -/
def mx_ad (G : mx_G) (q : Nat) : Nat := if q < 1000 then G.1 + q else G.2.1 (q - 1000)
/-- what the one static that is only carried holds: a reference, or null -/
def mx_fv (G : mx_G) : Value := match G.2.1 50 with
  | 0 => .null
  | n + 1 => .ref n
def mx_tr (G : mx_G) : Value → Value
  | .ref q => .ref (mx_ad G q)
  | .retAddr _ => mx_fv G
  | v => v
def mx_tq (G : mx_G) (q : Nat × Value) : Nat × Value := (q.1, mx_tr G q.2)
def mx_tE (G : mx_G) : mx_E → va_E
  | .inl (ci, fs) => .inr (ci, fs.map (mx_tr G))
  | .inr (t, x) => .inl (G.2.2.1 t, x)
def mx_W (G : mx_G) (M : mx_M) : va_W := M.mapIdx fun k e => (G.1 + k, mx_tE G e)
def mx_A (G : mx_G) : Nat → Prop := fun q => G.1 ≤ q
theorem mx_fv_cat (G : mx_G) : (mx_fv G).category = 1 := by
  unfold mx_fv
  split <;> rfl
theorem mx_tr_cat (G : mx_G) (v : Value) : (mx_tr G v).category = v.category := by
  cases v <;> first
    | rfl
    | exact mx_fv_cat G
theorem mx_ad_lt {G : mx_G} {q : Nat} (h : q < 1000) : mx_ad G q = G.1 + q := if_pos h
theorem mx_ad_ge {G : mx_G} {q : Nat} : mx_ad G (1000 + q) = G.2.1 q := by
  unfold mx_ad
  rw [if_neg (by omega), Nat.add_sub_cancel_left]
theorem mx_W_get {G : mx_G} {M : mx_M} {k : Nat} {e : mx_E} (h : M[k]? = some e) : (mx_W G M)[k]? = some (G.1 + k, mx_tE G e) := by
  simp [mx_W, List.getElem?_mapIdx, h]
theorem mx_W_of {G : mx_G} {M : mx_M} {k : Nat} {q : Nat × va_E} (h : (mx_W G M)[k]? = some q) : ∃ e, M[k]? = some e ∧ q = (G.1 + k, mx_tE G e) := by
  simp only [mx_W, List.getElem?_mapIdx] at h
  cases hm : M[k]? with
  | none => rw [hm] at h; cases h
  | some e => rw [hm] at h; exact ⟨e, rfl, (Option.some.inj h).symm⟩
theorem mx_W_set {G : mx_G} {M : mx_M} {k : Nat} {e : mx_E} : (mx_W G M).set k (G.1 + k, mx_tE G e) = mx_W G (M.set k e) := by
  apply List.ext_getElem?
  intro i
  simp only [mx_W, List.getElem?_set, List.getElem?_mapIdx, List.length_mapIdx]
  by_cases h : k = i
  · subst h
    by_cases h2 : k < M.length <;> simp [h2]
  · simp [h]
theorem mx_W_app {G : mx_G} {M : mx_M} {e : mx_E} : mx_W G (M ++ [e]) = mx_W G M ++ [(G.1 + M.length, mx_tE G e)] := by
  simp [mx_W, List.mapIdx_append]
theorem mx_W_D (G : mx_G) (M : mx_M) : va_D (mx_A G) (mx_W G M) := by
  refine ⟨fun i j p q hi hj h => ?_, fun k q hk => ?_⟩
  · obtain ⟨e1, -, rfl⟩ := mx_W_of hi
    obtain ⟨e2, -, rfl⟩ := mx_W_of hj
    have h : G.1 + i = G.1 + j := h
    omega
  · obtain ⟨e1, -, rfl⟩ := mx_W_of hk
    show G.1 ≤ G.1 + k
    omega
def mx_ty : Nat → FieldType
  | 0 => .int
  | 1 => .byte
  | 2 => .boolean
  | _ => .long
def mx_tys (G : mx_G) : List (ClassId × FieldType) := [(G.2.2.1 0, .int), (G.2.2.1 1, .byte), (G.2.2.1 2, .boolean), (G.2.2.1 3, .long)]
theorem mx_tys_at (G : mx_G) {t : Nat} (h : t < 4) : (mx_tys G)[t]? = some (G.2.2.1 t, mx_ty t) := by
  match t, h with
  | 0, _ => rfl
  | 1, _ => rfl
  | 2, _ => rfl
  | 3, _ => rfl
def mx_con (x : vp_A) (j : Nat) : Value := match x.2 with
  | .inl f => .int (f j)
  | .inr (.inl f) => .long (f j)
  | _ => .null
theorem mx_con_tr (G : mx_G) (x : vp_A) (j : Nat) : mx_tr G (mx_con x j) = mx_con x j := by
  obtain ⟨n, f | f | f | f | f⟩ := x <;> rfl
def mx_szE : mx_E → Nat
  | .inl (_, fs) => fs.length
  | .inr (_, x) => x.1
def mx_sz : mx_M → Nat
  | [] => 0
  | e :: M => mx_szE e + mx_sz M
theorem mx_sz_app (M : mx_M) (e : mx_E) : mx_sz (M ++ [e]) = mx_sz M + mx_szE e := by
  induction M with
  | nil => simp [mx_sz]
  | cons a M ih => simp only [List.cons_append, mx_sz, ih]; omega
theorem mx_sz_set : ∀ {M : mx_M} {k : Nat} {e e' : mx_E}, M[k]? = some e → mx_szE e' = mx_szE e → mx_sz (M.set k e') = mx_sz M
  | [], k, e, e', h, _ => by simp at h
  | a :: M, 0, e, e', h, hs => by
    simp at h
    subst h
    simp [mx_sz, hs]
  | a :: M, k + 1, e, e', h, hs => by
    simp at h
    simp only [List.set_cons_succ, mx_sz]
    rw [mx_sz_set h hs]
/-- static fields: class, name, descriptor, what it holds -/
abbrev mx_F : Type := String × String × String × Value
/-- what holds of all that nobody writes: the tables, static fields, static arrays, strings -/
def mx_Env (G : mx_G) (SA : mx_S) (SF : List mx_F) (SR : List (String × Nat × String)) (U : State) (H : Heap) : Prop :=
  va_K G.2.2.2 vwCl (mx_tys G) U ∧ (∀ w ∈ mx_NT, va_Nw w U) ∧
  (∀ (j t : Nat) (x : vp_A), SA j = some (t, x) → t < 4 ∧ va_T (mx_ty t) (G.2.1 j) x.1 (mx_con x) (mx_A G) U H) ∧
  (∀ q ∈ SF, va_Z q.1 q.2.1 q.2.2.1 (mx_tr G q.2.2.2) (mx_A G) U H) ∧
  ∀ (i : Nat) (q : String × Nat × String), SR[i]? = some q → vk_R q.1 q.2.1 q.2.2 (G.2.1 (100 + i)) U ∧ va_O "java/lang/String" (G.2.1 (100 + i)) (mx_A G) U H ∧ va_OF "java/lang/String" "coder" "B" (.int 0) (G.2.1 (100 + i)) (mx_A G) U H ∧ va_OF "java/lang/String" "value" "[B" (.ref (G.2.1 (200 + i))) (G.2.1 (100 + i)) (mx_A G) U H
theorem mx_nt_kept {w : Cond} (hw : w ∈ mx_NT) {s U : State} (hW : s.WarmedH U.vm) (h : va_Nw w s) : va_Nw w U := by
  have h2 := (List.mem_filter.mp hw).2
  cases w <;> first
    | exact va_Nw.warmF hW h
    | exact va_Nw.warmM hW h
    | cases h2
theorem mx_nt_same {w : Cond} (hw : w ∈ mx_NT) {s U : State} (hv : s.vm = U.vm) (h : va_Nw w s) : va_Nw w U := by
  have h2 := (List.mem_filter.mp hw).2
  cases w <;> first
    | exact va_Nw.same rfl hv h
    | cases h2
theorem mx_Env_kept {G : mx_G} {SA : mx_S} {SF : List mx_F} {SR : List (String × Nat × String)} {s U : State} {H1 : Heap} (h : mx_Env G SA SF SR s s.heap) (hW : s.WarmedH U.vm) (hq : ∀ a : Nat, a < s.heap.size → ¬ mx_A G a → H1[a]? = s.heap[a]?) : mx_Env G SA SF SR U H1 :=
  ⟨va_K.moved hW.alike h.1, fun w hw => mx_nt_kept hw hW (h.2.1 w hw), fun j t x hx => ⟨(h.2.2.1 j t x hx).1, ((h.2.2.1 j t x hx).2.kept hq).moved hW.alike⟩, fun q hx => ((h.2.2.2.1 q hx).kept hq).moved hW.alike,
    fun i q hx => ⟨vk_R.warm hW (h.2.2.2.2 i q hx).1, ((h.2.2.2.2 i q hx).2.1.kept hq).moved hW.alike, ((h.2.2.2.2 i q hx).2.2.1.kept hq).moved hW.alike, ((h.2.2.2.2 i q hx).2.2.2.kept hq).moved hW.alike⟩⟩
theorem mx_Env_same {G : mx_G} {SA : mx_S} {SF : List mx_F} {SR : List (String × Nat × String)} {s U : State} {H : Heap} (h : mx_Env G SA SF SR s H) (hv : s.vm = U.vm) : mx_Env G SA SF SR U H := by
  have ha : s.vm.Alike U.vm := by rw [hv]; exact Vm.Alike.refl _
  exact ⟨va_K.moved ha h.1, fun w hw => mx_nt_same hw hv (h.2.1 w hw), fun j t x hx => ⟨(h.2.2.1 j t x hx).1, (h.2.2.1 j t x hx).2.moved ha⟩, fun q hx => (h.2.2.2.1 q hx).moved ha,
    fun i q hx => ⟨vk_R.same hv.symm (h.2.2.2.2 i q hx).1, (h.2.2.2.2 i q hx).2.1.moved ha, (h.2.2.2.2 i q hx).2.2.1.moved ha, (h.2.2.2.2 i q hx).2.2.2.moved ha⟩⟩
