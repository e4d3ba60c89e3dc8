/-! THE SMALL MACHINE RUNS -/
def mx_find (pc : Nat) : List (Nat × mx_I) → Option mx_I
  | [] => none
  | (k, i) :: r => bif Nat.beq k pc then some i else mx_find pc r
def mx_fetch (t : List (List (Nat × mx_I))) (pc : Nat) : Option mx_I := match mx_nth t (pc / 16) with
  | some ch => mx_find pc ch
  | none => none
theorem mx_find_mem {pc : Nat} {i : mx_I} : ∀ {l : List (Nat × mx_I)}, mx_find pc l = some i → (pc, i) ∈ l
  | [], h => by simp [mx_find] at h
  | (k, j) :: r, h => by
    unfold mx_find at h
    cases hb : Nat.beq k pc with
    | true =>
      rw [hb] at h
      have := Nat.eq_of_beq_eq_true hb
      subst this
      cases h
      exact List.mem_cons_self
    | false =>
      rw [hb] at h
      exact List.mem_cons_of_mem _ (mx_find_mem h)
theorem mx_fetch_mem {t : List (List (Nat × mx_I))} {pc : Nat} {i : mx_I} (h : mx_fetch t pc = some i) : ∃ ch ∈ t, (pc, i) ∈ ch := by
  unfold mx_fetch at h
  split at h
  · next ch hch => exact ⟨ch, List.mem_of_getElem? (by rw [← mx_nth_eq]; exact hch), mx_find_mem h⟩
  · cases h
/-- what a method's answer must fit: 0 any int, 1 a byte, 2 a boolean, 3 a char -/
def mx_fit (a : Nat) (v : Int32) : Bool := match a with
  | 0 => true
  | 1 => vp_nar .byte v == v
  | 2 => vp_nar .boolean v == v
  | _ => vp_nar .char v == v
def mx_ret (i : mx_I) (st : List Value) : Option (Option Value) := match i.1 with
  | 80 => (match st with
    | [.int v] => bif mx_fit i.2.1 v then some (some (.int v)) else none
    | _ => none)
  | 81 => (match st with
    | [.long v] => some (some (.long v))
    | _ => none)
  | 82 => (match st with
    | [.ref v] => some (some (.ref v))
    | _ => none)
  | 83 => (match st with
    | [] => some none
    | _ => none)
  | _ => none
/-- the receiver is of the class that is asked for (98: any, 99: a string) -/
def mx_rcv1 (ci : Nat) (as : List Value) (M : mx_M) : Bool := match as with
  | .ref b :: _ => bif Nat.beq ci 98 then true else bif Nat.beq ci 99 then Nat.ble 1100 b && Nat.blt b 1114 else (match mx_nth M b with
    | some (.inl (cj, _)) => Nat.beq cj ci
    | _ => false)
  | _ => false
def mx_rcv (L : List Nat) (as : List Value) (M : mx_M) : Bool := match L with
  | [] => true
  | ci :: _ => mx_rcv1 ci as M
def mx_one (call : Nat → List Value → mx_M → Option Value → mx_M → Prop) (op : mx_I → mx_C → Option mx_C) (i : mx_I) (c : mx_C) (K : mx_C → Prop) (Kr : Option Value → mx_M → Prop) : Prop :=
  (i.1 < 70 ∧ ∃ c', op i c = some c' ∧ K c') ∨
  (i.1 = 70 ∧ ∃ (as rest : List Value) (r : Option Value) (M' : mx_M), c.2.2.1 = as.reverse ++ rest ∧ as.length = i.2.2.1 ∧ mx_cat rest ≤ 8 ∧ mx_rcv i.2.2.2 as c.2.2.2 = true ∧ call i.2.1 as c.2.2.2 r M' ∧ K (c.1 + 3, c.2.1, r.toList ++ rest, M')) ∨
  (80 ≤ i.1 ∧ ∃ r, mx_ret i c.2.2.1 = some r ∧ Kr r c.2.2.2)
def mx_run (call : Nat → List Value → mx_M → Option Value → mx_M → Prop) (op : mx_I → mx_C → Option mx_C) (t : List (List (Nat × mx_I))) : Nat → mx_C → Option Value → mx_M → Prop
  | 0, _, _, _ => False
  | n + 1, c, r, M => ∃ i, mx_fetch t c.1 = some i ∧ mx_one call op i c (fun c' => mx_run call op t n c' r M) (fun r' M' => r' = r ∧ M' = M)
/-- a method run from its start to its end, with calls less than d deep: the method's number, its arguments, the memory; what it answers, the memory behind it -/
def mx_Ev (SA : mx_S) (code : Nat → Nat × List (List (Nat × mx_I))) : Nat → Nat → List Value → mx_M → Option Value → mx_M → Prop
  | 0, _, _, _, _, _ => False
  | d + 1, k, as, M, r, M' => mx_cat as ≤ (code k).1 ∧ M.length ≤ 1000 ∧ ∃ n, mx_run (mx_Ev SA code d) (mx_op SA mx_SF mx_DF 14) (code k).2 n (0, lv_args 0 as, [], M) r M'
/-! memory only grows -/
theorem mm_dup {c c' : mx_C} (h : mx_dup c = some c') : c'.2.2.2 = c.2.2.2 := by
  unfold mx_dup at h
  split at h
  · next v st hst =>
    cases hb : mx_is2 v with
    | true => rw [hb] at h; cases h
    | false => rw [hb] at h; cases h; rfl
  · cases h
theorem mm_pop {c c' : mx_C} (h : mx_pop c = some c') : c'.2.2.2 = c.2.2.2 := by
  unfold mx_pop at h
  split at h
  · next v st hst =>
    cases hb : mx_is2 v with
    | true => rw [hb] at h; cases h
    | false => rw [hb] at h; cases h; rfl
  · cases h
theorem mm_pop2 {c c' : mx_C} (h : mx_pop2 c = some c') : c'.2.2.2 = c.2.2.2 := by
  unfold mx_pop2 at h
  split at h
  · next v st hst =>
    cases hb : mx_is2 v with
    | false => rw [hb] at h; cases h
    | true => rw [hb] at h; cases h; rfl
  · cases h
theorem mm_dup2 {c c' : mx_C} (h : mx_dup2 c = some c') : c'.2.2.2 = c.2.2.2 := by
  unfold mx_dup2 at h
  split at h
  · next v w st hst =>
    cases hb : mx_is2 v || mx_is2 w with
    | true => rw [hb] at h; cases h
    | false => rw [hb] at h; cases h; rfl
  · cases h
theorem mm_alen {SA : mx_S} {c c' : mx_C} (h : mx_alen SA c = some c') : c'.2.2.2 = c.2.2.2 := by
  unfold mx_alen at h
  split at h
  · split at h
    · cases h; rfl
    · cases h
  · cases h
theorem mm_obj {c c' : mx_C} (h : mx_obj c = some c') : c'.2.2.2 = c.2.2.2 := by
  unfold mx_obj at h
  split at h
  · next q st hst =>
    cases hb : Nat.ble (mx_cat st) 8 with
    | true => rw [hb] at h; cases h; rfl
    | false => rw [hb] at h; cases h
  · cases h
theorem mm_push {v : Value} {n : Nat} {c c' : mx_C} (h : mx_push v n c = some c') : c'.2.2.2 = c.2.2.2 := by
  have h := Option.some.inj h
  subst h
  rfl
theorem mm_if {f : Int32 → Bool} {t : Nat} {c c' : mx_C} (h : mx_if f t c = some c') : c'.2.2.2 = c.2.2.2 := by
  unfold mx_if at h
  split at h
  · cases h; rfl
  · cases h
theorem mm_if2 {f : Int32 → Int32 → Bool} {t : Nat} {c c' : mx_C} (h : mx_if2 f t c = some c') : c'.2.2.2 = c.2.2.2 := by
  unfold mx_if2 at h
  split at h
  · cases h; rfl
  · cases h
theorem mm_sw {f : Int32 → Nat} {c c' : mx_C} (h : mx_sw f c = some c') : c'.2.2.2 = c.2.2.2 := by
  unfold mx_sw at h
  split at h
  · cases h; rfl
  · cases h
theorem mm_inc {a d : Nat} {c c' : mx_C} (h : mx_inc a d c = some c') : c'.2.2.2 = c.2.2.2 := by
  unfold mx_inc at h
  split at h
  · cases h; rfl
  · cases h
/-- how an instruction may change the memory -/
def mx_Mv (M M' : mx_M) : Prop := M' = M ∨ (∃ (q : Nat) (e0 e1 : mx_E), M[q]? = some e0 ∧ mx_szE e1 = mx_szE e0 ∧ M' = M.set q e1) ∨ (∃ e : mx_E, M.length < 999 ∧ M' = M ++ [e])
theorem mx_Mv.mono {M M' : mx_M} (h : mx_Mv M M') : (M.length ≤ M'.length ∧ mx_sz M ≤ mx_sz M') ∧ (M.length ≤ 1000 → M'.length ≤ 1000) := by
  rcases h with rfl | ⟨q, e0, e1, h0, hs, rfl⟩ | ⟨e, hl, rfl⟩
  · exact ⟨⟨Nat.le_refl _, Nat.le_refl _⟩, id⟩
  · rw [List.length_set, mx_sz_set h0 hs]
    exact ⟨⟨Nat.le_refl _, Nat.le_refl _⟩, id⟩
  · rw [mx_sz_app, List.length_append]
    exact ⟨⟨by simp, by omega⟩, fun _ => by simp; omega⟩
theorem mx_op_mv {SA : mx_S} {SF : List mx_F} {DF : List (List Value)} {N : Nat} {i : mx_I} {c c' : mx_C} (h : mx_op SA SF DF N i c = some c') : mx_Mv c.2.2.2 c'.2.2.2 := by
  unfold mx_op at h
  split at h
  · exact Or.inl (mm_push h)
  · exact Or.inl (mm_push h)
  · obtain ⟨v, -, -, rfl⟩ := mx_ldi_inv h; exact Or.inl rfl
  · obtain ⟨v, -, -, rfl⟩ := mx_ldl_inv h; exact Or.inl rfl
  · obtain ⟨v, -, -, rfl⟩ := mx_lda_inv h; exact Or.inl rfl
  · obtain ⟨v, st, -, -, rfl⟩ := mx_sti_inv h; exact Or.inl rfl
  · obtain ⟨v, st, -, -, rfl⟩ := mx_stl_inv h; exact Or.inl rfl
  · obtain ⟨v, st, -, -, rfl⟩ := mx_sta_inv h; exact Or.inl rfl
  · exact Or.inl (mm_inc h)
  · obtain ⟨x, z, v, st, -, -, rfl⟩ := mx_ii_inv h; exact Or.inl rfl
  · obtain ⟨x, z, v, st, -, -, rfl⟩ := mx_ii_inv h; exact Or.inl rfl
  · obtain ⟨x, z, v, st, -, -, rfl⟩ := mx_ii_inv h; exact Or.inl rfl
  · obtain ⟨x, z, v, st, -, -, rfl⟩ := mx_ii_inv h; exact Or.inl rfl
  · obtain ⟨x, z, v, st, -, -, rfl⟩ := mx_ii_inv h; exact Or.inl rfl
  · obtain ⟨x, z, v, st, -, -, rfl⟩ := mx_ii_inv h; exact Or.inl rfl
  · obtain ⟨x, z, v, st, -, -, rfl⟩ := mx_ii_inv h; exact Or.inl rfl
  · obtain ⟨x, st, -, rfl⟩ := mx_i1_inv h; exact Or.inl rfl
  · obtain ⟨x, z, v, st, -, -, rfl⟩ := mx_ii_inv h; exact Or.inl rfl
  · obtain ⟨x, z, v, st, -, -, rfl⟩ := mx_ii_inv h; exact Or.inl rfl
  · obtain ⟨x, z, v, st, -, -, rfl⟩ := mx_ll_inv h; exact Or.inl rfl
  · obtain ⟨x, z, v, st, -, -, rfl⟩ := mx_ll_inv h; exact Or.inl rfl
  · obtain ⟨x, z, v, st, -, -, rfl⟩ := mx_ll_inv h; exact Or.inl rfl
  · obtain ⟨x, z, v, st, -, -, rfl⟩ := mx_ll_inv h; exact Or.inl rfl
  · obtain ⟨x, z, v, st, -, -, rfl⟩ := mx_ll_inv h; exact Or.inl rfl
  · obtain ⟨x, z, v, st, -, -, rfl⟩ := mx_ll_inv h; exact Or.inl rfl
  · obtain ⟨x, z, st, -, rfl⟩ := mx_li_inv h; exact Or.inl rfl
  · obtain ⟨x, z, st, -, rfl⟩ := mx_li_inv h; exact Or.inl rfl
  · obtain ⟨x, z, v, st, -, -, rfl⟩ := mx_ll_inv h; exact Or.inl rfl
  · obtain ⟨x, st, -, rfl⟩ := mx_i1_inv h; exact Or.inl rfl
  · obtain ⟨x, st, -, rfl⟩ := mx_l1_inv h; exact Or.inl rfl
  · obtain ⟨x, st, -, rfl⟩ := mx_i1_inv h; exact Or.inl rfl
  · obtain ⟨x, st, -, rfl⟩ := mx_i1_inv h; exact Or.inl rfl
  · obtain ⟨x, st, -, rfl⟩ := mx_i1_inv h; exact Or.inl rfl
  · exact Or.inl (mm_dup h)
  · exact Or.inl (mm_pop h)
  · exact Or.inl (mm_dup2 h)
  · exact Or.inl (mm_if h)
  · exact Or.inl (mm_if h)
  · exact Or.inl (mm_if h)
  · exact Or.inl (mm_if h)
  · exact Or.inl (mm_if h)
  · exact Or.inl (mm_if h)
  · exact Or.inl (mm_if2 h)
  · exact Or.inl (mm_if2 h)
  · exact Or.inl (mm_if2 h)
  · exact Or.inl (mm_if2 h)
  · exact Or.inl (mm_if2 h)
  · exact Or.inl (mm_if2 h)
  · cases h; exact Or.inl rfl
  · exact Or.inl (mm_sw h)
  · exact Or.inl (mm_sw h)
  · obtain ⟨q, st, fs, v, -, -, -, rfl⟩ := mx_get_inv h; exact Or.inl rfl
  · obtain ⟨i, st, -, -, rfl⟩ := mx_gstr_inv h; exact Or.inl rfl
  · obtain ⟨q, st, fs, v, -, h1, -, rfl⟩ := mx_put_inv h; exact Or.inr (Or.inl ⟨_, _, _, h1, by simp [mx_szE], rfl⟩)
  · obtain ⟨q, st, fs, v, -, h1, -, rfl⟩ := mx_putF_inv h; exact Or.inr (Or.inl ⟨_, _, _, h1, by simp [mx_szE], rfl⟩)
  · split at h
    · exact Or.inl (mm_push h)
    · cases h
  · cases hb : Nat.blt i.2.1 N with
    | true => rw [hb] at h; exact Or.inl (mm_push h)
    | false => rw [hb] at h; cases h
  · exact Or.inl (mm_alen h)
  · obtain ⟨i, q, st, x, -, -, -, rfl⟩ := mx_ald_inv h; exact Or.inl rfl
  · obtain ⟨v, i, q, st, n, f, -, h1, -, rfl⟩ := mx_ast_inv h; refine Or.inr (Or.inl ⟨_, _, _, h1, ?_, rfl⟩); rfl
  · obtain ⟨v, i, q, st, n, f, -, h1, -, rfl⟩ := mx_last_inv h; refine Or.inr (Or.inl ⟨_, _, _, h1, ?_, rfl⟩); rfl
  · split at h
    · obtain ⟨hl, rfl⟩ := mx_new_inv h; exact Or.inr (Or.inr ⟨_, hl, rfl⟩)
    · cases h
  · obtain ⟨n, st, -, hl, -, rfl⟩ := mx_newa_inv h; exact Or.inr (Or.inr ⟨_, hl, rfl⟩)
  · exact Or.inl (mm_obj h)
  · obtain ⟨n, dp, q1, sp, q0, st, f, g, -, -, h1, -, -, -, -, -, -, rfl⟩ := mx_copy_inv h; refine Or.inr (Or.inl ⟨_, _, _, mx_ia_inv h1, ?_, rfl⟩); rfl
  · obtain ⟨x, y, st, -, -, rfl⟩ := mx_mm_inv h; exact Or.inl rfl
  · obtain ⟨x, y, st, -, -, rfl⟩ := mx_mm_inv h; exact Or.inl rfl
  · exact Or.inl (mm_pop2 h)
  · cases h
theorem mx_op_mono {SA : mx_S} {SF : List mx_F} {DF : List (List Value)} {N : Nat} {i : mx_I} {c c' : mx_C} (h : mx_op SA SF DF N i c = some c') : (c.2.2.2.length ≤ c'.2.2.2.length ∧ mx_sz c.2.2.2 ≤ mx_sz c'.2.2.2) ∧ (c.2.2.2.length ≤ 1000 → c'.2.2.2.length ≤ 1000) := (mx_op_mv h).mono
def mx_Gr (M M' : mx_M) : Prop := (M.length ≤ M'.length ∧ mx_sz M ≤ mx_sz M') ∧ (M.length ≤ 1000 → M'.length ≤ 1000)
theorem mx_Gr.trans {M M1 M2 : mx_M} (h : mx_Gr M M1) (h2 : mx_Gr M1 M2) : mx_Gr M M2 := ⟨⟨Nat.le_trans h.1.1 h2.1.1, Nat.le_trans h.1.2 h2.1.2⟩, fun z => h2.2 (h.2 z)⟩
theorem mx_Gr.rf (M : mx_M) : mx_Gr M M := ⟨⟨Nat.le_refl _, Nat.le_refl _⟩, id⟩
theorem mx_run_mono {call : Nat → List Value → mx_M → Option Value → mx_M → Prop} {SA : mx_S} {SF : List mx_F} {DF : List (List Value)} {N : Nat} {t : List (List (Nat × mx_I))} (hc : ∀ k as M r M', call k as M r M' → mx_Gr M M') {r : Option Value} {Mf : mx_M} : ∀ {n : Nat} {c : mx_C}, mx_run call (mx_op SA SF DF N) t n c r Mf → mx_Gr c.2.2.2 Mf
  | 0, _, h => h.elim
  | n + 1, c, h => by
    obtain ⟨i, -, h | h | h⟩ := h
    · obtain ⟨-, c', h1, h2⟩ := h
      exact mx_Gr.trans (mx_op_mono h1) (mx_run_mono hc h2)
    · obtain ⟨-, as, rest, r1, M1, -, -, -, -, h1, h2⟩ := h
      exact mx_Gr.trans (hc _ _ _ _ _ h1) (mx_run_mono hc h2)
    · obtain ⟨-, r1, -, rfl, h2⟩ := h
      rw [h2]
      exact mx_Gr.rf _
theorem mx_Ev_mono {SA : mx_S} {code : Nat → Nat × List (List (Nat × mx_I))} : ∀ (d k : Nat) (as : List Value) (M : mx_M) (r : Option Value) (M' : mx_M), mx_Ev SA code d k as M r M' → mx_Gr M M'
  | 0, _, _, _, _, _, h => h.elim
  | d + 1, k, as, M, r, M', h => by
    obtain ⟨-, -, n, h⟩ := h
    exact mx_run_mono (mx_Ev_mono d) h
