/-! THE SMALL MACHINE'S INSTRUCTIONS ARE THE MACHINE'S -/
def mx_Ctx (bytes : ByteArray) (nL : Nat) (y : MethodName) (G : mx_G) (SA : mx_S) (p : Program) (R : Room) (s : State) (m : MethodId) (args : Array Value) (meth : Method) (c0 : Code) : Prop :=
  p.tables.exec = Jvm.exec ∧ c0.code = bytes ∧ c0.maxLocals = nL ∧ s.vm.findClass y.cls = some m.cls ∧ (∀ w ∈ mx_GT, w.before args s = true) ∧ (y.name = "<init>" → meth.name = "<init>") ∧ mx_Env G SA mx_SF mx_SR s s.heap ∧ G.1 ≤ s.heap.size ∧ 1 ≤ R.frames ∧ 40 ≤ R.locals
/-- from here the frame comes to its end -/
def mx_Go (nL : Nat) (G : mx_G) (p : Program) (l : Launch) (e : Env) (R : Room) (s : State) (m : MethodId) (args : Array Value) (below : List Frame) (meth : Method) (c0 : Code) (Q : State → Prop) (L0 S0 : Nat) (c : mx_C) : Prop :=
  ∀ (H : Heap) (locs : List Loc) (ls : Array Slot), c.2.2.2.length ≤ 1000 → H.size = G.1 + c.2.2.2.length → va_P G.2.2.2 vwCl (mx_W G c.2.2.2) H → va_S (mx_A G) s.heap H locs → lv_has ls nL (c.2.1.map (mx_tq G)) → W p l e R s m args below meth c0 H locs (c.2.2.2.length - L0) (mx_sz c.2.2.2 - S0) Q (F0 m c.1 ls (c.2.2.1.map (mx_tr G)))
def mx_Snd (bytes : ByteArray) (nL : Nat) (y : MethodName) (pc : Nat) (i : mx_I) : Prop :=
  ∀ (G : mx_G) (SA : mx_S) (p : Program) (l : Launch) (e : Env) (R : Room) (s : State) (m : MethodId) (args : Array Value) (below : List Frame) (meth : Method) (c0 : Code) (Q : State → Prop) (L0 S0 : Nat), mx_Ctx bytes nL y G SA p R s m args meth c0 →
    ∀ c c' : mx_C, c.1 = pc → L0 ≤ c.2.2.2.length → S0 ≤ mx_sz c.2.2.2 → c'.2.2.2.length ≤ R.cells + L0 → mx_sz c'.2.2.2 ≤ R.slots + S0 → mx_op SA mx_SF mx_DF 14 i c = some c' → mx_Go nL G p l e R s m args below meth c0 Q L0 S0 c' → mx_Go nL G p l e R s m args below meth c0 Q L0 S0 c
/-- a row that changes the top of the stack alone -/
def mx_Row (bytes : ByteArray) (pc pc' : Nat) (top top' : List Value) : Prop :=
  ∀ (p : Program) (l : Launch) (e : Env) (R : Room) (s : State) (m : MethodId) (args : Array Value) (below : List Frame) (meth : Method) (c0 : Code) (Q : State → Prop) (H : Heap) (locs : List Loc) (cells slots : Nat) (ls : Array Slot) (rest : List Value), p.tables.exec = Jvm.exec → c0.code = bytes →
    W p l e R s m args below meth c0 H locs cells slots Q (F0 m pc' ls (top' ++ rest)) → W p l e R s m args below meth c0 H locs cells slots Q (F0 m pc ls (top ++ rest))
theorem ms_plain {bytes : ByteArray} {nL : Nat} {y : MethodName} {pc : Nat} {i : mx_I}
    (h : ∀ (SA : mx_S) (c c' : mx_C), mx_op SA mx_SF mx_DF 14 i c = some c' → c.1 = pc → ∃ top top' rest : List Value, c.2.2.1 = top ++ rest ∧ c'.2.2.1 = top' ++ rest ∧ c'.2.1 = c.2.1 ∧ c'.2.2.2 = c.2.2.2 ∧ ∀ G : mx_G, mx_Row bytes pc c'.1 (top.map (mx_tr G)) (top'.map (mx_tr G))) : mx_Snd bytes nL y pc i := by
  intro G SA p l e R s m args below meth c0 Q L0 S0 K c c' hpc _ _ _ _ hop hgo H locs ls h1 h2 hP hS hv
  obtain ⟨top, top', rest, e1, e2, e3, e4, row⟩ := h SA c c' hop hpc
  rw [hpc, e1, List.map_append]
  refine row G p l e R s m args below meth c0 Q H locs _ _ ls _ K.1 K.2.1 ?_
  have g := hgo H locs ls
  rw [e2, e3, e4, List.map_append] at g
  exact g h1 h2 hP hS hv
section MSV
variable {bytes : ByteArray} {nL : Nat} {y : MethodName} {pc : Nat}
/-- a push -/
theorem ms_push {i : mx_I} {v : Value} {n : Nat} (hi : ∀ (SA : mx_S) (c : mx_C), mx_op SA mx_SF mx_DF 14 i c = mx_push v n c) (row : ∀ G : mx_G, mx_Row bytes pc (pc + n) [] [mx_tr G v]) : mx_Snd bytes nL y pc i := by
  refine ms_plain fun SA c c' hop hpc => ⟨[], [v], c.2.2.1, rfl, ?_, ?_, ?_, fun G => ?_⟩ <;> (rw [hi] at hop; have h := Option.some.inj hop; subst h)
  · rfl
  · rfl
  · rfl
  · subst hpc
    exact row G
theorem ms_iconst {a : Nat} {L : List Nat} {n : Int} (hd : decode bytes pc = .ok (.iconst n, 1)) (hv : Int32.ofInt n = Int32.ofNat a) : mx_Snd bytes nL y pc (0, a, 1, L) :=
  ms_push (v := .int (Int32.ofNat a)) (n := 1) (fun _ _ => rfl) fun _ _ _ _ _ _ _ _ _ _ _ _ _ _ _ _ _ _ hx hb k => lv_iconst hx hb hd hv k
theorem ms_bipush {a : Nat} {L : List Nat} {n : Int} (hd : decode bytes pc = .ok (.bipush n, 2)) (hv : (Int8.ofInt n).toInt32 = Int32.ofNat a) : mx_Snd bytes nL y pc (0, a, 2, L) :=
  ms_push (v := .int (Int32.ofNat a)) (n := 2) (fun _ _ => rfl) fun _ _ _ _ _ _ _ _ _ _ _ _ _ _ _ _ _ _ hx hb k => lv_bipush hx hb hd hv k
theorem ms_sipush {a : Nat} {L : List Nat} {n : Int} (hd : decode bytes pc = .ok (.sipush n, 3)) (hv : (Int16.ofInt n).toInt32 = Int32.ofNat a) : mx_Snd bytes nL y pc (0, a, 3, L) :=
  ms_push (v := .int (Int32.ofNat a)) (n := 3) (fun _ _ => rfl) fun _ _ _ _ _ _ _ _ _ _ _ _ _ _ _ _ _ _ hx hb k => lv_sipush hx hb hd hv k
theorem ms_lconst {a : Nat} {L : List Nat} {n : Fin 2} (hd : decode bytes pc = .ok (.lconst n, 1)) (hv : Int64.ofNat (n : Nat) = Int64.ofNat a) : mx_Snd bytes nL y pc (1, a, 1, L) :=
  ms_push (v := .long (Int64.ofNat a)) (n := 1) (fun _ _ => rfl) fun _ _ _ _ _ _ _ _ _ _ _ _ _ _ _ _ _ _ hx hb k => lv_lconst hx hb hd hv k
/-- a constant of the pool -/
theorem ms_pool {i : mx_I} {v : Value} {n : Nat} (hi : ∀ (SA : mx_S) (c : mx_C), mx_op SA mx_SF mx_DF 14 i c = mx_push v n c) (hv : ∀ G : mx_G, mx_tr G v = v)
    (row : ∀ (p : Program) (l : Launch) (e : Env) (R : Room) (s : State) (m : MethodId) (args : Array Value) (below : List Frame) (meth : Method) (c0 : Code) (Q : State → Prop) (H : Heap) (locs : List Loc) (cells slots : Nat) (ls : Array Slot) (rest : List Value), p.tables.exec = Jvm.exec → c0.code = bytes → s.vm.findClass y.cls = some m.cls → (∀ w ∈ mx_GT, w.before args s = true) →
      W p l e R s m args below meth c0 H locs cells slots Q (F0 m (pc + n) ls (v :: rest)) → W p l e R s m args below meth c0 H locs cells slots Q (F0 m pc ls rest)) : mx_Snd bytes nL y pc i := by
  intro G SA p l e R s m args below meth c0 Q L0 S0 K c c' hpc _ _ _ _ hop hgo H locs ls h1 h2 hP hS hl
  rw [hi] at hop
  have h := Option.some.inj hop
  subst h
  rw [hpc]
  refine row p l e R s m args below meth c0 Q H locs _ _ ls _ K.1 K.2.1 K.2.2.2.1 K.2.2.2.2.1 ?_
  have g := hgo H locs ls h1 h2 hP hS hl
  rw [← hpc, ← hv G]
  exact g
theorem ms_ldc {a : Nat} {L : List Nat} {idx : Nat} (w : Nat) (hd : decode bytes pc = .ok (.ldc idx, 2)) (hw : lw_tbl[w]? = some (.constant y.cls idx (Int32.ofNat a))) : mx_Snd bytes nL y pc (0, a, 2, L) :=
  ms_pool (v := .int (Int32.ofNat a)) (n := 2) (fun _ _ => rfl) (fun _ => rfl) fun _ _ _ _ _ _ _ _ _ _ _ _ _ _ _ _ _ hx hb ho ht k => lv_ldc hx hb ho (ht _ (mx_gt w hw rfl)) hd k
theorem ms_ldcw {a : Nat} {L : List Nat} {idx : Nat} (w : Nat) (hd : decode bytes pc = .ok (.ldc_w idx, 3)) (hw : lw_tbl[w]? = some (.constant y.cls idx (Int32.ofNat a))) : mx_Snd bytes nL y pc (0, a, 3, L) :=
  ms_pool (v := .int (Int32.ofNat a)) (n := 3) (fun _ _ => rfl) (fun _ => rfl) fun _ _ _ _ _ _ _ _ _ _ _ _ _ _ _ _ _ hx hb ho ht k => lv_ldcw hx hb ho (ht _ (mx_gt w hw rfl)) hd k
theorem ms_ldc2 {a : Nat} {L : List Nat} {idx : Nat} (w : Nat) (hd : decode bytes pc = .ok (.ldc2_w idx, 3)) (hw : lw_tbl[w]? = some (.constantLong y.cls idx (Int64.ofNat a))) : mx_Snd bytes nL y pc (1, a, 3, L) :=
  ms_pool (v := .long (Int64.ofNat a)) (n := 3) (fun _ _ => rfl) (fun _ => rfl) fun _ _ _ _ _ _ _ _ _ _ _ _ _ _ _ _ _ hx hb ho ht k => lv_ldc2 hx hb ho (ht _ (mx_gt w hw rfl)) hd k
/-- loads -/
theorem ms_load {i : mx_I} {a n : Nat} (ty : Value → Prop) (hi : ∀ (SA : mx_S) (c c' : mx_C), mx_op SA mx_SF mx_DF 14 i c = some c' → ∃ v, ty v ∧ mx_lk a c.2.1 = some v ∧ c' = (c.1 + n, c.2.1, v :: c.2.2.1, c.2.2.2))
    (row : ∀ (G : mx_G) (v : Value), ty v → ∀ (p : Program) (l : Launch) (e : Env) (R : Room) (s : State) (m : MethodId) (args : Array Value) (below : List Frame) (meth : Method) (c0 : Code) (Q : State → Prop) (H : Heap) (locs : List Loc) (cells slots : Nat) (ls : Array Slot) (rest : List Value), p.tables.exec = Jvm.exec → c0.code = bytes → ls[a]? = some (.val (mx_tr G v)) →
      W p l e R s m args below meth c0 H locs cells slots Q (F0 m (pc + n) ls (mx_tr G v :: rest)) → W p l e R s m args below meth c0 H locs cells slots Q (F0 m pc ls rest)) : mx_Snd bytes nL y pc i := by
  intro G SA p l e R s m args below meth c0 Q L0 S0 K c c' hpc _ _ _ _ hop hgo H locs ls h1 h2 hP hS hl
  obtain ⟨v, hty, hlk, rfl⟩ := hi SA c c' hop
  rw [hpc]
  refine row G v hty p l e R s m args below meth c0 Q H locs _ _ ls _ K.1 K.2.1 (hl.2.2 (a, mx_tr G v) (List.mem_map.mpr ⟨(a, v), mx_lk_mem hlk, rfl⟩)) ?_
  rw [← hpc]
  exact hgo H locs ls h1 h2 hP hS hl
def mx_isI (v : Value) : Prop := ∃ x, v = .int x
def mx_isL (v : Value) : Prop := ∃ x, v = .long x
def mx_isA (v : Value) : Prop := ∃ x, v = .ref x
theorem mx_ldi_inv {a n : Nat} {c c' : mx_C} (h : mx_ldi a n c = some c') : ∃ v, mx_isI v ∧ mx_lk a c.2.1 = some v ∧ c' = (c.1 + n, c.2.1, v :: c.2.2.1, c.2.2.2) := by
  unfold mx_ldi at h
  split at h
  · next x hx => exact ⟨_, ⟨x, rfl⟩, hx, (Option.some.inj h).symm⟩
  · cases h
theorem mx_ldl_inv {a n : Nat} {c c' : mx_C} (h : mx_ldl a n c = some c') : ∃ v, mx_isL v ∧ mx_lk a c.2.1 = some v ∧ c' = (c.1 + n, c.2.1, v :: c.2.2.1, c.2.2.2) := by
  unfold mx_ldl at h
  split at h
  · next x hx => exact ⟨_, ⟨x, rfl⟩, hx, (Option.some.inj h).symm⟩
  · cases h
theorem mx_lda_inv {a n : Nat} {c c' : mx_C} (h : mx_lda a n c = some c') : ∃ v, mx_isA v ∧ mx_lk a c.2.1 = some v ∧ c' = (c.1 + n, c.2.1, v :: c.2.2.1, c.2.2.2) := by
  unfold mx_lda at h
  split at h
  · next x hx => exact ⟨_, ⟨x, rfl⟩, hx, (Option.some.inj h).symm⟩
  · cases h
theorem ms_iload_n {a : Nat} {L : List Nat} {k : Fin 4} (hd : decode bytes pc = .ok (.iload_n k, 1)) (hk : (k : Nat) = a) : mx_Snd bytes nL y pc (2, a, 1, L) :=
  ms_load mx_isI (fun _ _ _ h => mx_ldi_inv h) fun G v hv p l e R s m args below meth c0 Q H locs cells slots ls rest hx hb hl kk => by
    obtain ⟨x, rfl⟩ := hv
    exact lv_iload_n hx hb hd hk hl kk
theorem ms_iload {a : Nat} {L : List Nat} (hd : decode bytes pc = .ok (.iload a, 2)) : mx_Snd bytes nL y pc (2, a, 2, L) :=
  ms_load mx_isI (fun _ _ _ h => mx_ldi_inv h) fun G v hv p l e R s m args below meth c0 Q H locs cells slots ls rest hx hb hl kk => by
    obtain ⟨x, rfl⟩ := hv
    exact lv_iload hx hb hd hl kk
theorem ms_lload_n {a : Nat} {L : List Nat} {k : Fin 4} (hd : decode bytes pc = .ok (.lload_n k, 1)) (hk : (k : Nat) = a) : mx_Snd bytes nL y pc (3, a, 1, L) :=
  ms_load mx_isL (fun _ _ _ h => mx_ldl_inv h) fun G v hv p l e R s m args below meth c0 Q H locs cells slots ls rest hx hb hl kk => by
    obtain ⟨x, rfl⟩ := hv
    exact lv_lload_n hx hb hd hk hl kk
theorem ms_lload {a : Nat} {L : List Nat} (hd : decode bytes pc = .ok (.lload a, 2)) : mx_Snd bytes nL y pc (3, a, 2, L) :=
  ms_load mx_isL (fun _ _ _ h => mx_ldl_inv h) fun G v hv p l e R s m args below meth c0 Q H locs cells slots ls rest hx hb hl kk => by
    obtain ⟨x, rfl⟩ := hv
    exact lv_lload hx hb hd hl kk
theorem ms_aload_n {a : Nat} {L : List Nat} {k : Fin 4} (hd : decode bytes pc = .ok (.aload_n k, 1)) (hk : (k : Nat) = a) : mx_Snd bytes nL y pc (4, a, 1, L) :=
  ms_load mx_isA (fun _ _ _ h => mx_lda_inv h) fun G v hv p l e R s m args below meth c0 Q H locs cells slots ls rest hx hb hl kk => by
    obtain ⟨x, rfl⟩ := hv
    exact lv_aload_n hx hb hd hk hl kk
theorem ms_aload {a : Nat} {L : List Nat} (hd : decode bytes pc = .ok (.aload a, 2)) : mx_Snd bytes nL y pc (4, a, 2, L) :=
  ms_load mx_isA (fun _ _ _ h => mx_lda_inv h) fun G v hv p l e R s m args below meth c0 Q H locs cells slots ls rest hx hb hl kk => by
    obtain ⟨x, rfl⟩ := hv
    exact lv_aload hx hb hd hl kk
/-- stores -/
theorem mx_sto_tr (G : mx_G) (i : Nat) (v : Value) (lv : mx_L) : (mx_sto i v lv).map (mx_tq G) = (i, mx_tr G v) :: (lv.map (mx_tq G)).filter (fun q => !(q.1 == i) && !(q.1 + 1 == i && q.2.category == 2)) := by
  unfold mx_sto
  rw [List.map_cons, List.filter_map]
  have : ((fun q : Nat × Value => !(q.1 == i) && !(q.1 + 1 == i && q.2.category == 2)) ∘ mx_tq G) = (fun q : Nat × Value => !(q.1 == i) && !(q.1 + 1 == i && q.2.category == 2)) := by
    funext q
    simp only [Function.comp, mx_tq, mx_tr_cat]
  rw [this]
  rfl
theorem mx_sto2_tr (G : mx_G) (i : Nat) (v : Value) (lv : mx_L) : (mx_sto2 i v lv).map (mx_tq G) = (i, mx_tr G v) :: (lv.map (mx_tq G)).filter (fun q => !(q.1 == i) && (!(q.1 == i + 1) && !(q.1 + 1 == i && q.2.category == 2))) := by
  unfold mx_sto2
  rw [List.map_cons, List.filter_map]
  have : ((fun q : Nat × Value => !(q.1 == i) && (!(q.1 == i + 1) && !(q.1 + 1 == i && q.2.category == 2))) ∘ mx_tq G) = (fun q : Nat × Value => !(q.1 == i) && (!(q.1 == i + 1) && !(q.1 + 1 == i && q.2.category == 2))) := by
    funext q
    simp only [Function.comp, mx_tq, mx_tr_cat]
  rw [this]
  rfl
theorem ms_store {i : mx_I} {n : Nat} (ty : Value → Prop) (f : Value → mx_L → mx_L) (hi : ∀ (SA : mx_S) (c c' : mx_C), mx_op SA mx_SF mx_DF 14 i c = some c' → ∃ v st, ty v ∧ c.2.2.1 = v :: st ∧ c' = (c.1 + n, f v c.2.1, st, c.2.2.2))
    (row : ∀ (G : mx_G) (v : Value) (lv : mx_L), ty v → ∀ (p : Program) (l : Launch) (e : Env) (R : Room) (s : State) (m : MethodId) (args : Array Value) (below : List Frame) (meth : Method) (c0 : Code) (Q : State → Prop) (H : Heap) (locs : List Loc) (cells slots : Nat) (ls : Array Slot) (rest : List Value), p.tables.exec = Jvm.exec → c0.code = bytes → lv_has ls nL (lv.map (mx_tq G)) →
      (∀ ls' : Array Slot, lv_has ls' nL ((f v lv).map (mx_tq G)) → W p l e R s m args below meth c0 H locs cells slots Q (F0 m (pc + n) ls' rest)) → W p l e R s m args below meth c0 H locs cells slots Q (F0 m pc ls (mx_tr G v :: rest))) : mx_Snd bytes nL y pc i := by
  intro G SA p l e R s m args below meth c0 Q L0 S0 K c c' hpc _ _ _ _ hop hgo H locs ls h1 h2 hP hS hl
  obtain ⟨v, st, hty, hst, rfl⟩ := hi SA c c' hop
  rw [hpc, hst]
  refine row G v c.2.1 hty p l e R s m args below meth c0 Q H locs _ _ ls _ K.1 K.2.1 hl fun ls' hl' => ?_
  rw [← hpc]
  exact hgo H locs ls' h1 h2 hP hS hl'
theorem mx_sti_inv {a n : Nat} {c c' : mx_C} (h : mx_sti a n c = some c') : ∃ v st, mx_isI v ∧ c.2.2.1 = v :: st ∧ c' = (c.1 + n, mx_sto a v c.2.1, st, c.2.2.2) := by
  unfold mx_sti at h
  split at h
  · next x st hx => exact ⟨_, st, ⟨x, rfl⟩, hx, (Option.some.inj h).symm⟩
  · cases h
theorem mx_stl_inv {a n : Nat} {c c' : mx_C} (h : mx_stl a n c = some c') : ∃ v st, mx_isL v ∧ c.2.2.1 = v :: st ∧ c' = (c.1 + n, mx_sto2 a v c.2.1, st, c.2.2.2) := by
  unfold mx_stl at h
  split at h
  · next x st hx => exact ⟨_, st, ⟨x, rfl⟩, hx, (Option.some.inj h).symm⟩
  · cases h
theorem mx_sta_inv {a n : Nat} {c c' : mx_C} (h : mx_sta a n c = some c') : ∃ v st, mx_isA v ∧ c.2.2.1 = v :: st ∧ c' = (c.1 + n, mx_sto a v c.2.1, st, c.2.2.2) := by
  unfold mx_sta at h
  split at h
  · next x st hx => exact ⟨_, st, ⟨x, rfl⟩, hx, (Option.some.inj h).symm⟩
  · cases h
theorem ms_istore_n {a : Nat} {L : List Nat} {k : Fin 4} (hd : decode bytes pc = .ok (.istore_n k, 1)) (hk : (k : Nat) = a) (hn : a < nL) : mx_Snd bytes nL y pc (5, a, 1, L) :=
  ms_store mx_isI (fun v lv => mx_sto a v lv) (fun _ _ _ h => mx_sti_inv h) fun G v lv hv p l e R s m args below meth c0 Q H locs cells slots ls rest hx hb hl kk => by
    obtain ⟨x, rfl⟩ := hv
    exact lv_istore_n hx hb hd hk hl hn (mx_sto_tr G a (.int x) lv).symm kk
theorem ms_istore {a : Nat} {L : List Nat} (hd : decode bytes pc = .ok (.istore a, 2)) (hn : a < nL) : mx_Snd bytes nL y pc (5, a, 2, L) :=
  ms_store mx_isI (fun v lv => mx_sto a v lv) (fun _ _ _ h => mx_sti_inv h) fun G v lv hv p l e R s m args below meth c0 Q H locs cells slots ls rest hx hb hl kk => by
    obtain ⟨x, rfl⟩ := hv
    exact lv_istore hx hb hd hl hn (mx_sto_tr G a (.int x) lv).symm kk
theorem ms_lstore_n {a : Nat} {L : List Nat} {k : Fin 4} (hd : decode bytes pc = .ok (.lstore_n k, 1)) (hk : (k : Nat) = a) (hn : a + 1 < nL) : mx_Snd bytes nL y pc (6, a, 1, L) :=
  ms_store mx_isL (fun v lv => mx_sto2 a v lv) (fun _ _ _ h => mx_stl_inv h) fun G v lv hv p l e R s m args below meth c0 Q H locs cells slots ls rest hx hb hl kk => by
    obtain ⟨x, rfl⟩ := hv
    exact lv_lstore_n hx hb hd hk hl hn (mx_sto2_tr G a (.long x) lv).symm kk
theorem ms_lstore {a : Nat} {L : List Nat} (hd : decode bytes pc = .ok (.lstore a, 2)) (hn : a + 1 < nL) : mx_Snd bytes nL y pc (6, a, 2, L) :=
  ms_store mx_isL (fun v lv => mx_sto2 a v lv) (fun _ _ _ h => mx_stl_inv h) fun G v lv hv p l e R s m args below meth c0 Q H locs cells slots ls rest hx hb hl kk => by
    obtain ⟨x, rfl⟩ := hv
    exact lv_lstore hx hb hd hl hn (mx_sto2_tr G a (.long x) lv).symm kk
theorem ms_astore_n {a : Nat} {L : List Nat} {k : Fin 4} (hd : decode bytes pc = .ok (.astore_n k, 1)) (hk : (k : Nat) = a) (hn : a < nL) : mx_Snd bytes nL y pc (7, a, 1, L) :=
  ms_store mx_isA (fun v lv => mx_sto a v lv) (fun _ _ _ h => mx_sta_inv h) fun G v lv hv p l e R s m args below meth c0 Q H locs cells slots ls rest hx hb hl kk => by
    obtain ⟨x, rfl⟩ := hv
    exact lv_astore_n hx hb hd hk hl hn (mx_sto_tr G a (.ref x) lv).symm kk
theorem ms_iinc {a d : Nat} {L : List Nat} {n : Int} (hd : decode bytes pc = .ok (.iinc a n, 3)) (hv : Int32.ofInt n = Int32.ofNat d) (hn : a < nL) : mx_Snd bytes nL y pc (8, a, d, L) := by
  intro G SA p l e R s m args below meth c0 Q L0 S0 K c c' hpc _ _ _ _ hop hgo H locs ls h1 h2 hP hS hl
  have hop : mx_inc a d c = some c' := hop
  unfold mx_inc at hop
  split at hop
  · next x hx =>
    have h := Option.some.inj hop
    subst h
    rw [hpc]
    obtain ⟨k, hk⟩ := List.getElem?_of_mem (List.mem_map.mpr ⟨(a, Value.int x), mx_lk_mem hx, rfl⟩ : mx_tq G (a, Value.int x) ∈ c.2.1.map (mx_tq G))
    refine lv_iinc (v := x + Int32.ofNat d) K.1 K.2.1 hd hl hk (by rw [hv]) hn (mx_sto_tr G a (.int (x + Int32.ofNat d)) c.2.1).symm fun ls' hl' => ?_
    rw [← hpc]
    exact hgo H locs ls' h1 h2 hP hS hl'
  · cases hop
/-- arithmetic -/
theorem mx_ii_inv {f : Int32 → Int32 → Option Value} {c c' : mx_C} (h : mx_ii f c = some c') : ∃ x y v st, c.2.2.1 = .int y :: .int x :: st ∧ f x y = some v ∧ c' = (c.1 + 1, c.2.1, v :: st, c.2.2.2) := by
  unfold mx_ii at h
  split at h
  · next y x st hst =>
    split at h
    · next v hv => exact ⟨x, y, v, st, hst, hv, (Option.some.inj h).symm⟩
    · cases h
  · cases h
theorem mx_ll_inv {f : Int64 → Int64 → Option Value} {c c' : mx_C} (h : mx_ll f c = some c') : ∃ x y v st, c.2.2.1 = .long y :: .long x :: st ∧ f x y = some v ∧ c' = (c.1 + 1, c.2.1, v :: st, c.2.2.2) := by
  unfold mx_ll at h
  split at h
  · next y x st hst =>
    split at h
    · next v hv => exact ⟨x, y, v, st, hst, hv, (Option.some.inj h).symm⟩
    · cases h
  · cases h
theorem mx_li_inv {f : Int64 → Int32 → Value} {c c' : mx_C} (h : mx_li f c = some c') : ∃ x y st, c.2.2.1 = .int y :: .long x :: st ∧ c' = (c.1 + 1, c.2.1, f x y :: st, c.2.2.2) := by
  unfold mx_li at h
  split at h
  · next y x st hst => exact ⟨x, y, st, hst, (Option.some.inj h).symm⟩
  · cases h
theorem mx_i1_inv {f : Int32 → Value} {c c' : mx_C} (h : mx_i1 f c = some c') : ∃ x st, c.2.2.1 = .int x :: st ∧ c' = (c.1 + 1, c.2.1, f x :: st, c.2.2.2) := by
  unfold mx_i1 at h
  split at h
  · next x st hst => exact ⟨x, st, hst, (Option.some.inj h).symm⟩
  · cases h
theorem mx_l1_inv {f : Int64 → Value} {c c' : mx_C} (h : mx_l1 f c = some c') : ∃ x st, c.2.2.1 = .long x :: st ∧ c' = (c.1 + 1, c.2.1, f x :: st, c.2.2.2) := by
  unfold mx_l1 at h
  split at h
  · next x st hst => exact ⟨x, st, hst, (Option.some.inj h).symm⟩
  · cases h
theorem ms_ii {i : mx_I} {f : Int32 → Int32 → Option Value} (hi : ∀ (SA : mx_S) (c : mx_C), mx_op SA mx_SF mx_DF 14 i c = mx_ii f c) (hf : ∀ x y v, f x y = some v → ∀ G : mx_G, mx_tr G v = v) (row : ∀ x y v, f x y = some v → mx_Row bytes pc (pc + 1) [.int y, .int x] [v]) : mx_Snd bytes nL y pc i :=
  ms_plain fun SA c c' hop hpc => by
    rw [hi] at hop
    obtain ⟨x, y, v, st, e1, e2, rfl⟩ := mx_ii_inv hop
    refine ⟨[.int y, .int x], [v], st, e1, rfl, rfl, rfl, fun G => ?_⟩
    show mx_Row bytes pc (c.1 + 1) [.int y, .int x] [mx_tr G v]
    rw [hpc, hf x y v e2 G]
    exact row x y v e2
theorem ms_ll {i : mx_I} {f : Int64 → Int64 → Option Value} (hi : ∀ (SA : mx_S) (c : mx_C), mx_op SA mx_SF mx_DF 14 i c = mx_ll f c) (hf : ∀ x y v, f x y = some v → ∀ G : mx_G, mx_tr G v = v) (row : ∀ x y v, f x y = some v → mx_Row bytes pc (pc + 1) [.long y, .long x] [v]) : mx_Snd bytes nL y pc i :=
  ms_plain fun SA c c' hop hpc => by
    rw [hi] at hop
    obtain ⟨x, y, v, st, e1, e2, rfl⟩ := mx_ll_inv hop
    refine ⟨[.long y, .long x], [v], st, e1, rfl, rfl, rfl, fun G => ?_⟩
    show mx_Row bytes pc (c.1 + 1) [.long y, .long x] [mx_tr G v]
    rw [hpc, hf x y v e2 G]
    exact row x y v e2
theorem ms_li {i : mx_I} {f : Int64 → Int32 → Value} (hi : ∀ (SA : mx_S) (c : mx_C), mx_op SA mx_SF mx_DF 14 i c = mx_li f c) (hf : ∀ x y, ∀ G : mx_G, mx_tr G (f x y) = f x y) (row : ∀ x y, mx_Row bytes pc (pc + 1) [.int y, .long x] [f x y]) : mx_Snd bytes nL y pc i :=
  ms_plain fun SA c c' hop hpc => by
    rw [hi] at hop
    obtain ⟨x, y, st, e1, rfl⟩ := mx_li_inv hop
    refine ⟨[.int y, .long x], [f x y], st, e1, rfl, rfl, rfl, fun G => ?_⟩
    show mx_Row bytes pc (c.1 + 1) [.int y, .long x] [mx_tr G (f x y)]
    rw [hpc, hf x y G]
    exact row x y
theorem ms_i1 {i : mx_I} {f : Int32 → Value} (hi : ∀ (SA : mx_S) (c : mx_C), mx_op SA mx_SF mx_DF 14 i c = mx_i1 f c) (hf : ∀ x, ∀ G : mx_G, mx_tr G (f x) = f x) (row : ∀ x, mx_Row bytes pc (pc + 1) [.int x] [f x]) : mx_Snd bytes nL y pc i :=
  ms_plain fun SA c c' hop hpc => by
    rw [hi] at hop
    obtain ⟨x, st, e1, rfl⟩ := mx_i1_inv hop
    refine ⟨[.int x], [f x], st, e1, rfl, rfl, rfl, fun G => ?_⟩
    show mx_Row bytes pc (c.1 + 1) [.int x] [mx_tr G (f x)]
    rw [hpc, hf x G]
    exact row x
theorem ms_l1 {i : mx_I} {f : Int64 → Value} (hi : ∀ (SA : mx_S) (c : mx_C), mx_op SA mx_SF mx_DF 14 i c = mx_l1 f c) (hf : ∀ x, ∀ G : mx_G, mx_tr G (f x) = f x) (row : ∀ x, mx_Row bytes pc (pc + 1) [.long x] [f x]) : mx_Snd bytes nL y pc i :=
  ms_plain fun SA c c' hop hpc => by
    rw [hi] at hop
    obtain ⟨x, st, e1, rfl⟩ := mx_l1_inv hop
    refine ⟨[.long x], [f x], st, e1, rfl, rfl, rfl, fun G => ?_⟩
    show mx_Row bytes pc (c.1 + 1) [.long x] [mx_tr G (f x)]
    rw [hpc, hf x G]
    exact row x
end MSV
