/-! EVERY RUN OF THE SMALL MACHINE IS A RUN OF THE MACHINE -/
def mx_Rt (q : mx_Q) (pc : Nat) (i : mx_I) : Prop :=
  (i.1 = 80 ∧ decode q.2.1 pc = .ok (.ireturn, 1) ∧ ∃ ty, q.2.2.2 = some ty ∧ ∀ v, mx_fit i.2.1 v = true → narrow ty (.int v) = .int v) ∨
  (i.1 = 81 ∧ decode q.2.1 pc = .ok (.lreturn, 1) ∧ q.2.2.2 = some .long) ∨
  (i.1 = 82 ∧ decode q.2.1 pc = .ok (.areturn, 1) ∧ ∃ ty, q.2.2.2 = some ty ∧ mx_rt ty = true) ∨
  (i.1 = 83 ∧ decode q.2.1 pc = .ok (.return_, 1) ∧ q.2.2.2 = none)
/-- a place of a method's table is right -/
def mx_Ok (MT : Nat → Option mx_Q) (q : mx_Q) (pc : Nat) (i : mx_I) : Prop :=
  (i.1 < 70 → mx_Snd q.2.1 q.2.2.1 q.1 pc i) ∧ (i.1 = 70 → ∃ k, MT i.2.1 = some k ∧ mx_Cal q.2.1 q.1 pc i k) ∧ (80 ≤ i.1 → mx_Rt q pc i)
theorem mk_p {MT : Nat → Option mx_Q} {q : mx_Q} {pc : Nat} {i : mx_I} (h : mx_Snd q.2.1 q.2.2.1 q.1 pc i) (hi : Nat.blt i.1 70 = true) : mx_Ok MT q pc i := by
  have hlt : i.1 < 70 := Nat.le_of_ble_eq_true hi
  exact ⟨fun _ => h, fun z => by omega, fun z => by omega⟩
theorem mk_c {MT : Nat → Option mx_Q} {q : mx_Q} {pc a b : Nat} {L : List Nat} {k : mx_Q} (h1 : MT a = some k) (h2 : mx_Cal q.2.1 q.1 pc (70, a, b, L) k) : mx_Ok MT q pc (70, a, b, L) :=
  ⟨fun z => absurd (show 70 < 70 from z) (by omega), fun _ => ⟨k, h1, h2⟩, fun z => absurd (show 80 ≤ 70 from z) (by omega)⟩
theorem mk_r {MT : Nat → Option mx_Q} {q : mx_Q} {pc : Nat} {i : mx_I} (h : mx_Rt q pc i) (hi : Nat.ble 80 i.1 = true) : mx_Ok MT q pc i := by
  have hlt : 80 ≤ i.1 := Nat.le_of_ble_eq_true hi
  exact ⟨fun z => by omega, fun z => by omega, fun _ => h⟩
theorem mx_run_go {MT : Nat → Option mx_Q} {q : mx_Q} {t : List (List (Nat × mx_I))} {call : Nat → List Value → mx_M → Option Value → mx_M → Prop} {G : mx_G} {SA : mx_S} {p : Program} {l : Launch} {e : Env} {R : Room} {s : State} {m : MethodId} {args : Array Value} {below : List Frame} {meth : Method} {c0 : Code} {Q : State → Prop} {L0 S0 d : Nat} {r : Option Value} {Mf : mx_M}
    (K : mx_Ctx q.2.1 q.2.2.1 q.1 G SA p R s m args meth c0) (hok : ∀ ch ∈ t, ∀ e ∈ ch, mx_Ok MT q e.1 e.2)
    (hmono : ∀ k as M r M', call k as M r M' → mx_Gr M M')
    (hcall : ∀ k as M r M', call k as M r M' → ∀ z, MT k = some z → Met l z.1 (mx_wd z) (mx_rm d M M') (mx_Pc G SA as M) (mx_Qc G r M') (M'.length - M.length) (mx_sz M' - mx_sz M) (mx_A G))
    (hfr : d + 1 ≤ R.frames) (hlo : 40 * d + 40 ≤ R.locals) (hc1 : Mf.length ≤ R.cells + L0) (hc2 : mx_sz Mf ≤ R.slots + S0)
    (hfin : ∀ (pc : Nat) (i : mx_I) (st : List Value) (H : Heap) (locs : List Loc) (ls : Array Slot), mx_Ok MT q pc i → 80 ≤ i.1 → mx_ret i st = some r → H.size = G.1 + Mf.length → va_P G.2.2.2 vwCl (mx_W G Mf) H → va_S (mx_A G) s.heap H locs → W p l e R s m args below meth c0 H locs (Mf.length - L0) (mx_sz Mf - S0) Q (F0 m pc ls (st.map (mx_tr G)))) :
    ∀ (n : Nat) (c : mx_C), mx_run call (mx_op SA mx_SF mx_DF 14) t n c r Mf → L0 ≤ c.2.2.2.length → S0 ≤ mx_sz c.2.2.2 → mx_Go q.2.2.1 G p l e R s m args below meth c0 Q L0 S0 c := by
  intro n
  induction n with
  | zero => intro c h; exact h.elim
  | succ n ih =>
    intro c h hL hS
    obtain ⟨i, hf, h⟩ := h
    obtain ⟨ch, hch, hin⟩ := mx_fetch_mem hf
    have hO := hok ch hch _ hin
    rcases h with ⟨hi, c', h1, h2⟩ | ⟨hi, as, rest, r1, M1, h1, h2, h3, h4, h5, h6⟩ | ⟨hi, r1, h1, h2, h3⟩
    · have g1 := mx_op_mono h1
      have g2 := mx_run_mono hmono h2
      have gl := g1.1
      have gm := g2.1
      exact hO.1 hi G SA p l e R s m args below meth c0 Q L0 S0 K c c' rfl hL hS (by omega) (by omega) h1 (ih c' h2 (by omega) (by omega))
    · obtain ⟨k, k1, k2⟩ := hO.2.1 hi
      have g1 := hmono _ _ _ _ _ h5
      have g2 := mx_run_mono hmono h6
      have gl := g1.1
      have gm : M1.length ≤ Mf.length ∧ mx_sz M1 ≤ mx_sz Mf := g2.1
      exact mx_call_go k2 K hfr hlo rfl h1 h2 h3 h4 (hcall _ _ _ _ _ h5 k k1) g1 hL hS (by omega) (by omega) (ih _ h6 (show L0 ≤ M1.length by omega) (show S0 ≤ mx_sz M1 by omega))
    · intro H locs ls z1 z2 hP hS' hv
      subst h2
      have e3 : Mf = c.2.2.2 := h3.symm
      rw [e3] at hfin
      exact hfin c.1 i c.2.2.1 H locs ls hO hi h1 z2 hP hS'
theorem mx_ret_go {q : mx_Q} {G : mx_G} {p : Program} {l : Launch} {e : Env} {R : Room} {s : State} {m : MethodId} {args : Array Value} {below : List Frame} {meth : Method} {c0 : Code} {M' : mx_M} {cells slots : Nat} {pc : Nat} {i : mx_I} {st : List Value} {r : Option Value} {H : Heap} {locs : List Loc} {ls : Array Slot}
    (hx : p.tables.exec = Jvm.exec) (hb : c0.code = q.2.1) (hr : meth.sig.returnType = q.2.2.2) (hlocks : meth.locks = false) (hR : mx_Rt q pc i) (h : mx_ret i st = some r) (hz : H.size = G.1 + M'.length) (hP : va_P G.2.2.2 vwCl (mx_W G M') H) (hS : va_S (mx_A G) s.heap H locs) :
    W p l e R s m args below meth c0 H locs cells slots (MQ below (mx_Qc G r M') args s cells slots (mx_A G)) (F0 m pc ls (st.map (mx_tr G))) := by
  have hq : ∀ (v : Option Value) (t : State), v = r.map (mx_tr G) → t.heap = H → mx_Qc G r M' args s (.returned v) t := fun v t hv ht => ⟨by rw [hv], by rw [ht]; exact hz, by rw [ht]; exact hP, hS.F ht⟩
  obtain ⟨i1, i2, i3, i4⟩ := i
  rcases hR with ⟨e1, hd, ty, hty, hfit⟩ | ⟨e1, hd, hty⟩ | ⟨e1, hd, ty, hty, hrt⟩ | ⟨e1, hd, hty⟩
  · have e1 : i1 = 80 := e1
    subst e1
    match st, h with
    | [.int v], h =>
      have h : (bif mx_fit i2 v then some (some (.int v)) else none) = some r := h
      cases hf : mx_fit i2 v with
      | false => rw [hf] at h; cases h
      | true =>
        rw [hf] at h
        cases h
        exact W.zret hx hb (hr.trans hty) (hfit v hf) (fun t ht _ => hq _ t rfl ht) hS.2.2 hd hlocks
  · have e1 : i1 = 81 := e1
    subst e1
    match st, h with
    | [.long v], h =>
      have h : some (some (Value.long v)) = some r := h
      cases h
      exact W.lret hx hb (hr.trans hty) (fun t ht _ => hq _ t rfl ht) hS.2.2 hd hlocks
  · have e1 : i1 = 82 := e1
    subst e1
    match st, h with
    | [.ref v], h =>
      have h : some (some (Value.ref v)) = some r := h
      cases h
      exact W.aret hx hb (hr.trans hty) (by cases ty <;> first | exact Or.inl ⟨_, rfl⟩ | exact Or.inr ⟨_, rfl⟩ | cases hrt) (Or.inr ⟨_, rfl⟩) (fun t ht _ => hq _ t rfl ht) hS.2.2 hd hlocks
  · have e1 : i1 = 83 := e1
    subst e1
    match st, h with
    | [], h =>
      have h : some (none : Option Value) = some r := h
      cases h
      exact W.vret hx hb (hr.trans hty) (fun t ht _ => hq _ t rfl ht) hS.2.2 hd hlocks
theorem mx_args_tr (G : mx_G) : ∀ (as : List Value) (k : Nat), (lv_args k as).map (mx_tq G) = lv_args k (as.map (mx_tr G))
  | [], _ => rfl
  | v :: as, k => by
    simp only [lv_args, List.map_cons, mx_tr_cat]
    rw [mx_args_tr G as]
    rfl
theorem mx_sl_len (G : mx_G) : ∀ as : List Value, (lg_sl (as.map (mx_tr G))).length = mx_cat as
  | [] => rfl
  | v :: as => by
    have ih := mx_sl_len G as
    unfold lg_sl at ih ⊢
    rw [List.map_cons, List.flatMap_cons, List.length_append, ih]
    show _ = (bif mx_is2 v then 2 else 1) + mx_cat as
    rw [mx_tr_cat]
    cases v <;> rfl
set_option maxHeartbeats 1000000 in
theorem mx_sound (l : Launch) (G : mx_G) (SA : mx_S) {MT : Nat → Option mx_Q} {code : Nat → Nat × List (List (Nat × mx_I))} (hMT : ∀ k q, MT k = some q → mx_Mok q ∧ (code k).1 = q.2.2.1 ∧ ∀ ch ∈ (code k).2, ∀ e ∈ ch, mx_Ok MT q e.1 e.2) :
    ∀ (d k : Nat) (as : List Value) (M : mx_M) (r : Option Value) (M' : mx_M), mx_Ev SA code d k as M r M' → ∀ q, MT k = some q → Met l q.1 (mx_wd q) (mx_rm d M M') (mx_Pc G SA as M) (mx_Qc G r M') (M'.length - M.length) (mx_sz M' - mx_sz M) (mx_A G) := by
  intro d
  induction d with
  | zero => intro k as M r M' h; exact h.elim
  | succ d ih =>
    intro k as M r M' h q hq
    obtain ⟨hMok, hnl, hok⟩ := hMT k q hq
    have hgr := mx_Ev_mono (d + 1) _ _ _ _ _ h
    obtain ⟨hcat, hlen, n, hrun⟩ := h
    rw [hnl] at hcat
    refine Met.ofW (cc := q.2.1) (maxL := q.2.2.1) (ret := q.2.2.2) hMok.1 rfl ?_
    intro p e s m args below meth c s₁ B hml hv
    obtain ⟨rfl, hsz, hP, hE⟩ := hv
    have hts := atoms_spec (ws := mx_wd q) B.pre
    have K : mx_Ctx q.2.1 q.2.2.1 q.1 G SA p (headSpec (mx_wd q) (mx_rm (d + 1) M M')).room s m (as.map (mx_tr G)).toArray meth c :=
      ⟨B.exec, B.bytes, hml, findClass_of_methodNamed B.named, fun w hw => hts w (List.mem_cons_of_mem _ hw), fun z => by rw [(name_of_methodNamed B.named B.method).1]; exact z, hE, by rw [hsz]; omega, by show 1 ≤ d + 1; omega, by show 40 ≤ 40 * (d + 1); omega⟩
    rw [lg_entry_eq]
    have hl := lv_entry (as.map (mx_tr G)) (n := q.2.2.1) (by rw [mx_sl_len]; exact hcat)
    generalize (lg_sl (as.map (mx_tr G)) ++ List.replicate (q.2.2.1 - (lg_sl (as.map (mx_tr G))).length) Slot.unset).toArray = ls at hl ⊢
    have hgl := hgr.1
    have g := mx_run_go (L0 := M.length) (S0 := mx_sz M) (d := d) (below := below) (l := l) (e := e) (Q := MQ below (mx_Qc G r M') (as.map (mx_tr G)).toArray s (M'.length - M.length) (mx_sz M' - mx_sz M) (mx_A G)) K hok (mx_Ev_mono d) (fun k2 as2 M2 r2 M2' h2 z hz => ih k2 as2 M2 r2 M2' h2 z hz) (by show d + 1 ≤ d + 1; omega) (by show 40 * d + 40 ≤ 40 * (d + 1); omega) (by show M'.length ≤ M'.length - M.length + M.length; omega) (by show mx_sz M' ≤ mx_sz M' - mx_sz M + mx_sz M; omega)
      (fun pc i st H locs ls hO hi hre hz hP' hS' => mx_ret_go B.exec B.bytes B.returns B.notSynchronized (hO.2.2 hi) hre hz hP' hS') n _ hrun (Nat.le_refl _) (Nat.le_refl _)
    have g2 := g s.heap [] ls hlen hsz hP va_S.rf (by rw [mx_args_tr]; exact hl)
    have g3 : W p l e (headSpec (mx_wd q) (mx_rm (d + 1) M M')).room s m (as.map (mx_tr G)).toArray below meth c s.heap [] (M.length - M.length) (mx_sz M - mx_sz M) _ (F0 m 0 ls []) := g2
    rw [Nat.sub_self, Nat.sub_self] at g3
    exact g3
