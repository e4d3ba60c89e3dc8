/-! A METHOD'S RUN IS A CONTRACT -/
abbrev mx_Q : Type := MethodName × ByteArray × Nat × Option FieldType
def mx_wd (q : mx_Q) : List Cond := .code q.1 q.2.1 q.2.2.1 q.2.2.2 :: mx_GT
def mx_rm (d : Nat) (M M' : mx_M) : Room := { frames := d, cells := M'.length - M.length, slots := mx_sz M' - mx_sz M, locals := 40 * d }
def mx_Pc (G : mx_G) (SA : mx_S) (as : List Value) (M : mx_M) : Array Value → State → Prop := fun v U => v = (as.map (mx_tr G)).toArray ∧ U.heap.size = G.1 + M.length ∧ va_P G.2.2.2 vwCl (mx_W G M) U.heap ∧ mx_Env G SA mx_SF mx_SR U U.heap
def mx_Qc (G : mx_G) (r : Option Value) (M' : mx_M) : Array Value → State → Outcome → State → Prop := fun _ st oc t => oc = .returned (r.map (mx_tr G)) ∧ t.heap.size = G.1 + M'.length ∧ va_P G.2.2.2 vwCl (mx_W G M') t.heap ∧ va_F (mx_A G) st t
theorem mx_Pc_blind (G : mx_G) (SA : mx_S) (as : List Value) (M : mx_M) : FrameBlind (mx_Pc G SA as M) := fun a U g mk h => ⟨h.1, h.2.1, h.2.2.1, mx_Env_same (U := U.calling g mk a) h.2.2.2 rfl⟩
/-- what is known of a method -/
def mx_Mok (q : mx_Q) : Prop := plainName q.1.cls = true ∧ q.2.2.1 ≤ 21 ∧ Cond.code q.1 q.2.1 q.2.2.1 q.2.2.2 ∈ mx_GT ∧ Cond.initialized q.1.cls ∈ mx_GT ∧ q.1.cls ≠ "java/lang/invoke/MethodHandle" ∧ q.1.cls ≠ "java/lang/invoke/VarHandle"
theorem mx_good {w : Cond} (h : w ∈ mx_GT) : goodWord w = true := (List.mem_filter.mp h).2
theorem mx_wd_good {q : mx_Q} (h : mx_Mok q) : GoodIn mx_GT (mx_wd q) := by
  intro w hw
  rcases List.mem_cons.mp hw with rfl | hw
  · exact ⟨h.2.2.1, good_of_word (mx_good h.2.2.1)⟩
  · exact ⟨hw, good_of_word (mx_good hw)⟩
section MXC
variable {p : Program} {l : Launch} {e : Env} {R : Room} {s : State} {m : MethodId} {args : Array Value} {below : List Frame} {meth : Method} {c0 : Code} {H : Heap} {locs : List Loc} {cells slots mc ms : Nat} {Q : State → Prop} {pc : Nat} {ls : Array Slot} {rest st0 : List Value} {G : mx_G} {SA : mx_S}
theorem mx_callW {r : Option Value} {M' : mx_M} {a : Array Value} (hr : va_Run p l e R s m args below meth c0 H locs cells slots mc ms (F0 m pc ls st0) rest (mx_Qc G r M' a) (mx_A G)) (hS : va_S (mx_A G) s.heap H locs)
    (kk : ∀ (H1 : Heap) (locs1 : List Loc), H1.size = G.1 + M'.length → va_P G.2.2.2 vwCl (mx_W G M') H1 → va_S (mx_A G) s.heap H1 locs1 → W p l e R s m args below meth c0 H1 locs1 (cells + mc) (slots + ms) Q (F0 m (pc + 3) ls ((r.map (mx_tr G)).toList ++ rest))) : W p l e R s m args below meth c0 H locs cells slots Q (F0 m pc ls st0) := by
  intro T hT X
  obtain ⟨v, st₀, t, T', L, h0, X', hL, e1, e2, ⟨hv, hz, hP, hF⟩, st⟩ := hr T hT X
  have hv : v = r.map (mx_tr G) := by cases hv; rfl
  subst hv
  rw [← e1] at hz hP
  obtain ⟨f1, f2⟩ := hF
  rw [h0, ← e1] at f1
  rw [h0, ← e1] at f2
  obtain ⟨t2, a1, b1⟩ := kk T'.heap (locs ++ L) hz hP ⟨Nat.le_trans hS.1 f1, fun q h1 h2 => by rw [f2 q (Nat.lt_of_lt_of_le h1 hS.1) h2]; exact hS.2.1 q h1 h2, fun q hq => by
    rcases List.mem_append.mp hq with h | h
    · exact hS.2.2 q h
    · exact hL q h⟩ T' rfl X'
  exact ⟨t2, st t2 a1, b1⟩
end MXC
/-- how a class names a method: by a link of its own, or of its nest -/
def mx_ml (own : String) (idx : Nat) (x : MethodName) (w : Nat) (host : Option String) : Prop := match host with
  | none => lw_tbl[w]? = some (.methodLink own idx x)
  | some h => lw_tbl[w]? = some (.methodLinkNest own idx x h)
theorem mx_ml_nest {own : String} {idx : Nat} {x : MethodName} {w : Nat} {h : String} (hl : mx_ml own idx x w (some h)) : Cond.methodLinkNest own idx x h ∈ mx_NT :=
  List.mem_filter.mpr ⟨List.mem_of_getElem? hl, rfl⟩
def mx_np (y : MethodName) (n : Nat) : Prop := (parseMethodDescriptor y.desc).map (fun d => d.parameters.length) = some n
/-- a call that the tables allow: a static method, a constructor, a method of an object, a method of a string -/
def mx_Cal (bytes : ByteArray) (y : MethodName) (pc : Nat) (i : mx_I) (q : mx_Q) : Prop :=
  mx_Mok q ∧ ∃ (idx w : Nat) (host : Option String), mx_ml y.cls idx q.1 w host ∧
  ((i.2.2.2 = [] ∧ decode bytes pc = .ok (.invokestatic idx, 3) ∧ mx_np q.1 i.2.2.1 ∧ Cond.static q.1 ∈ mx_GT) ∨
   (i.2.2.2 = [98] ∧ decode bytes pc = .ok (.invokespecial idx, 3) ∧ (∃ n, i.2.2.1 = n + 1 ∧ mx_np q.1 n) ∧ Cond.instanceMethod q.1 ∈ mx_GT ∧ q.1.name = "<init>" ∧ q.2.2.2 = none) ∨
   (∃ (ci : Nat) (T : u_T) (N : Nat), ci < 98 ∧ i.2.2.2 = [ci] ∧ vwCl[ci]? = some (q.1.cls, T, N) ∧ decode bytes pc = .ok (.invokevirtual idx, 3) ∧ (∃ n, i.2.2.1 = n + 1 ∧ mx_np q.1 n) ∧ Cond.instanceMethod q.1 ∈ mx_GT ∧ Cond.selects q.1.cls q.1 q.1 ∈ mx_GT) ∨
   (i.2.2.2 = [99] ∧ q.1.cls = "java/lang/String" ∧ host = none ∧ decode bytes pc = .ok (.invokevirtual idx, 3) ∧ (∃ n, i.2.2.1 = n + 1 ∧ mx_np q.1 n) ∧ Cond.instanceMethod q.1 ∈ mx_GT ∧ Cond.selects q.1.cls q.1 q.1 ∈ mx_GT))
theorem mx_ad_str (G : mx_G) (b : Nat) : mx_ad G (1100 + b) = G.2.1 (100 + b) := by
  rw [show 1100 + b = 1000 + (100 + b) by omega]
  exact mx_ad_ge
theorem mx_stk (G : mx_G) (b : Nat) (as' rest : List Value) : ((Value.ref b :: as').map (mx_tr G)).reverse ++ rest.map (mx_tr G) = (as'.map (mx_tr G)).reverse ++ .ref (mx_ad G b) :: rest.map (mx_tr G) := by
  rw [List.map_cons, List.reverse_cons, List.append_assoc]
  rfl
theorem mx_rcv_ref {as : List Value} {M : mx_M} (h0 : mx_rcv [98] as M = true) : ∃ b as', as = .ref b :: as' := by
  have h : mx_rcv1 98 as M = true := h0
  unfold mx_rcv1 at h
  split  at h
  · next b as' => exact ⟨b, as', rfl⟩
  · cases h
theorem mx_rcv_obj {ci : Nat} {as : List Value} {M : mx_M} (hci : ci < 98) (h0 : mx_rcv [ci] as M = true) : ∃ b as' fs, as = .ref b :: as' ∧ M[b]? = some (.inl (ci, fs)) := by
  have h : mx_rcv1 ci as M = true := h0
  unfold mx_rcv1 at h
  split  at h
  · next b as' =>
    have e1 : Nat.beq ci 98 = false := by
      cases hb : Nat.beq ci 98 with
      | false => rfl
      | true => have := Nat.eq_of_beq_eq_true hb; omega
    have e2 : Nat.beq ci 99 = false := by
      cases hb : Nat.beq ci 99 with
      | false => rfl
      | true => have := Nat.eq_of_beq_eq_true hb; omega
    rw [e1, e2] at h
    simp only [cond_false] at h
    split at h
    · next cj fs hq =>
      have := Nat.eq_of_beq_eq_true h
      subst this
      exact ⟨b, as', fs, rfl, by rw [← mx_nth_eq]; exact hq⟩
    · cases h
  · cases h
theorem mx_rcv_str {as : List Value} {M : mx_M} (h0 : mx_rcv [99] as M = true) : ∃ b as', as = .ref (1100 + b) :: as' ∧ b < 14 := by
  have h : mx_rcv1 99 as M = true := h0
  unfold mx_rcv1 at h
  split  at h
  · next b as' =>
    have h : (Nat.ble 1100 b && Nat.blt b 1114) = true := h
    simp only [Bool.and_eq_true] at h
    have z1 : 1100 ≤ b := Nat.le_of_ble_eq_true h.1
    have z2 : b < 1100 + 14 := Nat.le_of_ble_eq_true h.2
    obtain ⟨e1, e2, -⟩ := mx_gs_ar z1 z2
    exact ⟨b - 1100, as', by rw [← e1], e2⟩
  · cases h
set_option maxHeartbeats 1000000 in
theorem mx_call_go {bytes : ByteArray} {nL : Nat} {y : MethodName} {pc : Nat} {i : mx_I} {q : mx_Q} (hcal : mx_Cal bytes y pc i q) {G : mx_G} {SA : mx_S} {p : Program} {l : Launch} {e : Env} {R : Room} {s : State} {m : MethodId} {args : Array Value} {below : List Frame} {meth : Method} {c0 : Code} {Q : State → Prop} {L0 S0 d : Nat}
    (K : mx_Ctx bytes nL y G SA p R s m args meth c0) (hfr : d + 1 ≤ R.frames) (hlo : 40 * d + 40 ≤ R.locals) {c : mx_C} (hpc : c.1 = pc) {as rest : List Value} {r : Option Value} {M' : mx_M} (hst : c.2.2.1 = as.reverse ++ rest) (hlen : as.length = i.2.2.1) (hcat : mx_cat rest ≤ 8) (hrc : mx_rcv i.2.2.2 as c.2.2.2 = true)
    (hM : Met l q.1 (mx_wd q) (mx_rm d c.2.2.2 M') (mx_Pc G SA as c.2.2.2) (mx_Qc G r M') (M'.length - c.2.2.2.length) (mx_sz M' - mx_sz c.2.2.2) (mx_A G)) (hgr : mx_Gr c.2.2.2 M') (hL : L0 ≤ c.2.2.2.length) (hS0 : S0 ≤ mx_sz c.2.2.2) (hc1 : M'.length ≤ R.cells + L0) (hc2 : mx_sz M' ≤ R.slots + S0)
    (hgo : mx_Go nL G p l e R s m args below meth c0 Q L0 S0 (c.1 + 3, c.2.1, r.toList ++ rest, M')) : mx_Go nL G p l e R s m args below meth c0 Q L0 S0 c := by
  intro H locs ls h1 h2 hP hS hv
  obtain ⟨⟨hpn, hnL, hcw, hini, hmh, hvh⟩, idx, w, host, hl, hk⟩ := hcal
  have hMok : mx_Mok q := ⟨hpn, hnL, hcw, hini, hmh, hvh⟩
  obtain ⟨hx, hb, hml, hown, hts, -, hE, hbs, -, -⟩ := K
  have hfix : CallFix p m c0 bytes nL s args mx_GT y.cls := ⟨hx, hb, hml, hown, hts⟩
  have hroom : (mx_rm d c.2.2.2 M').frames + 1 ≤ R.frames ∧ 8 + (q.2.2.1 + 11) + (mx_rm d c.2.2.2 M').locals ≤ R.locals := ⟨hfr, by show 8 + (q.2.2.1 + 11) + 40 * d ≤ _; omega⟩
  have hf : c.2.2.2.length - L0 + (M'.length - c.2.2.2.length) ≤ R.cells ∧ mx_sz c.2.2.2 - S0 + (mx_sz M' - mx_sz c.2.2.2) ≤ R.slots := by
    have := hgr.1
    exact ⟨by omega, by omega⟩
  have hcatr : ((rest.map (mx_tr G)).map fun v => v.category).sum ≤ 8 := by rw [mx_cat_eq]; exact hcat
  have hUp : ∀ U : State, U.heap = H → s.WarmedH U.vm → mx_Pc G SA as c.2.2.2 (as.map (mx_tr G)).toArray U := fun U hU hW =>
    ⟨rfl, by rw [hU]; exact h2, by rw [hU]; exact hP, by rw [hU]; exact mx_Env_kept hE hW (fun a z1 z2 => hS.2.1 a z1 z2)⟩
  have hend : ∀ (H1 : Heap) (locs1 : List Loc), H1.size = G.1 + M'.length → va_P G.2.2.2 vwCl (mx_W G M') H1 → va_S (mx_A G) s.heap H1 locs1 → W p l e R s m args below meth c0 H1 locs1 (c.2.2.2.length - L0 + (M'.length - c.2.2.2.length)) (mx_sz c.2.2.2 - S0 + (mx_sz M' - mx_sz c.2.2.2)) Q (F0 m (pc + 3) ls ((r.map (mx_tr G)).toList ++ rest.map (mx_tr G))) := by
    intro H1 locs1 z1 z2 z3
    have g := hgo H1 locs1 ls (hgr.2 h1) z1 z2 z3 hv
    have g2 : W p l e R s m args below meth c0 H1 locs1 (M'.length - L0) (mx_sz M' - S0) Q (F0 m (c.1 + 3) ls ((r.toList ++ rest).map (mx_tr G))) := g
    have e1 : c.2.2.2.length - L0 + (M'.length - c.2.2.2.length) = M'.length - L0 := by have := hgr.1; omega
    have e2 : mx_sz c.2.2.2 - S0 + (mx_sz M' - mx_sz c.2.2.2) = mx_sz M' - S0 := by have := hgr.1; omega
    rw [e1, e2, ← hpc]
    rw [List.map_append] at g2
    cases r with
    | none => exact g2
    | some v => exact g2
  have hdm : ∀ n, mx_np q.1 n → q.1.cls ≠ "java/lang/invoke/MethodHandle" ∧ q.1.cls ≠ "java/lang/invoke/VarHandle" ∧ (parseMethodDescriptor q.1.desc).map (fun d => d.parameters.length) = some n := fun n h => ⟨hmh, hvh, h⟩
  rw [hpc, hst, List.map_append, List.map_reverse]
  rcases hk with ⟨-, hd, hn, hs⟩ | ⟨eL, hd, ⟨n, en, hn⟩, hin, hnm, hret⟩ | ⟨ci, T, N, hci, eL, hcl, hd, ⟨n, en, hn⟩, hin, hsel⟩ | ⟨eL, hcS, hhost, hd, ⟨n, en, hn⟩, hin, hsel⟩
  · have hp : PreS s H (mx_Pc G SA as c.2.2.2) (as.map (mx_tr G)) := ⟨mx_Pc_blind G SA as _, hUp⟩
    have hn' : (as.map (mx_tr G)).length = i.2.2.1 := by rw [List.length_map]; exact hlen
    cases host with
    | none =>
      exact mx_callW (va_runS hfix hM ⟨callB_of (ws' := mx_GT) i.2.2.1 hts (mx_wd_good hMok) rfl rfl rfl (hts _ hini) (hts _ (mx_gt w hl rfl)) (hdm _ hn) hroom, hts _ hs⟩ hp rfl hn' hv.1 rfl (lv_room hcatr) hd hf) hS hend
    | some h =>
      exact mx_callW (va_runSN hfix hM ⟨va_cnB (ws' := mx_GT) i.2.2.1 hts (mx_wd_good hMok) rfl rfl rfl (hE.2.1 _ (mx_ml_nest hl)) (hts _ hini) (hdm _ hn) hroom, hts _ hs, trivial⟩ hp rfl hn' hv.1 rfl (lv_room hcatr) hd hf) hS hend
  · rw [eL] at hrc
    obtain ⟨b, as', rfl⟩ := mx_rcv_ref hrc
    have hn' : (as'.map (mx_tr G)).length = n := by rw [List.length_map]; rw [en] at hlen; simpa using hlen
    have hp : PreS s H (mx_Pc G SA (.ref b :: as') c.2.2.2) (.ref (mx_ad G b) :: as'.map (mx_tr G)) := ⟨mx_Pc_blind G SA _ _, hUp⟩
    obtain ⟨qx, qb, qn, qr⟩ := q
    have hret : qr = none := hret
    subst hret
    rw [mx_stk]
    cases host with
    | none => exact mx_callW (va_runI hfix hM ⟨callB_of (ws' := mx_GT) n hts (mx_wd_good hMok) rfl rfl rfl (hts _ hini) (hts _ (mx_gt w hl rfl)) (hdm _ hn) hroom, hnm, hts _ hin⟩ hp rfl hn' hv.1 rfl (lv_room hcatr) hd hf) hS hend
    | some h => exact mx_callW (va_runIN hfix hM ⟨va_cnB (ws' := mx_GT) n hts (mx_wd_good hMok) rfl rfl rfl (hE.2.1 _ (mx_ml_nest hl)) (hts _ hini) (hdm _ hn) hroom, hnm, hts _ hin⟩ hp rfl hn' hv.1 rfl (lv_room hcatr) hd hf) hS hend
  · rw [eL] at hrc
    obtain ⟨b, as', fs, rfl, hbm⟩ := mx_rcv_obj hci hrc
    have hn' : (as'.map (mx_tr G)).length = n := by rw [List.length_map]; rw [en] at hlen; simpa using hlen
    have hb1 : b < 1000 := Nat.lt_of_lt_of_le (mx_len_lt hbm) h1
    have hrec := va_recv hE.1 hP hcl (mx_W_get hbm)
    rw [← mx_ad_lt hb1] at hrec
    have hp : PreV s H q.1.cls (mx_ad G b) (mx_Pc G SA (.ref b :: as') c.2.2.2) (as'.map (mx_tr G)) := ⟨mx_Pc_blind G SA _ _, hrec, hUp⟩
    rw [mx_stk]
    cases host with
    | none => exact mx_callW (va_runV hfix hM ⟨callB_of (ws' := mx_GT) n hts (mx_wd_good hMok) rfl rfl rfl (hts _ hini) (hts _ (mx_gt w hl rfl)) (hdm _ hn) hroom, hts _ hin, hts _ hsel⟩ hp rfl hn' hv.1 rfl (lv_room hcatr) hd hf) hS hend
    | some h => exact mx_callW (va_runVN hfix hM ⟨va_cnB (ws' := mx_GT) n hts (mx_wd_good hMok) rfl rfl rfl (hE.2.1 _ (mx_ml_nest hl)) (hts _ hini) (hdm _ hn) hroom, hts _ hin, hts _ hsel⟩ hp rfl hn' hv.1 rfl (lv_room hcatr) hd hf) hS hend
  · rw [eL] at hrc
    obtain ⟨b, as', rfl, hb1⟩ := mx_rcv_str hrc
    have hn' : (as'.map (mx_tr G)).length = n := by rw [List.length_map]; rw [en] at hlen; simpa using hlen
    have hb14 : b < mx_SR.length := hb1
    obtain ⟨-, hO, -, -⟩ := hE.2.2.2.2 b _ (List.getElem?_eq_getElem hb14)
    obtain ⟨cell, o1, o2, o3, -⟩ := hO.kept hS.2.1
    have ea := mx_ad_str G b
    have hrec : ∃ cellB : Cell, H[mx_ad G (1100 + b)]? = some cellB ∧ cellB.vm.isStatics = false ∧ s.vm.findClass q.1.cls = some cellB.cls := by
      rw [ea, hcS]
      exact ⟨cell, o1, o2, o3⟩
    have hp : PreV s H q.1.cls (mx_ad G (1100 + b)) (mx_Pc G SA (.ref (1100 + b) :: as') c.2.2.2) (as'.map (mx_tr G)) := ⟨mx_Pc_blind G SA _ _, hrec, hUp⟩
    subst hhost
    rw [mx_stk]
    exact mx_callW (va_runV hfix hM ⟨callB_of (ws' := mx_GT) n hts (mx_wd_good hMok) rfl rfl rfl (hts _ hini) (hts _ (mx_gt w hl rfl)) (hdm _ hn) hroom, hts _ hin, hts _ hsel⟩ hp rfl hn' hv.1 rfl (lv_room hcatr) hd hf) hS hend
