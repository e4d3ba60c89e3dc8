section MSM
variable {bytes : ByteArray} {nL : Nat} {y : MethodName} {pc a b : Nat} {L : List Nat}
/-- what is known of a class -/
def mx_Cls (ci : Nat) (C : String) (T : u_T) (N : Nat) (ty : Nat → FieldType) : Prop :=
  vwCl[ci]? = some (C, T, N) ∧ (∀ w ∈ u_ws C T N, w ∈ mx_GT) ∧ (∀ k, k < N → parseFieldDescriptor (T k).2.2.1 = some (ty k)) ∧ ∀ a, a < N → ∀ b, b < N → a ≠ b → (T a).2.1 ≠ (T b).2.1
/-- how a class names a field: by a link of its own, or of its nest -/
def mx_fl (own : String) (idx : Nat) (q : String × String × String × Bool) (w : Nat) (host : Option String) : Prop := match host with
  | none => lw_tbl[w]? = some (.fieldLink own idx q.1 q.2.1 q.2.2.1)
  | some h => lw_tbl[w]? = some (.fieldLinkNest own idx q.1 q.2.1 q.2.2.1 h)
theorem mx_fl_nest {own : String} {idx : Nat} {q : String × String × String × Bool} {w : Nat} {h : String} (hl : mx_fl own idx q w (some h)) : Cond.fieldLinkNest own idx q.1 q.2.1 q.2.2.1 h ∈ mx_NT :=
  List.mem_filter.mpr ⟨List.mem_of_getElem? hl, rfl⟩
theorem mx_get_inv {ci k : Nat} {c c' : mx_C} (h : mx_get ci k c = some c') : ∃ q st fs v, c.2.2.1 = .ref q :: st ∧ c.2.2.2[q]? = some (.inl (ci, fs)) ∧ fs[k]? = some v ∧ c' = (c.1 + 3, c.2.1, v :: st, c.2.2.2) := by
  unfold mx_get at h
  split at h
  · next q st hst =>
    split at h
    · next cj fs hq =>
      cases hb : Nat.beq cj ci with
      | false => rw [hb] at h; cases h
      | true =>
        rw [hb] at h
        have := Nat.eq_of_beq_eq_true hb
        subst this
        simp only [cond_true] at h
        split at h
        · next v hv => exact ⟨q, st, fs, v, hst, by rw [← mx_nth_eq]; exact hq, by rw [← mx_nth_eq]; exact hv, (Option.some.inj h).symm⟩
        · cases h
    · cases h
  · cases h
theorem mx_len_lt {α : Type} {l : List α} {k : Nat} {x : α} (h : l[k]? = some x) : k < l.length := (List.getElem?_eq_some_iff.mp h).1
theorem ms_get {C : String} {T : u_T} {N : Nat} {ty : Nat → FieldType} {idx w : Nat} {host : Option String} (hC : mx_Cls a C T N ty) (hb' : b < N) (hl : mx_fl y.cls idx (T b) w host) (hd : decode bytes pc = .ok (.getfield idx, 3)) : mx_Snd bytes nL y pc (51, a, b, L) := by
  intro G SA p l e R s m args below meth c0 Q L0 S0 K c c' hpc _ _ _ _ hop hgo H locs ls h1 h2 hP hS hv
  obtain ⟨q, st, fs, v, e1, e2, e3, rfl⟩ := mx_get_inv hop
  obtain ⟨hx, hb, hml, hown, hts, -, hE, -, -, -⟩ := K
  have hq : q < 1000 := Nat.lt_of_lt_of_le (mx_len_lt e2) h1
  rw [hpc, e1, List.map_cons]
  show W p l e R s m args below meth c0 H locs _ _ Q (F0 m pc ls (.ref (mx_ad G q) :: _))
  rw [mx_ad_lt hq]
  have g := hgo H locs ls h1 h2 hP hS hv
  rw [hpc] at g
  cases host with
  | none =>
    exact va_get (own := y.cls) (ref := (T b).1) (index := idx) hx hb hts hC.2.1 hown hE.1 hP q (mx_W_get e2) hC.1 b hb' (hts _ (mx_gt w hl rfl)) (fun _ h => h) (v := mx_tr G v) (by rw [List.getElem?_map, e3]; rfl) hd g
  | some h =>
    exact va_getN (own := y.cls) (ref := (T b).1) (index := idx) (host := h) hx hb hts hC.2.1 hown hE.1 hP q (mx_W_get e2) hC.1 b hb' (va_Nw.use rfl (hE.2.1 _ (mx_fl_nest hl))) (fun _ h => h) (v := mx_tr G v) (by rw [List.getElem?_map, e3]; rfl) hd g
theorem mx_put_inv {ci k : Nat} {c c' : mx_C} (h : mx_put ci k c = some c') : ∃ q st fs v, c.2.2.1 = .int v :: .ref q :: st ∧ c.2.2.2[q]? = some (.inl (ci, fs)) ∧ k < fs.length ∧ c' = (c.1 + 3, c.2.1, st, c.2.2.2.set q (.inl (ci, fs.set k (.int v)))) := by
  unfold mx_put at h
  split at h
  · next v q st hst =>
    split at h
    · next cj fs hq =>
      cases hb : Nat.beq cj ci && Nat.blt k fs.length with
      | false => rw [hb] at h; cases h
      | true =>
        rw [hb] at h
        simp only [Bool.and_eq_true] at hb
        have := Nat.eq_of_beq_eq_true hb.1
        subst this
        exact ⟨q, st, fs, v, hst, by rw [← mx_nth_eq]; exact hq, Nat.le_of_ble_eq_true hb.2, (Option.some.inj h).symm⟩
    · cases h
  · cases h
theorem mx_putF_inv {ci k : Nat} {c c' : mx_C} (h : mx_putF ci k c = some c') : ∃ q st fs v, c.2.2.1 = .ref v :: .ref q :: st ∧ c.2.2.2[q]? = some (.inl (ci, fs)) ∧ k < fs.length ∧ c' = (c.1 + 3, c.2.1, st, c.2.2.2.set q (.inl (ci, fs.set k (.ref v)))) := by
  unfold mx_putF at h
  split at h
  · next v q st hst =>
    split at h
    · next cj fs hq =>
      cases hb : Nat.beq cj ci && Nat.blt k fs.length with
      | false => rw [hb] at h; cases h
      | true =>
        rw [hb] at h
        simp only [Bool.and_eq_true] at hb
        have := Nat.eq_of_beq_eq_true hb.1
        subst this
        exact ⟨q, st, fs, v, hst, by rw [← mx_nth_eq]; exact hq, Nat.le_of_ble_eq_true hb.2, (Option.some.inj h).symm⟩
    · cases h
  · cases h
/-- a cell changed -/
theorem mx_P_set {G : mx_G} {M : mx_M} {q : Nat} {e0 e : mx_E} {H H1 : Heap} (hP : va_P G.2.2.2 vwCl (mx_W G M) H) (h0 : M[q]? = some e0) (he : va_at G.2.2.2 vwCl (G.1 + q, mx_tE G e) H1) (oq : ∀ x : Nat, x ≠ G.1 + q → H1[x]? = H[x]?) : va_P G.2.2.2 vwCl (mx_W G (M.set q e)) H1 := by
  rw [← mx_W_set]
  exact hP.set (mx_W_D G M) (mx_W_get h0) he oq
theorem mx_A_in (G : mx_G) (q : Nat) : mx_A G (G.1 + q) := by
  show G.1 ≤ G.1 + q
  omega
/-- goes on behind a cell changed -/
theorem mx_Go_set {G : mx_G} {p : Program} {l : Launch} {e : Env} {R : Room} {s : State} {m : MethodId} {args : Array Value} {below : List Frame} {meth : Method} {c0 : Code} {Q : State → Prop} {L0 S0 n : Nat} {lv : mx_L} {st : List Value} {M : mx_M} {q : Nat} {e0 e1 : mx_E} {H : Heap} {locs : List Loc} {ls : Array Slot}
    (hgo : mx_Go nL G p l e R s m args below meth c0 Q L0 S0 (n, lv, st, M.set q e1)) (h1 : M.length ≤ 1000) (h2 : H.size = G.1 + M.length) (hP : va_P G.2.2.2 vwCl (mx_W G M) H) (hS : va_S (mx_A G) s.heap H locs) (hv : lv_has ls nL (lv.map (mx_tq G))) (h0 : M[q]? = some e0) (hsz : mx_szE e1 = mx_szE e0)
    {H1 : Heap} {k : Nat} (he : va_at G.2.2.2 vwCl (G.1 + q, mx_tE G e1) H1) (z : H1.size = H.size) (oq : ∀ x : Nat, x ≠ G.1 + q → H1[x]? = H[x]?) :
    W p l e R s m args below meth c0 H1 (locs ++ [⟨G.1 + q, k⟩]) (M.length - L0) (mx_sz M - S0) Q (F0 m n ls (st.map (mx_tr G))) := by
  have g := hgo H1 (locs ++ [⟨G.1 + q, k⟩]) ls (by rw [List.length_set]; exact h1) (by rw [List.length_set, z]; exact h2) (mx_P_set hP h0 he oq) (hS.put z oq (mx_A_in G q)) hv
  have e3 : (M.set q e1).length = M.length := List.length_set
  have e4 : mx_sz (M.set q e1) = mx_sz M := mx_sz_set h0 hsz
  have g2 : W p l e R s m args below meth c0 H1 (locs ++ [⟨G.1 + q, k⟩]) ((M.set q e1).length - L0) (mx_sz (M.set q e1) - S0) Q (F0 m n ls (st.map (mx_tr G))) := g
  rw [e3, e4] at g2
  exact g2
theorem ms_put {C : String} {T : u_T} {N : Nat} {ty : Nat → FieldType} {idx w : Nat} {host : Option String} (hC : mx_Cls a C T N ty) (hb' : b < N) (hl : mx_fl y.cls idx (T b) w host) (hf : (T b).2.2.2 = false) (hi : ty b = .int) (hd : decode bytes pc = .ok (.putfield idx, 3)) : mx_Snd bytes nL y pc (53, a, b, L) := by
  intro G SA p l e R s m args below meth c0 Q L0 S0 K c c' hpc _ _ _ _ hop hgo H locs ls h1 h2 hP hS hv
  obtain ⟨q, st, fs, v, e1, e2, e3, rfl⟩ := mx_put_inv hop
  obtain ⟨hx, hb, hml, hown, hts, -, hE, -, -, -⟩ := K
  have hq : q < 1000 := Nat.lt_of_lt_of_le (mx_len_lt e2) h1
  rw [hpc, e1, List.map_cons, List.map_cons]
  show W p l e R s m args below meth c0 H locs _ _ Q (F0 m pc ls (.int v :: .ref (mx_ad G q) :: _))
  rw [mx_ad_lt hq]
  rw [hpc] at hgo
  obtain ⟨r, hr1, cell, q1, q2, q3, q4⟩ := hP q _ (mx_W_get e2)
  have hr : r = (C, T, N) := Option.some.inj (hr1.symm.trans hC.1)
  subst hr
  obtain ⟨hSl, hfc, kC, hkC, hkind⟩ := hE.1.1 a _ hC.1
  obtain ⟨cf, kf, fi, f, hi', hsl⟩ := hSl b hb'
  have hap := va_apart (own := y.cls) hts hC.2.1 ty hC.2.2.1 hC.2.2.2 hE.1 hC.1
  have hlay := hts _ (hC.2.1 _ (u_in_lay hb'))
  unfold u_lay at hlay
  rw [if_neg (by rw [hf]; decide)] at hlay
  have hst := (u_facts hfc hkC (u_lays hts hC.2.1 hb') hi').1
  have h6 := u_store (v := .int v) (ty := .int) hfc hkC hkind hlay hi' (by rw [hC.2.2.1 b hb', hi]) rfl rfl
  have hkk : ∀ H' : Heap, H'[G.1 + q]? = some (cell.setSlot f.slot (.int v)) → H'.size = H.size → (∀ x, x ≠ G.1 + q → H'[x]? = H[x]?) → W p l e R s m args below meth c0 H' (locs ++ [⟨G.1 + q, f.slot⟩]) (c.2.2.2.length - L0) (mx_sz c.2.2.2 - S0) Q (F0 m (pc + 3) ls (st.map (mx_tr G))) := by
    intro H' g1 g2 g3
    refine mx_Go_set hgo h1 h2 hP hS hv e2 (by simp [mx_szE]) ?_ g2 g3
    rw [hsl] at g1
    have ht := t_OB.to (V := updV (vp_V (fs.map (mx_tr G))) b (.int v)) ⟨_, g1, q2, q3, t_set q4 hap hb' (.int v)⟩ (fun j _ => vp_updV_set (by rw [List.length_map]; exact e3) (.int v) j)
    refine ⟨_, hC.1, ?_⟩
    show t_OB _ _ _ _ _ (vp_V ((fs.set b (.int v)).map (mx_tr G)))
    rw [List.map_set]
    exact ht
  cases host with
  | none => exact W.putK hx hb (f := f) ⟨hown, hts _ (mx_gt w hl rfl), ⟨_, _, _, hi'⟩, hst⟩ (by rw [q2]; exact h6) q1 q3 (by rw [hsl]; exact k2_hasslot (q4 b hb')) rfl rfl hd hkk
  | some h => exact va_WputK hx hb (f := f) hown (va_Nw.use rfl (hE.2.1 _ (mx_fl_nest hl))) hi' hst (by rw [q2]; exact h6) q1 q3 (by rw [hsl]; exact k2_hasslot (q4 b hb')) rfl rfl hd hkk
/-- a field's type is a reference's -/
def mx_rt (t : FieldType) : Bool := match t with
  | .object _ => true
  | .array _ => true
  | _ => false
theorem mx_rt_fits {t : FieldType} (h : mx_rt t = true) (q : Nat) : narrow t (.ref q) = .ref q ∧ fits t (.ref q) = true := by
  cases t <;> first
    | (cases h; done)
    | exact ⟨rfl, rfl⟩
theorem ms_putF {C : String} {T : u_T} {N : Nat} {ty : Nat → FieldType} {idx w : Nat} (hC : mx_Cls a C T N ty) (hb' : b < N) (hl : mx_fl y.cls idx (T b) w none) (hf : (T b).2.2.2 = true) (hi : mx_rt (ty b) = true) (hn : y.name = "<init>") (hdc : (T b).1 = y.cls) (hd : decode bytes pc = .ok (.putfield idx, 3)) : mx_Snd bytes nL y pc (54, a, b, L) := by
  intro G SA p l e R s m args below meth c0 Q L0 S0 K c c' hpc _ _ _ _ hop hgo H locs ls h1 h2 hP hS hv
  obtain ⟨q, st, fs, v, e1, e2, e3, rfl⟩ := mx_putF_inv hop
  obtain ⟨hx, hb, hml, hown, hts, hnm, hE, -, -, -⟩ := K
  have hq : q < 1000 := Nat.lt_of_lt_of_le (mx_len_lt e2) h1
  rw [hpc, e1, List.map_cons, List.map_cons]
  show W p l e R s m args below meth c0 H locs _ _ Q (F0 m pc ls (.ref (mx_ad G v) :: .ref (mx_ad G q) :: _))
  rw [mx_ad_lt hq]
  rw [hpc] at hgo
  obtain ⟨r, hr1, cell, q1, q2, q3, q4⟩ := hP q _ (mx_W_get e2)
  have hr : r = (C, T, N) := Option.some.inj (hr1.symm.trans hC.1)
  subst hr
  obtain ⟨hSl, hfc, kC, hkC, hkind⟩ := hE.1.1 a _ hC.1
  obtain ⟨cf, kf, fi, f, hi', hsl⟩ := hSl b hb'
  have hap := va_apart (own := y.cls) hts hC.2.1 ty hC.2.2.1 hC.2.2.2 hE.1 hC.1
  have hlay := hts _ (hC.2.1 _ (u_in_lay hb'))
  unfold u_lay at hlay
  rw [if_pos hf] at hlay
  have hst := (u_facts hfc hkC (u_lays hts hC.2.1 hb') hi').1
  have hcf : m.cls = cf := by
    obtain ⟨_, _, c', _, _, _, -, -, hf', -, -, -, hown2, -⟩ := Cond.laysFinal_spec hlay
    have e1 : c' = cf := by have := hi'.symm.trans hf'; simp at this; exact this.1.symm
    rw [hdc] at hown2
    rw [← e1]; exact Option.some.inj (hown.symm.trans hown2)
  have h6 := u_fits (v := .ref (mx_ad G v)) hfc hkC hkind (Or.inr hlay) hi' (hC.2.2.1 b hb') (mx_rt_fits hi _).1 (mx_rt_fits hi _).2
  refine W.putFinK hx hb hown (hts _ (mx_gt w hl rfl)) hi' hst hcf (hnm hn) (by rw [q2]; exact h6) q1 q3 (by rw [hsl]; exact k2_hasslot (q4 b hb')) rfl rfl hd fun H' g1 g2 g3 => ?_
  refine mx_Go_set hgo h1 h2 hP hS hv e2 (by simp [mx_szE]) ?_ g2 g3
  rw [hsl] at g1
  have ht := t_OB.to (V := updV (vp_V (fs.map (mx_tr G))) b (.ref (mx_ad G v))) ⟨_, g1, q2, q3, t_set q4 hap hb' (.ref (mx_ad G v))⟩ (fun j _ => vp_updV_set (by rw [List.length_map]; exact e3) (.ref (mx_ad G v)) j)
  refine ⟨_, hC.1, ?_⟩
  show t_OB _ _ _ _ _ (vp_V ((fs.set b (.ref v)).map (mx_tr G)))
  rw [List.map_set]
  exact ht
/-- arrays -/
theorem mx_inb_in {i : Int32} {n : Nat} (h : mx_inb i n = true) : vp_in i n := by
  rw [vp_in_iff]
  unfold mx_inb at h
  split at h
  · next k hk =>
    have h := Nat.le_of_ble_eq_true h
    rw [hk]
    constructor
    · exact Int.natCast_nonneg k
    · show (k : Int) < n
      omega
  · cases h
theorem mx_ar_inv {SA : mx_S} {M : mx_M} {q t : Nat} {x : vp_A} (h : mx_ar SA M q = some (t, x)) : (1000 ≤ q ∧ SA (q - 1000) = some (t, x)) ∨ (q < 1000 ∧ M[q]? = some (.inr (t, x)) ∧ mx_kd t x = true) := by
  unfold mx_ar at h
  cases hb : Nat.ble 1000 q with
  | true =>
    rw [hb] at h
    exact Or.inl ⟨Nat.le_of_ble_eq_true hb, h⟩
  | false =>
    rw [hb] at h
    have hlt : q < 1000 := by
      rcases Nat.lt_or_ge q 1000 with z | z
      · exact z
      · rw [Nat.ble_eq_true_of_le z] at hb
        cases hb
    refine Or.inr ⟨hlt, ?_⟩
    simp only [cond_false] at h
    split at h
    · next u z hz =>
      cases hk : mx_kd u z with
      | false => rw [hk] at h; cases h
      | true =>
        rw [hk] at h
        cases h
        exact ⟨by rw [← mx_nth_eq, hz], hk⟩
    · cases h
theorem mx_kd_lt {t : Nat} {x : vp_A} (h : mx_kd t x = true) : t < 4 := by
  obtain ⟨n, f | f | f | f | f⟩ := x
  · have h : t < 3 := Nat.le_of_ble_eq_true h
    omega
  · have h := Nat.eq_of_beq_eq_true (show Nat.beq t 3 = true from h)
    omega
  · cases h
  · cases h
  · cases h
theorem mx_ad_st {G : mx_G} {q : Nat} (h : 1000 ≤ q) : mx_ad G q = G.2.1 (q - 1000) := by
  unfold mx_ad
  rw [if_neg (by omega)]
theorem ms_alen (hd : decode bytes pc = .ok (.arraylength, 1)) : mx_Snd bytes nL y pc (57, a, b, L) := by
  intro G SA p l e R s m args below meth c0 Q L0 S0 K c c' hpc _ _ _ _ hop hgo H locs ls h1 h2 hP hS hv
  have hop : mx_alen SA c = some c' := hop
  obtain ⟨hx, hb, hml, hown, hts, -, hE, -, -, -⟩ := K
  unfold mx_alen at hop
  split at hop
  · next q st hst =>
    split at hop
    · next t x hax =>
      have h := Option.some.inj hop
      subst h
      have g := hgo H locs ls h1 h2 hP hS hv
      rw [hpc] at g
      rw [hpc, hst, List.map_cons]
      show W p l e R s m args below meth c0 H locs _ _ Q (F0 m pc ls (.ref (mx_ad G q) :: _))
      rcases mx_ar_inv hax with ⟨z1, z2⟩ | ⟨z1, z2, z3⟩
      · rw [mx_ad_st z1]
        exact va_tlen hx hb (hE.2.2.1 _ _ _ z2).2 hS rfl hd g
      · rw [mx_ad_lt z1]
        exact va_alen hx hb hE.1 hP q t (mx_W_get z2) (mx_tys_at G (mx_kd_lt z3)) rfl hd g
    · cases hop
  · cases hop
theorem mx_ald_inv {SA : mx_S} {t : Nat} {c c' : mx_C} (h : mx_ald SA t c = some c') : ∃ i q st x, c.2.2.1 = .int i :: .ref q :: st ∧ mx_ar SA c.2.2.2 q = some (t, x) ∧ mx_inb i x.1 = true ∧ c' = (c.1 + 1, c.2.1, mx_con x i.toNatClampNeg :: st, c.2.2.2) := by
  unfold mx_ald at h
  split at h
  · next i q st hst =>
    split at h
    · next u x hax =>
      cases hq : Nat.beq u t && mx_inb i x.1 with
      | false => rw [hq] at h; cases h
      | true =>
        rw [hq] at h
        simp only [Bool.and_eq_true] at hq
        have hu := Nat.eq_of_beq_eq_true hq.1
        subst hu
        exact ⟨i, q, st, x, hst, hax, hq.2, (Option.some.inj h).symm⟩
    · cases h
  · cases h
theorem ms_ald (hd : (a = 0 ∧ decode bytes pc = .ok (.iaload, 1)) ∨ (a = 1 ∧ decode bytes pc = .ok (.baload, 1)) ∨ (a = 2 ∧ decode bytes pc = .ok (.baload, 1)) ∨ (a = 3 ∧ decode bytes pc = .ok (.laload, 1))) : mx_Snd bytes nL y pc (58, a, b, L) := by
  intro G SA p l e R s m args below meth c0 Q L0 S0 K c c' hpc _ _ _ _ hop hgo H locs ls h1 h2 hP hS hv
  obtain ⟨i, q, st, x, hst, hax, hq2, rfl⟩ := mx_ald_inv hop
  obtain ⟨hx, hb, hml, hown, hts, -, hE, -, -, -⟩ := K
  have hin := mx_inb_in hq2
  have g := hgo H locs ls h1 h2 hP hS hv
  rw [hpc] at g
  have g : W p l e R s m args below meth c0 H locs (c.2.2.2.length - L0) (mx_sz c.2.2.2 - S0) Q (F0 m (pc + 1) ls (mx_tr G (mx_con x i.toNatClampNeg) :: st.map (mx_tr G))) := g
  rw [mx_con_tr] at g
  rw [hpc, hst, List.map_cons, List.map_cons]
  show W p l e R s m args below meth c0 H locs _ _ Q (F0 m pc ls (.int i :: .ref (mx_ad G q) :: _))
  rcases mx_ar_inv hax with ⟨z1, z2⟩ | ⟨z1, z2, z3⟩
  · rw [mx_ad_st z1]
    have hT := (hE.2.2.1 _ _ _ z2).2
    rcases hd with ⟨rfl, hd⟩ | ⟨rfl, hd⟩ | ⟨rfl, hd⟩ | ⟨rfl, hd⟩
    · exact va_ti hx hb hT hS hin rfl hd g
    · exact va_tb hx hb hT hS hin rfl hd g
    · exact va_tz hx hb hT hS hin rfl hd g
    · exact va_tl hx hb hT hS hin rfl hd g
  · rw [mx_ad_lt z1]
    obtain ⟨n, f | f | f | f | f⟩ := x
    · rcases hd with ⟨rfl, hd⟩ | ⟨rfl, hd⟩ | ⟨rfl, hd⟩ | ⟨rfl, hd⟩
      · exact va_iald hx hb hE.1 hP q 0 (mx_W_get z2) (mx_tys_at G (by decide)) hin hd g
      · exact va_bald hx hb hE.1 hP q 1 (mx_W_get z2) (mx_tys_at G (by decide)) hin hd g
      · exact va_zald hx hb hE.1 hP q 2 (mx_W_get z2) (mx_tys_at G (by decide)) hin hd g
      · cases z3
    · rcases hd with ⟨rfl, hd⟩ | ⟨rfl, hd⟩ | ⟨rfl, hd⟩ | ⟨rfl, hd⟩
      · cases z3
      · cases z3
      · cases z3
      · exact va_lald hx hb hE.1 hP q 3 (mx_W_get z2) (mx_tys_at G (by decide)) hin hd g
    · cases z3
    · cases z3
    · cases z3
theorem mx_ast_inv {t : Nat} {c c' : mx_C} (h : mx_ast t c = some c') : ∃ v i q st n f, c.2.2.1 = .int v :: .int i :: .ref q :: st ∧ c.2.2.2[q]? = some (.inr (t, n, .inl f)) ∧ mx_inb i n = true ∧ c' = (c.1 + 1, c.2.1, st, c.2.2.2.set q (.inr (t, n, .inl (upd f i.toNatClampNeg (mx_nar t v))))) := by
  unfold mx_ast at h
  split at h
  · next v i q st hst =>
    split at h
    · next u n f hq =>
      cases hb : Nat.beq u t && mx_inb i n with
      | false => rw [hb] at h; cases h
      | true =>
        rw [hb] at h
        simp only [Bool.and_eq_true] at hb
        have := Nat.eq_of_beq_eq_true hb.1
        subst this
        exact ⟨v, i, q, st, n, f, hst, by rw [← mx_nth_eq]; exact hq, hb.2, (Option.some.inj h).symm⟩
    · cases h
  · cases h
theorem mx_last_inv {c c' : mx_C} (h : mx_last c = some c') : ∃ v i q st n f, c.2.2.1 = .long v :: .int i :: .ref q :: st ∧ c.2.2.2[q]? = some (.inr (3, n, .inr (.inl f))) ∧ mx_inb i n = true ∧ c' = (c.1 + 1, c.2.1, st, c.2.2.2.set q (.inr (3, n, .inr (.inl (vp_updL f i.toNatClampNeg v))))) := by
  unfold mx_last at h
  split at h
  · next v i q st hst =>
    split at h
    · next u n f hq =>
      cases hb : Nat.beq u 3 && mx_inb i n with
      | false => rw [hb] at h; cases h
      | true =>
        rw [hb] at h
        simp only [Bool.and_eq_true] at hb
        have := Nat.eq_of_beq_eq_true hb.1
        subst this
        exact ⟨v, i, q, st, n, f, hst, by rw [← mx_nth_eq]; exact hq, hb.2, (Option.some.inj h).symm⟩
    · cases h
  · cases h
theorem mx_upd_eq (f : Nat → Int32) (k : Nat) (x : Int32) : (fun j => Value.int (upd f k x j)) = updV (fun j => .int (f j)) k (.int x) := by
  funext j
  by_cases h : j = k
  · simp [upd, updV, h]
  · simp [upd, updV, h]
theorem mx_updL_eq (f : Nat → Int64) (k : Nat) (x : Int64) : (fun j => Value.long (vp_updL f k x j)) = updV (fun j => .long (f j)) k (.long x) := by
  funext j
  by_cases h : j = k
  · simp [vp_updL, updV, h]
  · simp [vp_updL, updV, h]
theorem mx_nar_eq (x : Int32) : narrow .byte (.int x) = .int (vp_nar .byte x) ∧ narrow .boolean (.int x) = .int (vp_nar .boolean x) := ⟨rfl, rfl⟩
theorem ms_ast (hd : (a = 0 ∧ decode bytes pc = .ok (.iastore, 1)) ∨ (a = 1 ∧ decode bytes pc = .ok (.bastore, 1)) ∨ (a = 2 ∧ decode bytes pc = .ok (.bastore, 1))) : mx_Snd bytes nL y pc (59, a, b, L) := by
  intro G SA p l e R s m args below meth c0 Q L0 S0 K c c' hpc _ _ _ _ hop hgo H locs ls h1 h2 hP hS hv
  obtain ⟨v, i, q, st, n, f, e1, e2, e3, rfl⟩ := mx_ast_inv hop
  obtain ⟨hx, hb, hml, hown, hts, -, hE, -, -, -⟩ := K
  have hq : q < 1000 := Nat.lt_of_lt_of_le (mx_len_lt e2) h1
  have hin := mx_inb_in e3
  rw [hpc, e1, List.map_cons, List.map_cons, List.map_cons]
  show W p l e R s m args below meth c0 H locs _ _ Q (F0 m pc ls (.int v :: .int i :: .ref (mx_ad G q) :: _))
  rw [mx_ad_lt hq]
  rw [hpc] at hgo
  have hsz : ¬ (i < 0 ∨ (vp_cell (G.2.2.1 a) (n, .inl f)).slots.size ≤ i.toNatClampNeg) := by
    show ¬ (i < 0 ∨ (arrV _ _ _).slots.size ≤ _)
    rw [arrV_size]
    exact hin
  have hat : ∀ (x : Int32) (H1 : Heap), H1[G.1 + q]? = some ((vp_cell (G.2.2.1 a) (n, .inl f)).setSlot i.toNatClampNeg (.int x)) → va_at G.2.2.2 vwCl (G.1 + q, mx_tE G (.inr (a, n, .inl (upd f i.toNatClampNeg x)))) H1 := by
    intro x H1 g
    show H1[G.1 + q]? = some (vp_cell (G.2.2.1 a) (n, .inl (upd f i.toNatClampNeg x)))
    rw [g, vp_cell_i, vp_cell_i, arrV_store, mx_upd_eq]
  rcases hd with ⟨rfl, hd⟩ | ⟨rfl, hd⟩ | ⟨rfl, hd⟩
  · exact W.iast hx hb (hP q _ (mx_W_get e2)) ((hE.1.2 0 _ (mx_tys_at G (by decide))).1 n (fun j => .int (f j))) (fun z => by cases z) hsz rfl rfl hd fun H1 g z oq => mx_Go_set hgo h1 h2 hP hS hv e2 rfl (hat v H1 g) z oq
  · exact W.bast hx hb (hP q _ (mx_W_get e2)) ((hE.1.2 1 _ (mx_tys_at G (by decide))).1 n (fun j => .int (f j))) (fun z => by cases z) hsz rfl rfl hd fun H1 g z oq => mx_Go_set hgo h1 h2 hP hS hv e2 rfl (hat (vp_nar .byte v) H1 g) z oq
  · exact W.zast hx hb (hP q _ (mx_W_get e2)) ((hE.1.2 2 _ (mx_tys_at G (by decide))).1 n (fun j => .int (f j))) (fun z => by cases z) hsz rfl rfl hd fun H1 g z oq => mx_Go_set hgo h1 h2 hP hS hv e2 rfl (hat (vp_nar .boolean v) H1 g) z oq
theorem ms_last (hd : decode bytes pc = .ok (.lastore, 1)) : mx_Snd bytes nL y pc (60, a, b, L) := by
  intro G SA p l e R s m args below meth c0 Q L0 S0 K c c' hpc _ _ _ _ hop hgo H locs ls h1 h2 hP hS hv
  obtain ⟨v, i, q, st, n, f, e1, e2, e3, rfl⟩ := mx_last_inv hop
  obtain ⟨hx, hb, hml, hown, hts, -, hE, -, -, -⟩ := K
  have hq : q < 1000 := Nat.lt_of_lt_of_le (mx_len_lt e2) h1
  have hin := mx_inb_in e3
  rw [hpc, e1, List.map_cons, List.map_cons, List.map_cons]
  show W p l e R s m args below meth c0 H locs _ _ Q (F0 m pc ls (.long v :: .int i :: .ref (mx_ad G q) :: _))
  rw [mx_ad_lt hq]
  rw [hpc] at hgo
  have hsz : ¬ (i < 0 ∨ (vp_cell (G.2.2.1 3) (n, .inr (.inl f))).slots.size ≤ i.toNatClampNeg) := by
    show ¬ (i < 0 ∨ (arrV _ _ _).slots.size ≤ _)
    rw [arrV_size]
    exact hin
  refine W.last hx hb (hP q _ (mx_W_get e2)) ((hE.1.2 3 _ (mx_tys_at G (by decide))).1 n (fun j => .long (f j))) (fun z => by cases z) hsz rfl rfl hd fun H1 g z oq => mx_Go_set hgo h1 h2 hP hS hv e2 rfl ?_ z oq
  show H1[G.1 + q]? = some (vp_cell (G.2.2.1 3) (n, .inr (.inl (vp_updL f i.toNatClampNeg v))))
  rw [g, vp_cell_l, vp_cell_l, arrV_store, mx_updL_eq]
end MSM
