section MSN
variable {bytes : ByteArray} {nL : Nat} {y : MethodName} {pc a b : Nat} {L : List Nat}
/-- how a static field is named -/
theorem ms_gets {q : mx_F} {idx w : Nat} {host : Option String} (hq : mx_SF[a]? = some q) (hl : mx_fl y.cls idx (q.1, q.2.1, q.2.2.1, false) w host) (hd : decode bytes pc = .ok (.getstatic idx, 3)) : mx_Snd bytes nL y pc (55, a, b, L) := by
  intro G SA p l e R s m args below meth c0 Q L0 S0 K c c' hpc _ _ _ _ hop hgo H locs ls h1 h2 hP hS hv
  have hop : (match mx_nth mx_SF a with
    | some q => mx_push q.2.2.2 3 c
    | none => none) = some c' := hop
  rw [mx_nth_eq, hq] at hop
  have h := Option.some.inj hop
  subst h
  obtain ⟨hx, hb, hml, hown, hts, -, hE, -, -, -⟩ := K
  have g := hgo H locs ls h1 h2 hP hS hv
  rw [hpc] at g
  rw [hpc]
  have hZ := hE.2.2.2.1 q (List.mem_of_getElem? hq)
  cases host with
  | none => exact va_gets (own := y.cls) (ref := q.1) (index := idx) hx hb hZ hS hown (hts _ (mx_gt w hl rfl)) (fun _ h => h) hd g
  | some h => exact va_getsN (own := y.cls) (ref := q.1) (host := h) (index := idx) hx hb hZ hS hown (va_Nw.use rfl (hE.2.1 _ (mx_fl_nest hl))) (fun _ h => h) hd g
theorem ms_ldcS {idx : Nat} {tx : String} (hq : mx_SR[a]? = some (y.cls, idx, tx)) (hd : decode bytes pc = .ok (.ldc idx, 2)) : mx_Snd bytes nL y pc (56, a, b, L) := by
  intro G SA p l e R s m args below meth c0 Q L0 S0 K c c' hpc _ _ _ _ hop hgo H locs ls h1 h2 hP hS hv
  have ha : a < 14 := (List.getElem?_eq_some_iff.mp hq).1
  have hop : (bif Nat.blt a 14 then mx_push (.ref (1100 + a)) 2 c else none) = some c' := hop
  have hbl : Nat.blt a 14 = true := Nat.ble_eq_true_of_le ha
  rw [hbl] at hop
  have h := Option.some.inj hop
  subst h
  obtain ⟨hx, hb, hml, hown, hts, -, hE, -, -, -⟩ := K
  have g := hgo H locs ls h1 h2 hP hS hv
  rw [hpc] at g
  rw [hpc]
  have hR := (hE.2.2.2.2 a _ hq).1
  have ea : mx_ad G (1100 + a) = G.2.1 (100 + a) := by
    rw [show 1100 + a = 1000 + (100 + a) by omega]
    exact mx_ad_ge
  have g : W p l e R s m args below meth c0 H locs (c.2.2.2.length - L0) (mx_sz c.2.2.2 - S0) Q (F0 m (pc + 2) ls (.ref (mx_ad G (1100 + a)) :: c.2.2.1.map (mx_tr G))) := g
  rw [ea] at g
  exact va_ldcS hx hb hown hR hd g
theorem mx_gs_ar {q N : Nat} (z1 : 1100 ≤ q) (z2 : q < 1100 + N) : q = 1100 + (q - 1100) ∧ q - 1100 < N ∧ 1200 + (q - 1100) = q + 100 := ⟨by omega, by omega, by omega⟩
theorem mx_gstr_inv {k N : Nat} {c c' : mx_C} (h : mx_gstr k N c = some c') : ∃ i st, i < N ∧ c.2.2.1 = .ref (1100 + i) :: st ∧ c' = (c.1 + 3, c.2.1, (bif Nat.beq k 0 then .ref (1200 + i) else .int 0) :: st, c.2.2.2) := by
  unfold mx_gstr at h
  split at h
  · next q st hst =>
    cases hb : Nat.ble 1100 q && Nat.blt q (1100 + N) with
    | false => rw [hb] at h; cases h
    | true =>
      rw [hb] at h
      simp only [Bool.and_eq_true] at hb
      have z1 : 1100 ≤ q := Nat.le_of_ble_eq_true hb.1
      have z2 : q < 1100 + N := Nat.le_of_ble_eq_true hb.2
      obtain ⟨e, e2, e3⟩ := mx_gs_ar z1 z2
      refine ⟨q - 1100, st, e2, by rw [← e]; exact hst, ?_⟩
      rw [e3]
      exact (Option.some.inj h).symm
  · cases h
theorem ms_gstr {idx w : Nat} (ha : (a = 0 ∧ lw_tbl[w]? = some (.fieldLink y.cls idx "java/lang/String" "value" "[B")) ∨ (a = 1 ∧ lw_tbl[w]? = some (.fieldLink y.cls idx "java/lang/String" "coder" "B"))) (hd : decode bytes pc = .ok (.getfield idx, 3)) : mx_Snd bytes nL y pc (52, a, b, L) := by
  intro G SA p l e R s m args below meth c0 Q L0 S0 K c c' hpc _ _ _ _ hop hgo H locs ls h1 h2 hP hS hv
  obtain ⟨i, st, hi, e1, rfl⟩ := mx_gstr_inv hop
  obtain ⟨hx, hb, hml, hown, hts, -, hE, -, -, -⟩ := K
  have hi14 : i < mx_SR.length := hi
  obtain ⟨-, -, hco, hva⟩ := hE.2.2.2.2 i _ (List.getElem?_eq_getElem hi14)
  have g := hgo H locs ls h1 h2 hP hS hv
  rw [hpc] at g
  rw [hpc, e1, List.map_cons]
  have ea : mx_ad G (1100 + i) = G.2.1 (100 + i) := by
    rw [show 1100 + i = 1000 + (100 + i) by omega]
    exact mx_ad_ge
  have ea2 : mx_ad G (1200 + i) = G.2.1 (200 + i) := by
    rw [show 1200 + i = 1000 + (200 + i) by omega]
    exact mx_ad_ge
  show W p l e R s m args below meth c0 H locs _ _ Q (F0 m pc ls (.ref (mx_ad G (1100 + i)) :: _))
  rw [ea]
  rcases ha with ⟨rfl, hl⟩ | ⟨rfl, hl⟩
  · have g : W p l e R s m args below meth c0 H locs (c.2.2.2.length - L0) (mx_sz c.2.2.2 - S0) Q (F0 m (pc + 3) ls (.ref (mx_ad G (1200 + i)) :: st.map (mx_tr G))) := g
    rw [ea2] at g
    exact vk_getf (own := y.cls) (ref := "java/lang/String") (index := idx) hx hb hva hS hown (hts _ (mx_gt w hl rfl)) (fun _ h => h) hd g
  · exact vk_getf (own := y.cls) (ref := "java/lang/String") (index := idx) hx hb hco hS hown (hts _ (mx_gt w hl rfl)) (fun _ h => h) hd g
/-- new objects -/
theorem mx_new_inv {ci : Nat} {fs : List Value} {c c' : mx_C} (h : mx_new ci fs c = some c') : c.2.2.2.length < 999 ∧ c' = (c.1 + 3, c.2.1, .ref c.2.2.2.length :: c.2.2.1, c.2.2.2 ++ [.inl (ci, fs)]) := by
  unfold mx_new at h
  cases hb : Nat.blt c.2.2.2.length 999 with
  | false => rw [hb] at h; cases h
  | true =>
    rw [hb] at h
    exact ⟨Nat.le_of_ble_eq_true hb, (Option.some.inj h).symm⟩
theorem mx_plain_fs {G : mx_G} {fs : List Value} (h : fs.all (fun v => match v with | .int _ => true | .null => true | _ => false) = true) : fs.map (mx_tr G) = fs := by
  have h2 := List.all_eq_true.mp h
  conv => rhs; rw [← List.map_id fs]
  apply List.map_congr_left
  intro v hv
  have h3 := h2 v hv
  cases v <;> first
    | rfl
    | cases h3
theorem ms_new {C : String} {T : u_T} {N : Nat} {ty : Nat → FieldType} {idx : Nat} {fs : List Value} (w1 w2 w3 : Nat) (hC : mx_Cls a C T N ty) (hf : mx_DF[a]? = some fs) (hlen : fs.length = N) (hp : fs.all (fun v => match v with | .int _ => true | .null => true | _ => false) = true) (hdv : ∀ j, j < N → defaultValue (ty j) = vp_V fs j)
    (h1 : lw_tbl[w1]? = some (.classLink y.cls idx C)) (h2 : lw_tbl[w2]? = some (.instantiable C N)) (h3 : lw_tbl[w3]? = some (.initialized C)) (hd : decode bytes pc = .ok (.new idx, 3)) : mx_Snd bytes nL y pc (61, a, b, L) := by
  intro G SA p l e R s m args below meth c0 Q L0 S0 K c c' hpc z1 z2 z3 z4 hop hgo H locs ls g1 g2 hP hS hv
  have hop : (match mx_nth mx_DF a with
    | some fs => mx_new a fs c
    | none => none) = some c' := hop
  rw [mx_nth_eq, hf] at hop
  obtain ⟨hl, rfl⟩ := mx_new_inv hop
  obtain ⟨hx, hb, hml, hown, hts, -, hE, hbs, -, -⟩ := K
  have hKn := hE.1.1 a _ hC.1
  have zl : (c.2.2.2 ++ [Sum.inl (a, fs)]).length = c.2.2.2.length + 1 := by simp
  have zs : mx_sz (c.2.2.2 ++ [Sum.inl (a, fs)]) = mx_sz c.2.2.2 + N := by rw [mx_sz_app]; show _ + fs.length = _; rw [hlen]
  have z3' : (c.2.2.2 ++ [Sum.inl (a, fs)]).length ≤ R.cells + L0 := z3
  have z4' : mx_sz (c.2.2.2 ++ [Sum.inl (a, fs)]) ≤ R.slots + S0 := z4
  rw [zl] at z3'
  rw [zs] at z4'
  rw [hpc]
  refine W.newcK (own := y.cls) (C := C) (index := idx) (n := N) hx hb hown (hts _ (mx_gt w1 h1 rfl)) (hts _ (mx_gt w2 h2 rfl)) (hts _ (mx_gt w3 h3 rfl)) rfl hd (by omega) (by omega) hKn.2.1 g2 fun H1 kC hkC e1 q1 o1 => ?_
  have hk : ∀ (k : Nat) (x : Nat × va_E), (mx_W G c.2.2.2)[k]? = some x → H1[x.1]? = H[x.1]? := fun k x hx' => o1 x.1 (by rw [← g2]; exact (hP k x hx').lt)
  have hP1 : va_P G.2.2.2 vwCl (mx_W G (c.2.2.2 ++ [.inl (a, fs)])) H1 := by
    rw [mx_W_app]
    refine (hP.kept hk).app (fun k x hx' => ?_)
    have hz : k < 1 := (List.getElem?_eq_some_iff.mp hx').1
    rw [show k = 0 by omega] at hx'
    cases hx'
    refine ⟨_, hC.1, ?_⟩
    show t_OB _ _ _ _ _ (vp_V (fs.map (mx_tr G)))
    rw [mx_plain_fs hp]
    exact (u_born ty hts hC.2.1 hKn hkC e1 hC.2.2.1).to hdv
  have hS1 : va_S (mx_A G) s.heap H1 locs := ⟨Nat.le_trans hS.1 (by omega), fun x u1 u2 => (o1 x (by rw [← g2]; exact Nat.lt_of_lt_of_le u1 hS.1)).trans (hS.2.1 x u1 u2), hS.2.2⟩
  have g := hgo H1 locs ls (by rw [zl]; omega) (by rw [zl, q1]; omega) hP1 hS1 hv
  have g : W p l e R s m args below meth c0 H1 locs ((c.2.2.2 ++ [Sum.inl (a, fs)]).length - L0) (mx_sz (c.2.2.2 ++ [Sum.inl (a, fs)]) - S0) Q (F0 m (c.1 + 3) ls (.ref (mx_ad G c.2.2.2.length) :: c.2.2.1.map (mx_tr G))) := g
  rw [zl, zs, mx_ad_lt (by omega), hpc, Nat.sub_add_comm z1, Nat.sub_add_comm z2] at g
  exact g
theorem mx_newa_inv {t : Nat} {c c' : mx_C} (h : mx_newa t c = some c') : ∃ n st, mx_inb n 2000 = true ∧ c.2.2.2.length < 999 ∧ c.2.2.1 = .int n :: st ∧ c' = (c.1 + 2, c.2.1, .ref c.2.2.2.length :: st, c.2.2.2 ++ [.inr (t, mx_zero t n.toNatClampNeg)]) := by
  unfold mx_newa at h
  split at h
  · next n st hst =>
    cases hb : mx_inb n 2000 && Nat.blt c.2.2.2.length 999 with
    | false => rw [hb] at h; cases h
    | true =>
      rw [hb] at h
      simp only [Bool.and_eq_true] at hb
      exact ⟨n, st, hb.1, Nat.le_of_ble_eq_true hb.2, hst, (Option.some.inj h).symm⟩
  · cases h
theorem mx_zero_len (t n : Nat) : (mx_zero t n).1 = n := by
  unfold mx_zero
  split <;> rfl
theorem mx_zero_cell {t : Nat} (ht : t < 4) (cA : ClassId) (n : Nat) : vp_cell cA (mx_zero t n) = arrV cA n (fun _ => defaultValue (mx_ty t)) := by
  match t, ht with
  | 0, _ => rfl
  | 1, _ => rfl
  | 2, _ => rfl
  | 3, _ => rfl
theorem mx_RA {U : State} {cA : ClassId} {t : Nat} (h : va_RA U cA (mx_ty t)) : U.vm.findClass ("[" ++ (mx_ty t).toString) = some cA := by
  match t, h with
  | 0, h => exact h
  | 1, h => exact h
  | 2, h => exact h
  | t + 3, h => exact h
theorem ms_newa {at' : ArrayType} (w : Nat) (ht : a < 4) (hty : newarray.typeOf at' = mx_ty a) (hw : lw_tbl[w]? = some (.arrayClass (mx_ty a))) (hcb : componentBytes (mx_ty a) ≤ 8) (hd : decode bytes pc = .ok (.newarray at', 2)) : mx_Snd bytes nL y pc (62, a, b, L) := by
  intro G SA p l e R s m args below meth c0 Q L0 S0 K c c' hpc z1 z2 z3 z4 hop hgo H locs ls g1 g2 hP hS hv
  obtain ⟨n, st, hn, hl, e1, rfl⟩ := mx_newa_inv hop
  obtain ⟨hx, hb, hml, hown, hts, -, hE, hbs, -, -⟩ := K
  have hin := mx_inb_in hn
  have hn0 : ¬ n < 0 := fun z => hin (Or.inl z)
  have hn1 : n.toNatClampNeg < 2000 := Nat.not_le.mp fun z => hin (Or.inr z)
  have zl : (c.2.2.2 ++ [Sum.inr (a, mx_zero a n.toNatClampNeg)]).length = c.2.2.2.length + 1 := by simp
  have zs : mx_sz (c.2.2.2 ++ [Sum.inr (a, mx_zero a n.toNatClampNeg)]) = mx_sz c.2.2.2 + n.toNatClampNeg := by rw [mx_sz_app]; show _ + (mx_zero a n.toNatClampNeg).1 = _; rw [mx_zero_len]
  have z3' : (c.2.2.2 ++ [Sum.inr (a, mx_zero a n.toNatClampNeg)]).length ≤ R.cells + L0 := z3
  have z4' : mx_sz (c.2.2.2 ++ [Sum.inr (a, mx_zero a n.toNatClampNeg)]) ≤ R.slots + S0 := z4
  rw [zl] at z3'
  rw [zs] at z4'
  rw [hpc, e1, List.map_cons]
  have hbytes : n.toNatClampNeg * componentBytes (newarray.typeOf at') ≤ 536870912 := by
    rw [hty]
    have := Nat.mul_le_mul (Nat.le_of_lt hn1) hcb
    omega
  refine va_newaK hx hb (atype := at') (by rw [hty]; exact hts _ (mx_gt w hw rfl)) rfl hd rfl hn0 rfl hbytes (by omega) (by omega) g2 fun H1 cA q0 q1 o1 hAr hNm => ?_
  rw [hty] at q0 hAr hNm
  have hcA : cA = G.2.2.1 a := by
    have h5 := mx_RA (hE.1.2 a _ (mx_tys_at G ht)).2
    exact Option.some.inj (hNm.symm.trans h5)
  subst hcA
  have hk : ∀ (k : Nat) (x : Nat × va_E), (mx_W G c.2.2.2)[k]? = some x → H1[x.1]? = H[x.1]? := fun k x hx' => o1 x.1 (by rw [← g2]; exact (hP k x hx').lt)
  have hP1 : va_P G.2.2.2 vwCl (mx_W G (c.2.2.2 ++ [.inr (a, mx_zero a n.toNatClampNeg)])) H1 := by
    rw [mx_W_app]
    refine (hP.kept hk).app (fun k x hx' => ?_)
    have hz : k < 1 := (List.getElem?_eq_some_iff.mp hx').1
    rw [show k = 0 by omega] at hx'
    cases hx'
    show H1[G.1 + c.2.2.2.length]? = some (vp_cell _ _)
    rw [mx_zero_cell ht]
    exact q0
  have hS1 : va_S (mx_A G) s.heap H1 locs := ⟨Nat.le_trans hS.1 (by omega), fun x u1 u2 => (o1 x (by rw [← g2]; exact Nat.lt_of_lt_of_le u1 hS.1)).trans (hS.2.1 x u1 u2), hS.2.2⟩
  have g := hgo H1 locs ls (by rw [zl]; omega) (by rw [zl, q1]; omega) hP1 hS1 hv
  have g : W p l e R s m args below meth c0 H1 locs ((c.2.2.2 ++ [Sum.inr (a, mx_zero a n.toNatClampNeg)]).length - L0) (mx_sz (c.2.2.2 ++ [Sum.inr (a, mx_zero a n.toNatClampNeg)]) - S0) Q (F0 m (c.1 + 2) ls (.ref (mx_ad G c.2.2.2.length) :: st.map (mx_tr G))) := g
  rw [zl, zs, mx_ad_lt (by omega), hpc, Nat.sub_add_comm z1, Nat.sub_add_comm z2] at g
  exact g
theorem mx_cat_eq (G : mx_G) : ∀ st : List Value, ((st.map (mx_tr G)).map fun v => v.category).sum = mx_cat st
  | [] => rfl
  | v :: st => by
    simp only [List.map_cons, List.sum_cons, mx_cat, mx_tr_cat]
    rw [mx_cat_eq G st]
    cases v <;> rfl
theorem ms_obj {idx : Nat} (w1 w2 w3 : Nat) (h1 : lw_tbl[w1]? = some (.methodLink y.cls idx Lib.objectInit)) (h2 : lw_tbl[w2]? = some (.instanceMethod Lib.objectInit)) (h3 : lw_tbl[w3]? = some (.code Lib.objectInit ⟨#[0xb1]⟩ 1 none)) (hd : decode bytes pc = .ok (.invokespecial idx, 3)) : mx_Snd bytes nL y pc (63, a, b, L) := by
  intro G SA p l e R s m args below meth c0 Q L0 S0 K c c' hpc z1 z2 z3 z4 hop hgo H locs ls g1 g2 hP hS hv
  have hop : mx_obj c = some c' := hop
  obtain ⟨hx, hb, hml, hown, hts, -, hE, hbs, hfr, hlo⟩ := K
  unfold mx_obj at hop
  split at hop
  · next q st hst =>
    cases hc : Nat.ble (mx_cat st) 8 with
    | false => rw [hc] at hop; cases hop
    | true =>
      rw [hc] at hop
      have h := Option.some.inj hop
      subst h
      have hcat := Nat.le_of_ble_eq_true hc
      have g := hgo H locs ls g1 g2 hP hS hv
      rw [hpc] at g
      rw [hpc, hst, List.map_cons]
      refine W.objInit (own := y.cls) (idx := idx) hx hb hown (hts _ (mx_gt w1 h1 rfl)) (hts _ (mx_gt w2 h2 rfl)) (hts _ (mx_gt w3 h3 rfl)) rfl (hv.1.trans hml.symm) (a := mx_ad G q) (rest := st.map (mx_tr G)) rfl hd hfr ?_ g
      rw [mx_cat_eq]
      show 2 * 0 + _ + 12 ≤ _
      omega
  · cases hop
theorem mx_ia_inv {M : mx_M} {q : Nat} {f : Nat × (Nat → Int32)} (h : mx_ia M q = some f) : M[q]? = some (.inr (0, f.1, .inl f.2)) := by
  unfold mx_ia at h
  split at h
  · next t n f' hq =>
    cases hb : Nat.beq t 0 with
    | false => rw [hb] at h; cases h
    | true =>
      rw [hb] at h
      have := Nat.eq_of_beq_eq_true hb
      subst this
      cases h
      rw [← mx_nth_eq]
      exact hq
  · cases h
theorem mx_copy_inv {c c' : mx_C} (h : mx_copy c = some c') : ∃ n dp q1 sp q0 st f g, c.2.2.1 = .int n :: .int dp :: .ref q1 :: .int sp :: .ref q0 :: st ∧ mx_ia c.2.2.2 q0 = some f ∧ mx_ia c.2.2.2 q1 = some g ∧ mx_inb sp 2000 = true ∧ mx_inb dp 2000 = true ∧ mx_inb n 2000 = true ∧ sp.toNatClampNeg + n.toNatClampNeg ≤ f.1 ∧ dp.toNatClampNeg + n.toNatClampNeg ≤ g.1 ∧ mx_cat st ≤ 8 ∧
    c' = (c.1 + 3, c.2.1, st, c.2.2.2.set q1 (.inr (0, g.1, .inl (va_cpy f.2 g.2 sp.toNatClampNeg dp.toNatClampNeg n.toNatClampNeg)))) := by
  unfold mx_copy at h
  split at h
  · next n dp q1 sp q0 st hst =>
    split at h
    · next f hf =>
      split at h
      · next g hg =>
        cases hb : mx_inb sp 2000 && (mx_inb dp 2000 && (mx_inb n 2000 && (Nat.ble (sp.toNatClampNeg + n.toNatClampNeg) f.1 && (Nat.ble (dp.toNatClampNeg + n.toNatClampNeg) g.1 && Nat.ble (mx_cat st) 8)))) with
        | false => rw [hb] at h; cases h
        | true =>
          rw [hb] at h
          simp only [Bool.and_eq_true] at hb
          obtain ⟨b1, b2, b3, b4, b5, b6⟩ := hb
          exact ⟨n, dp, q1, sp, q0, st, f, g, hst, hf, hg, b1, b2, b3, Nat.le_of_ble_eq_true b4, Nat.le_of_ble_eq_true b5, Nat.le_of_ble_eq_true b6, (Option.some.inj h).symm⟩
      · cases h
    · cases h
  · cases h
theorem ms_copy {idx : Nat} (w1 w2 w3 w4 : Nat) (hw1 : lw_tbl[w1]? = some (.methodLink y.cls idx arraycopyName)) (hw2 : lw_tbl[w2]? = some (.native arraycopyName)) (hw3 : lw_tbl[w3]? = some (.static arraycopyName)) (hw4 : lw_tbl[w4]? = some (.initialized "java/lang/System")) (hd : decode bytes pc = .ok (.invokestatic idx, 3)) : mx_Snd bytes nL y pc (64, a, b, L) := by
  intro G SA p l e R s m args below meth c0 Q L0 S0 K c c' hpc z1 z2 z3 z4 hop hgo H locs ls g1 g2 hP hS hv
  obtain ⟨n, dp, q1, sp, q0, st, f, g, e1, e2, e3, b1, b2, b3, b4, b5, b6, rfl⟩ := mx_copy_inv hop
  obtain ⟨hx, hb, hml, hown, hts, -, hE, hbs, hfr, hlo⟩ := K
  have ha0 := mx_ia_inv e2
  have ha1 := mx_ia_inv e3
  have hq0 : q0 < 1000 := Nat.lt_of_lt_of_le (mx_len_lt ha0) g1
  have hq1 : q1 < 1000 := Nat.lt_of_lt_of_le (mx_len_lt ha1) g1
  have h1 : ¬ sp < 0 := fun z => mx_inb_in b1 (Or.inl z)
  have h2 : ¬ dp < 0 := fun z => mx_inb_in b2 (Or.inl z)
  have h3 : ¬ n < 0 := fun z => mx_inb_in b3 (Or.inl z)
  rw [hpc, e1]
  simp only [List.map_cons]
  show W p l e R s m args below meth c0 H locs _ _ Q (F0 m pc ls (.int n :: .int dp :: .ref (mx_ad G q1) :: .int sp :: .ref (mx_ad G q0) :: _))
  rw [mx_ad_lt hq0, mx_ad_lt hq1]
  have nn : ∀ z : Int32, ¬ z < 0 → z.toInt = (z.toNatClampNeg : Int) := by
    intro z hz
    have hz0 : (0 : Int) ≤ z.toInt := by
      have := Int32.not_lt.mp hz
      simpa using Int32.le_iff_toInt_le.mp this
    show z.toInt = ((z.toInt.toNat : Nat) : Int)
    omega
  have hml' : c0.maxLocals = ls.size := hml.trans hv.1.symm
  intro T hT X
  have hc0 : H[G.1 + q0]? = some (vp_cell (G.2.2.1 0) (f.1, .inl f.2)) := hP q0 _ (mx_W_get ha0)
  have hc1 : H[G.1 + q1]? = some (vp_cell (G.2.2.1 0) (g.1, .inl g.2)) := hP q1 _ (mx_W_get ha1)
  have hT0 := mx_tys_at G (t := 0) (by decide)
  obtain ⟨-, k0, hk0, cm0, hkk0⟩ := (hE.1.2 0 _ hT0).1 f.1 (fun j => .int (f.2 j))
  obtain ⟨-, k1, hk1, cm1, hkk1⟩ := (hE.1.2 0 _ hT0).1 g.1 (fun j => .int (g.2 j))
  obtain ⟨vm', X', step⟩ := X.arraycopy hx hown (hts _ (mx_gt w1 hw1 rfl)) (hts _ (mx_gt w2 hw2 rfl)) (hts _ (mx_gt w3 hw3 rfl)) (hts _ (mx_gt w4 hw4 rfl)) (src := G.1 + q0) (dst := G.1 + q1) (cs := vp_cell (G.2.2.1 0) (f.1, .inl f.2)) (cd := vp_cell (G.2.2.1 0) (g.1, .inl g.2)) (srcPos := sp) (destPos := dp) (n := n) (by rw [hT]; exact hc0) (by rw [hT]; exact hc1)
    (fun _ h => by cases h) (fun _ h => by cases h) (fun h => by cases h) (fun h => by cases h) hk0 hk1 hkk0 hkk1 (by simp [refKind, mx_ty]) h1 h2 h3
    (by rw [nn sp h1, nn n h3]; show ¬ _ > ((arrV _ f.1 (fun j => .int (f.2 j))).slots.size : Int); rw [arrV_size]; omega)
    (by rw [nn dp h2, nn n h3]; show ¬ _ > ((arrV _ g.1 (fun j => .int (g.2 j))).slots.size : Int); rw [arrV_size]; omega)
    (fun vm₁ _ i hi => by
      have e : (vp_cell (G.2.2.1 0) (f.1, .inl f.2)).slots.getD (sp.toNatClampNeg + i) .null = .int (f.2 (sp.toNatClampNeg + i)) := by
        show (arrV _ f.1 (fun j => .int (f.2 j))).slots.getD _ _ = _
        rw [Array.getD_eq_getD_getElem?, arrV_read _ _ (by omega)]
        rfl
      refine ⟨?_, ?_⟩
      · rw [e]
        rfl
      · rw [e]
        exact trivial)
    (g := F0 m pc ls (.int n :: .int dp :: .ref (G.1 + q1) :: .int sp :: .ref (G.1 + q0) :: st.map (mx_tr G))) rfl (by rw [hml']) (rest := st.map (mx_tr G)) rfl (by rw [hb]; exact hd) hfr (by
      rw [mx_cat_eq]
      show 2 * 0 + _ + (nativeFrameWords "java/lang/System" "arraycopy" 5 + 11) ≤ _
      have : nativeFrameWords "java/lang/System" "arraycopy" 5 ≤ 20 := by decide
      omega)
  have e9 : copied (vp_cell (G.2.2.1 0) (f.1, .inl f.2)) (vp_cell (G.2.2.1 0) (g.1, .inl g.2)) sp dp n = vp_cell (G.2.2.1 0) (g.1, .inl (va_cpy f.2 g.2 sp.toNatClampNeg dp.toNatClampNeg n.toNatClampNeg)) := va_copied (fun z => .int z) _ _ f.2 g.2 b4
  rw [e9] at X' step
  have hl : G.1 + q1 < H.size := (Array.getElem?_eq_some_iff.mp hc1).1
  have hheap : ((T.setVm vm').setCell (G.1 + q1) (vp_cell (G.2.2.1 0) (g.1, .inl (va_cpy f.2 g.2 sp.toNatClampNeg dp.toNatClampNeg n.toNatClampNeg)))).heap = H.setIfInBounds (G.1 + q1) (vp_cell (G.2.2.1 0) (g.1, .inl (va_cpy f.2 g.2 sp.toNatClampNeg dp.toNatClampNeg n.toNatClampNeg))) := by rw [← hT]; rfl
  have oq : ∀ x : Nat, x ≠ G.1 + q1 → (H.setIfInBounds (G.1 + q1) (vp_cell (G.2.2.1 0) (g.1, .inl (va_cpy f.2 g.2 sp.toNatClampNeg dp.toNatClampNeg n.toNatClampNeg))))[x]? = H[x]? := fun x hx' => by simp [Array.getElem?_setIfInBounds, Ne.symm hx']
  have zl : (c.2.2.2.set q1 (.inr (0, g.1, .inl (va_cpy f.2 g.2 sp.toNatClampNeg dp.toNatClampNeg n.toNatClampNeg)))).length = c.2.2.2.length := List.length_set
  have zs : mx_sz (c.2.2.2.set q1 (.inr (0, g.1, .inl (va_cpy f.2 g.2 sp.toNatClampNeg dp.toNatClampNeg n.toNatClampNeg)))) = mx_sz c.2.2.2 := mx_sz_set ha1 rfl
  have gg : ∀ locs1 : List Loc, va_S (mx_A G) s.heap (H.setIfInBounds (G.1 + q1) (vp_cell (G.2.2.1 0) (g.1, .inl (va_cpy f.2 g.2 sp.toNatClampNeg dp.toNatClampNeg n.toNatClampNeg)))) locs1 → W p l e R s m args below meth c0 (H.setIfInBounds (G.1 + q1) (vp_cell (G.2.2.1 0) (g.1, .inl (va_cpy f.2 g.2 sp.toNatClampNeg dp.toNatClampNeg n.toNatClampNeg)))) locs1 (c.2.2.2.length - L0) (mx_sz c.2.2.2 - S0) Q (F0 m (pc + 3) ls (st.map (mx_tr G))) := by
    intro locs1 hS1
    have g5 := hgo _ locs1 ls (by rw [zl]; exact g1) (by rw [zl, Array.size_setIfInBounds]; exact g2) (mx_P_set hP ha1 (show (H.setIfInBounds (G.1 + q1) _)[G.1 + q1]? = some _ by simp [Array.getElem?_setIfInBounds, hl]) oq) hS1 hv
    have g6 : W p l e R s m args below meth c0 _ locs1 ((c.2.2.2.set q1 (.inr (0, g.1, .inl (va_cpy f.2 g.2 sp.toNatClampNeg dp.toNatClampNeg n.toNatClampNeg)))).length - L0) (mx_sz (c.2.2.2.set q1 (.inr (0, g.1, .inl (va_cpy f.2 g.2 sp.toNatClampNeg dp.toNatClampNeg n.toNatClampNeg)))) - S0) Q (F0 m (c.1 + 3) ls (st.map (mx_tr G))) := g5
    rw [zl, zs, hpc] at g6
    exact g6
  obtain ⟨t, a1, b1'⟩ := gg _ ⟨by simp; exact hS.1, fun x u1 u2 => by
      rw [oq x (fun e => u2 (by rw [e]; exact mx_A_in G q1))]
      exact hS.2.1 x u1 u2, fun x hx' => by
      rcases List.mem_append.mp hx' with h | h
      · exact hS.2.2 x h
      · obtain ⟨z, -, hz⟩ := List.mem_map.mp h
        rw [← hz]
        exact mx_A_in G q1⟩ _ hheap X'
  exact ⟨t, step t a1, b1'⟩
theorem mx_mm_inv {f : Int32 → Int32 → Int32} {c c' : mx_C} (h : mx_mm f c = some c') : ∃ x y st, mx_cat st ≤ 8 ∧ c.2.2.1 = .int y :: .int x :: st ∧ c' = (c.1 + 3, c.2.1, .int (f x y) :: st, c.2.2.2) := by
  unfold mx_mm at h
  split at h
  · next y x st hst =>
    cases hb : Nat.ble (mx_cat st) 8 with
    | false => rw [hb] at h; cases h
    | true =>
      rw [hb] at h
      exact ⟨x, y, st, Nat.le_of_ble_eq_true hb, hst, (Option.some.inj h).symm⟩
  · cases h
theorem ms_max {idx : Nat} (w1 w2 w3 w4 : Nat) (hw1 : lw_tbl[w1]? = some (.methodLink y.cls idx Lib.Math.max.name)) (hw2 : lw_tbl[w2]? = some (.static Lib.Math.max.name)) (hw3 : lw_tbl[w3]? = some (.initialized "java/lang/Math")) (hw4 : lw_tbl[w4]? = some (.code Lib.Math.max.name Lib.Math.max.code 2 (some .int))) (hd : decode bytes pc = .ok (.invokestatic idx, 3)) : mx_Snd bytes nL y pc (65, a, b, L) := by
  intro G SA p l e R s m args below meth c0 Q L0 S0 K c c' hpc z1 z2 z3 z4 hop hgo H locs ls g1 g2 hP hS hv
  obtain ⟨x, y', st, hc, hst, rfl⟩ := mx_mm_inv (f := fun x y => if x < y then y else x) hop
  obtain ⟨hx, hb, hml, hown, hts, -, hE, hbs, hfr, hlo⟩ := K
  have g := hgo H locs ls g1 g2 hP hS hv
  rw [hpc] at g
  rw [hpc, hst, List.map_cons, List.map_cons]
  have z3' : c.2.2.2.length ≤ R.cells + L0 := z3
  have z4' : mx_sz c.2.2.2 ≤ R.slots + S0 := z4
  exact va_mmax (own := y.cls) (index := idx) hx hb (hml.trans hv.1.symm) hown (hts _ (mx_gt w1 hw1 rfl)) (hts _ (mx_gt w2 hw2 rfl)) (hts _ (mx_gt w3 hw3 rfl)) (hts _ (mx_gt w4 hw4 rfl)) hfr (by rw [mx_cat_eq]; omega) (by omega) (by omega) hd g
theorem ms_min {idx : Nat} (w1 w2 w3 w4 : Nat) (hw1 : lw_tbl[w1]? = some (.methodLink y.cls idx Lib.Math.min.name)) (hw2 : lw_tbl[w2]? = some (.static Lib.Math.min.name)) (hw3 : lw_tbl[w3]? = some (.initialized "java/lang/Math")) (hw4 : lw_tbl[w4]? = some (.code Lib.Math.min.name Lib.Math.min.code 2 (some .int))) (hd : decode bytes pc = .ok (.invokestatic idx, 3)) : mx_Snd bytes nL y pc (66, a, b, L) := by
  intro G SA p l e R s m args below meth c0 Q L0 S0 K c c' hpc z1 z2 z3 z4 hop hgo H locs ls g1 g2 hP hS hv
  obtain ⟨x, y', st, hc, hst, rfl⟩ := mx_mm_inv (f := fun x y => if y < x then y else x) hop
  obtain ⟨hx, hb, hml, hown, hts, -, hE, hbs, hfr, hlo⟩ := K
  have g := hgo H locs ls g1 g2 hP hS hv
  rw [hpc] at g
  rw [hpc, hst, List.map_cons, List.map_cons]
  have z3' : c.2.2.2.length ≤ R.cells + L0 := z3
  have z4' : mx_sz c.2.2.2 ≤ R.slots + S0 := z4
  exact va_mmin (own := y.cls) (index := idx) hx hb (hml.trans hv.1.symm) hown (hts _ (mx_gt w1 hw1 rfl)) (hts _ (mx_gt w2 hw2 rfl)) (hts _ (mx_gt w3 hw3 rfl)) (hts _ (mx_gt w4 hw4 rfl)) hfr (by rw [mx_cat_eq]; omega) (by omega) (by omega) hd g
end MSN
