/-! THE LAW'S START: what the claim's premises give of all that nobody writes -/
def we_F : List Cond := flatC (Jvm.Cond.and given_1 narrow_1)
def we_ty (t : Nat) (x : Int) : Term := bif Nat.beq t 3 then .long (Int64.ofInt x) else .int (Int32.ofInt x)
def we_arr (t : Nat) (l : List Int) : vp_A := (l.length, bif Nat.beq t 3 then .inr (.inl fun i => Int64.ofInt (l.getD i 0)) else .inl fun i => Int32.ofInt (l.getD i 0))
def we_seg (tm : Term) (t : Nat) (l : List Int) : List Cond := .arrayOf tm (mx_ty t) :: .eq (.length tm) (.int (Int32.ofNat l.length)) :: (List.range l.length).map fun j => .eq (.elem tm (.int (Int32.ofNat j))) (we_ty t (l.getD j 0))
def we_at (F seg : List Cond) : Bool := match seg with
  | [] => true
  | h :: _ => decide ((F.dropWhile fun w => !(decide (w = h))).take seg.length = seg)
theorem we_at_mem {F seg : List Cond} (h : we_at F seg = true) : ∀ w ∈ seg, w ∈ F := by
  intro w hw
  cases seg with
  | nil => cases hw
  | cons a l =>
    have h2 : (F.dropWhile fun w => !(decide (w = a))).take (a :: l).length = a :: l := of_decide_eq_true h
    rw [← h2] at hw
    exact (List.dropWhile_sublist _).subset (List.mem_of_mem_take hw)
theorem we_T {args : Array Value} {s : State} {A : Nat → Prop} {tm : Term} {t : Nat} {l : List Int} (hl : l.length < 2 ^ 31) (h : ∀ w ∈ we_seg tm t l, w.before args s = true) (hA : ∀ a : Nat, a < s.heap.size → ¬ A a) : ∃ a : Nat, tm.eval args s none [] s = some (.ref a) ∧ va_T (mx_ty t) a l.length (mx_con (we_arr t l)) A s s.heap := by
  refine va_Tof hl (h _ List.mem_cons_self) (va_eqt (h _ (List.mem_cons_of_mem _ List.mem_cons_self))) (fun j hj => ?_) hA
  have h2 := h (.eq (.elem tm (.int (Int32.ofNat j))) (we_ty t (l.getD j 0))) (List.mem_cons_of_mem _ (List.mem_cons_of_mem _ (List.mem_map.mpr ⟨j, List.mem_range.mpr hj, rfl⟩)))
  unfold we_ty at h2
  unfold mx_con we_arr
  cases ht : Nat.beq t 3 with
  | true =>
    rw [ht] at h2
    exact va_eqtl h2
  | false =>
    rw [ht] at h2
    exact va_eqt h2
def we_tm (j : Nat) : Term := bif Nat.ble 200 j then (match mx_SR[j - 200]? with
    | some q => .field (.string q.1 q.2.1) "java/lang/String" "value" "[B"
    | none => .int 0)
  else match mx_SF[5 + j]? with
    | some q => .static q.1 q.2.1 q.2.2.1
    | none => .int 0
def we_okT (e : Nat × Nat × List Int) : Bool := (Nat.blt e.1 50 || (Nat.blt 199 e.1 && Nat.blt e.1 300)) && (Nat.blt e.2.1 4 && (Nat.blt e.2.2.length 1000 && we_at we_F (we_seg (we_tm e.1) e.2.1 e.2.2)))
def we_okF (q : mx_F) : Bool := decide (Cond.laysStatic q.1 q.2.1 q.2.2.1 ∈ lw_tbl) && (decide (Cond.initialized q.1 ∈ lw_tbl) && (match q.2.2.2 with
  | .int z => decide (Cond.eq (.static q.1 q.2.1 q.2.2.1) (.int z) ∈ we_F)
  | .ref r => Nat.ble 1000 r && (Nat.blt r 1050 && (decide (we_tm (r - 1000) = .static q.1 q.2.1 q.2.2.1) && mx_SAL.any fun e => Nat.beq e.1 (r - 1000)))
  | .retAddr _ => decide (q.1 = "jdk/internal/util/Preconditions" ∧ q.2.1 = "SIOOBE_FORMATTER" ∧ q.2.2.1 = "Ljava/util/function/BiFunction;")
  | _ => false))
def we_okR (q : String × Nat × String) : Bool := decide (Cond.exactly (.string q.1 q.2.1) "java/lang/String" ∈ we_F) && (decide (Cond.eq (.field (.string q.1 q.2.1) "java/lang/String" "coder" "B") (.int 0) ∈ we_F) && decide (Cond.stringRef q.1 q.2.1 q.2.2 ∈ lw_tbl))
set_option maxRecDepth 100000 in
theorem we_allT : mx_SAL.all we_okT = true := by decide +kernel
set_option maxRecDepth 100000 in
theorem we_allF : mx_SF.all we_okF = true := by decide +kernel
set_option maxRecDepth 100000 in
theorem we_allR : mx_SR.all we_okR = true := by decide +kernel
theorem we_has : (List.range mx_SR.length).all (fun i => mx_SAL.any fun e => Nat.beq e.1 (200 + i)) = true := by decide +kernel
set_option maxRecDepth 100000 in
theorem we_fm : Cond.laysStatic "jdk/internal/util/Preconditions" "SIOOBE_FORMATTER" "Ljava/util/function/BiFunction;" ∈ lw_tbl ∧ Cond.initialized "jdk/internal/util/Preconditions" ∈ lw_tbl ∧ Cond.isRef (.static "jdk/internal/util/Preconditions" "SIOOBE_FORMATTER" "Ljava/util/function/BiFunction;") ∈ we_F := by decide +kernel
def we_fv (f : Nat) : Value := match f with
  | 0 => .null
  | n + 1 => .ref n
/-- the script and the arrays -/
def we_SA (L : Nat) (xs : Nat → Int32) (j : Nat) : Option (Nat × vp_A) := if j = 300 then some (0, (L, .inl xs)) else mx_SAx j
theorem mx_SAx_inv {j t : Nat} {x : vp_A} (h : mx_SAx j = some (t, x)) : ∃ l, (j, t, l) ∈ mx_SAL ∧ x = we_arr t l := by
  unfold mx_SAx at h
  split at h
  · next a t' l hf =>
    cases h
    have h1 := List.mem_of_find?_eq_some hf
    have h2 := List.find?_some hf
    have h2 : Nat.beq a j = true := h2
    have h2 := Nat.eq_of_beq_eq_true h2
    subst h2
    exact ⟨l, h1, rfl⟩
  · cases h
set_option maxRecDepth 100000 in
theorem we_inst : Cond.instantiable RX0 12 ∈ lw_tbl ∧ Cond.instantiable RX1 10 ∈ lw_tbl ∧ Cond.instantiable RX2 7 ∈ lw_tbl ∧ Cond.instantiable RX3 6 ∈ lw_tbl ∧ Cond.instantiable RX4 3 ∈ lw_tbl ∧ Cond.instantiable RX5 6 ∈ lw_tbl ∧ Cond.instantiable RX6 2 ∈ lw_tbl ∧ Cond.instantiable RX7 3 ∈ lw_tbl ∧ Cond.instantiable RX8 14 ∈ lw_tbl ∧ Cond.instantiable RX9 12 ∈ lw_tbl ∧ Cond.instantiable RX10 8 ∈ lw_tbl ∧ Cond.instantiable RX11 10 ∈ lw_tbl ∧ Cond.instantiable RX12 78 ∈ lw_tbl := by decide +kernel
set_option maxRecDepth 100000 in
theorem we_ac : Cond.arrayClass .int ∈ lw_tbl ∧ Cond.arrayClass .byte ∈ lw_tbl ∧ Cond.arrayClass .boolean ∈ lw_tbl ∧ Cond.arrayClass .long ∈ lw_tbl := by decide +kernel
theorem we_cls {args : Array Value} {s : State} (hts : ∀ w ∈ lw_tbl, w.before args s = true) : ∀ q ∈ vwCl, ∃ (cC : ClassId) (iS : Nat → Nat), u_Kn s q.1 q.2.1 q.2.2 cC iS := by
  have g : ∀ w ∈ mx_GT, w ∈ lw_tbl := fun w hw => (List.mem_filter.mp hw).1
  obtain ⟨h0, h1, h2, h3, h4, h5, h6, h7, h8, h9, h10, h11, h12⟩ := we_inst
  refine List.forall_mem_cons.mpr ⟨u_known hts (fun w hw => g w (mx_w0 w hw)) (hts _ h0), List.forall_mem_cons.mpr ⟨u_known hts (fun w hw => g w (mx_w1 w hw)) (hts _ h1), List.forall_mem_cons.mpr ⟨u_known hts (fun w hw => g w (mx_w2 w hw)) (hts _ h2), List.forall_mem_cons.mpr ⟨u_known hts (fun w hw => g w (mx_w3 w hw)) (hts _ h3), List.forall_mem_cons.mpr ⟨u_known hts (fun w hw => g w (mx_w4 w hw)) (hts _ h4), List.forall_mem_cons.mpr ⟨u_known hts (fun w hw => g w (mx_w5 w hw)) (hts _ h5), List.forall_mem_cons.mpr ⟨u_known hts (fun w hw => g w (mx_w6 w hw)) (hts _ h6), List.forall_mem_cons.mpr ⟨u_known hts (fun w hw => g w (mx_w7 w hw)) (hts _ h7), List.forall_mem_cons.mpr ⟨u_known hts (fun w hw => g w (mx_w8 w hw)) (hts _ h8), List.forall_mem_cons.mpr ⟨u_known hts (fun w hw => g w (mx_w9 w hw)) (hts _ h9), List.forall_mem_cons.mpr ⟨u_known hts (fun w hw => g w (mx_w10 w hw)) (hts _ h10), List.forall_mem_cons.mpr ⟨u_known hts (fun w hw => g w (mx_w11 w hw)) (hts _ h11), List.forall_mem_cons.mpr ⟨u_known hts (fun w hw => g w (mx_w12 w hw)) (hts _ h12), fun q hq => absurd hq List.not_mem_nil⟩⟩⟩⟩⟩⟩⟩⟩⟩⟩⟩⟩⟩
theorem we_acls {args : Array Value} {s : State} {ty : FieldType} (hw : (Cond.arrayClass ty).before args s = true) : ∃ c : ClassId, ArrOfT s c ty ∧ s.vm.findClass ("[" ++ ty.toString) = some c := by
  obtain ⟨c, k, comp, h1, h2, h3⟩ := Cond.arrayClass_spec hw
  exact ⟨c, fun n z => ⟨fun k h => (by cases h), k, h2, comp, h3⟩, h1⟩
theorem we_K {args : Array Value} {s : State} (hts : ∀ w ∈ lw_tbl, w.before args s = true) : ∃ (D : va_G) (ac : Nat → ClassId), ∀ (b : Nat) (st : Nat → Nat), va_K D vwCl (mx_tys (b, st, ac, D)) s := by
  have h0 : ∀ c : Nat, ∃ z : ClassId × (Nat → Nat), ∀ q, vwCl[c]? = some q → u_Kn s q.1 q.2.1 q.2.2 z.1 z.2 := by
    intro c
    cases hq : vwCl[c]? with
    | none => exact ⟨(0, fun _ => 0), fun q h => by cases h⟩
    | some q =>
      obtain ⟨cC, iS, h⟩ := we_cls hts q (List.mem_of_getElem? hq)
      exact ⟨(cC, iS), fun q' h' => by cases h'; exact h⟩
  obtain ⟨z, hz⟩ := Classical.axiomOfChoice h0
  obtain ⟨a0, a1, a2, a3⟩ := we_ac
  obtain ⟨c0, b0, d0⟩ := we_acls (hts _ a0)
  obtain ⟨c1, b1, d1⟩ := we_acls (hts _ a1)
  obtain ⟨c2, b2, d2⟩ := we_acls (hts _ a2)
  obtain ⟨c3, b3, d3⟩ := we_acls (hts _ a3)
  refine ⟨(fun c => (z c).1, fun c => (z c).2), fun t => match t with
    | 0 => c0
    | 1 => c1
    | 2 => c2
    | _ => c3, fun b st => ⟨fun c q hq => hz c q hq, fun k q hk => ?_⟩⟩
  match k, hk with
  | 0, hk => cases hk; exact ⟨b0, d0⟩
  | 1, hk => cases hk; exact ⟨b1, d1⟩
  | 2, hk => cases hk; exact ⟨b2, d2⟩
  | 3, hk => cases hk; exact ⟨b3, d3⟩
  | k + 4, hk => cases hk
theorem we_r {r : Nat} (h1 : 1000 ≤ r) (h2 : r < 1050) : r = 1000 + (r - 1000) ∧ r - 1000 < 50 := by omega
theorem we_env {args : Array Value} {s : State} {b L : Nat} {xs : Nat → Int32} (hts : ∀ w ∈ lw_tbl, w.before args s = true) (hX : va_X b L xs s s.heap) (hbl : b < s.heap.size) (hgv : (Jvm.Cond.and given_1 narrow_1).before args s = true) : ∃ (st : Nat → Nat) (ac : Nat → ClassId) (D : va_G), mx_Env (s.heap.size, st, ac, D) (we_SA L xs) mx_SF mx_SR s s.heap ∧ st 300 = b := by
  have hF : ∀ w ∈ we_F, w.before args s = true := flat_of_before _ hgv
  obtain ⟨D, ac, hK⟩ := we_K hts
  obtain ⟨A, hAe⟩ : ∃ A : Nat → Prop, A = fun q => s.heap.size ≤ q := ⟨_, rfl⟩
  have hA : ∀ a : Nat, a < s.heap.size → ¬ A a := fun a ha => by rw [hAe]; exact Nat.not_le.mpr ha
  have hT : ∀ e ∈ mx_SAL, ∃ a : Nat, (we_tm e.1).eval args s none [] s = some (.ref a) ∧ va_T (mx_ty e.2.1) a e.2.2.length (mx_con (we_arr e.2.1 e.2.2)) A s s.heap := by
    intro e he
    have h := List.all_eq_true.mp we_allT e he
    unfold we_okT at h
    simp only [Bool.and_eq_true] at h
    have h3 : e.2.2.length < 1000 := Nat.le_of_ble_eq_true h.2.2.1
    exact we_T (Nat.lt_trans h3 (by decide)) (fun w hw => hF w (we_at_mem h.2.2.2 w hw)) hA
  have h0 : ∀ j : Nat, ∃ a : Nat, ∀ e ∈ mx_SAL, e.1 = j → (we_tm j).eval args s none [] s = some (.ref a) ∧ va_T (mx_ty e.2.1) a e.2.2.length (mx_con (we_arr e.2.1 e.2.2)) A s s.heap := by
    intro j
    by_cases hj : ∃ e ∈ mx_SAL, e.1 = j
    · obtain ⟨e, he, rfl⟩ := hj
      obtain ⟨a, h1, -⟩ := hT e he
      refine ⟨a, fun e' he' e2 => ?_⟩
      obtain ⟨a', h3, h4⟩ := hT e' he'
      rw [e2, h1] at h3
      cases h3
      exact ⟨h1, h4⟩
    · exact ⟨0, fun e he e2 => absurd ⟨e, he, e2⟩ hj⟩
  obtain ⟨aT, haT⟩ := Classical.axiomOfChoice h0
  have h1 : ∀ i : Nat, ∃ a : Nat, ∀ q, mx_SR[i]? = some q → (Term.string q.1 q.2.1).eval args s none [] s = some (.ref a) ∧ va_O "java/lang/String" a A s s.heap := by
    intro i
    cases hq : mx_SR[i]? with
    | none => exact ⟨0, fun q h => by cases h⟩
    | some q =>
      have h := List.all_eq_true.mp we_allR q (List.mem_of_getElem? hq)
      unfold we_okR at h
      simp only [Bool.and_eq_true, decide_eq_true_eq] at h
      have hex := hF _ h.1
      obtain ⟨a, c, cA, kA, q1, q2, q3, q4, q5, q6, -⟩ := Cond.exactly_spec (args := args) (first := s) (o := none) (s := s) (idx := []) (t := .string q.1 q.2.1) (cls := "java/lang/String") hex
      exact ⟨a, fun q' h' => by cases h'; exact ⟨q1, va_Oof hex q1 hA⟩⟩
  obtain ⟨aS, haS⟩ := Classical.axiomOfChoice h1
  have hfm : ∃ f : Nat, va_Z "jdk/internal/util/Preconditions" "SIOOBE_FORMATTER" "Ljava/util/function/BiFunction;" (we_fv f) A s s.heap := by
    obtain ⟨f1, f2, f3⟩ := we_fm
    rcases va_Zqof (hts _ f1) (hts _ f2) (hF _ f3) hA with h | ⟨t, h⟩
    · exact ⟨0, h⟩
    · exact ⟨t + 1, h⟩
  obtain ⟨f, hf⟩ := hfm
  obtain ⟨st, hst⟩ : ∃ st : Nat → Nat, st = fun j => if j = 300 then b else if j = 50 then f else if 100 ≤ j ∧ j < 200 then aS (j - 100) else aT j := ⟨_, rfl⟩
  have s300 : st 300 = b := by rw [hst]; rfl
  have s50 : st 50 = f := by rw [hst]; rfl
  have sS : ∀ i, i < 100 → st (100 + i) = aS i := fun i hi => by
    rw [hst]
    show (if 100 + i = 300 then b else if 100 + i = 50 then f else if 100 ≤ 100 + i ∧ 100 + i < 200 then aS (100 + i - 100) else aT (100 + i)) = aS i
    rw [if_neg (by omega), if_neg (by omega), if_pos (by omega), Nat.add_sub_cancel_left]
  have sT : ∀ j, (j < 50 ∨ 199 < j ∧ j < 300) → st j = aT j := fun j hj => by
    rw [hst]
    show (if j = 300 then b else if j = 50 then f else if 100 ≤ j ∧ j < 200 then aS (j - 100) else aT j) = aT j
    rw [if_neg (by omega), if_neg (by omega), if_neg (by omega)]
  have okT : ∀ e ∈ mx_SAL, (e.1 < 50 ∨ 199 < e.1 ∧ e.1 < 300) ∧ e.2.1 < 4 := by
    intro e he
    have h := List.all_eq_true.mp we_allT e he
    unfold we_okT at h
    simp only [Bool.and_eq_true, Bool.or_eq_true] at h
    refine ⟨?_, Nat.le_of_ble_eq_true h.2.1⟩
    rcases h.1 with z | z
    · exact Or.inl (Nat.le_of_ble_eq_true z)
    · exact Or.inr ⟨Nat.le_of_ble_eq_true z.1, Nat.le_of_ble_eq_true z.2⟩
  have eA : mx_A (s.heap.size, st, ac, D) = A := hAe.symm
  refine ⟨st, ac, D, ⟨hK _ _, fun w hw => ?_, fun j t x hx => ?_, fun q hq => ?_, fun i q hq => ?_⟩, s300⟩
  · obtain ⟨hw1, hw2⟩ := List.mem_filter.mp hw
    have hb := hts w hw1
    cases w <;> first
      | exact va_Nw.of rfl hb
      | cases hw2
  · rw [eA]
    unfold we_SA at hx
    split at hx
    · next e =>
      cases hx
      subst e
      refine ⟨by decide, ?_⟩
      show va_T .int (st 300) L (mx_con (L, .inl xs)) A s s.heap
      rw [s300]
      obtain ⟨scr, x1, x2, x3, x4, x5⟩ := hX
      exact ⟨scr, x1, x2, x3, by rw [x4]; exact Nat.le_refl _, by rw [x4], x5, hA b hbl⟩
    · obtain ⟨l, hl, rfl⟩ := mx_SAx_inv hx
      obtain ⟨k1, k2⟩ := okT _ hl
      refine ⟨k2, ?_⟩
      show va_T (mx_ty t) (st j) l.length (mx_con (we_arr t l)) A s s.heap
      rw [sT j k1]
      exact (haT j _ hl rfl).2
  · rw [eA]
    have h := List.all_eq_true.mp we_allF q hq
    unfold we_okF at h
    rw [Bool.and_eq_true, Bool.and_eq_true, decide_eq_true_eq, decide_eq_true_eq] at h
    obtain ⟨l1, l2, l3⟩ := h
    split at l3
    · next z hz =>
      rw [hz]
      exact va_Zof (hts _ l1) (hts _ l2) (va_eqi (hF _ (of_decide_eq_true l3))) hA
    · next r hr =>
      rw [hr]
      simp only [Bool.and_eq_true, decide_eq_true_eq] at l3
      obtain ⟨r1, r2, r3, r4⟩ := l3
      have r1 : 1000 ≤ r := Nat.le_of_ble_eq_true r1
      have r2 : r < 1050 := Nat.le_of_ble_eq_true r2
      obtain ⟨e, he, e2⟩ := List.any_eq_true.mp r4
      have e2 := Nat.eq_of_beq_eq_true e2
      have hv := (haT (r - 1000) e he e2).1
      rw [r3] at hv
      have e3 : mx_ad (s.heap.size, st, ac, D) r = aT (r - 1000) := by
        have e4 : r = 1000 + (r - 1000) := (we_r r1 r2).1
        rw [e4, mx_ad_ge, ← e4]
        exact sT _ (Or.inl (we_r r1 r2).2)
      show va_Z q.1 q.2.1 q.2.2.1 (.ref (mx_ad (s.heap.size, st, ac, D) r)) A s s.heap
      rw [e3]
      exact va_Zref (hts _ l1) (hts _ l2) hv hA
    · next z hz =>
      rw [hz]
      obtain ⟨n1, n2, n3⟩ := of_decide_eq_true l3
      have e5 : mx_fv (s.heap.size, st, ac, D) = we_fv f := by
        show (match st 50 with
          | 0 => Value.null
          | n + 1 => .ref n) = we_fv f
        rw [s50]
        rfl
      show va_Z q.1 q.2.1 q.2.2.1 (mx_fv (s.heap.size, st, ac, D)) A s s.heap
      rw [e5, n1, n2, n3]
      exact hf
    · cases l3
  · rw [eA]
    have hi : i < mx_SR.length := (List.getElem?_eq_some_iff.mp hq).1
    have hi2 : i < 100 := Nat.lt_of_lt_of_le hi (by decide)
    have h := List.all_eq_true.mp we_allR q (List.mem_of_getElem? hq)
    unfold we_okR at h
    simp only [Bool.and_eq_true, decide_eq_true_eq] at h
    obtain ⟨k1, k2, k3⟩ := h
    obtain ⟨v1, v2⟩ := haS i q hq
    have hany := List.all_eq_true.mp we_has i (List.mem_range.mpr hi)
    obtain ⟨e, he, e2⟩ := List.any_eq_true.mp hany
    have e2 := Nat.eq_of_beq_eq_true e2
    have hv := (haT (200 + i) e he e2).1
    have etm : we_tm (200 + i) = .field (.string q.1 q.2.1) "java/lang/String" "value" "[B" := by
      unfold we_tm
      rw [Nat.ble_eq_true_of_le (Nat.le_add_right 200 i), Nat.add_sub_cancel_left, hq]
      rfl
    rw [etm] at hv
    show vk_R q.1 q.2.1 q.2.2 (st (100 + i)) s ∧ va_O "java/lang/String" (st (100 + i)) A s s.heap ∧ va_OF "java/lang/String" "coder" "B" (.int 0) (st (100 + i)) A s s.heap ∧ va_OF "java/lang/String" "value" "[B" (.ref (st (200 + i))) (st (100 + i)) A s s.heap
    rw [sS i hi2, sT (200 + i) (Or.inr ⟨by omega, by omega⟩)]
    exact ⟨vk_R.of (hts _ k3) v1, v2, vk_OFof v1 (va_eqt (hF _ k2)) hA, vk_OFof v1 hv hA⟩
