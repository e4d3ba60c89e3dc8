section MSW
variable {bytes : ByteArray} {nL : Nat} {y : MethodName} {pc a b : Nat} {L : List Nat}
theorem ms_iadd (hd : decode bytes pc = .ok (.iadd, 1)) : mx_Snd bytes nL y pc (9, a, b, L) :=
  ms_ii (f := fun x y => some (.int (x + y))) (fun _ _ => rfl) (fun _ _ _ h _ => by cases h; rfl) fun _ _ _ h _ _ _ _ _ _ _ _ _ _ _ _ _ _ _ _ _ hx hb k => by cases h; exact lv_iadd hx hb hd k
theorem ms_isub (hd : decode bytes pc = .ok (.isub, 1)) : mx_Snd bytes nL y pc (10, a, b, L) :=
  ms_ii (f := fun x y => some (.int (x - y))) (fun _ _ => rfl) (fun _ _ _ h _ => by cases h; rfl) fun _ _ _ h _ _ _ _ _ _ _ _ _ _ _ _ _ _ _ _ _ hx hb k => by cases h; exact lv_isub hx hb hd k
theorem ms_imul (hd : decode bytes pc = .ok (.imul, 1)) : mx_Snd bytes nL y pc (11, a, b, L) :=
  ms_ii (f := fun x y => some (.int (x * y))) (fun _ _ => rfl) (fun _ _ _ h _ => by cases h; rfl) fun _ _ _ h _ _ _ _ _ _ _ _ _ _ _ _ _ _ _ _ _ hx hb k => by cases h; exact lv_imul hx hb hd k
theorem ms_iand (hd : decode bytes pc = .ok (.iand, 1)) : mx_Snd bytes nL y pc (12, a, b, L) :=
  ms_ii (f := fun x y => some (.int (x &&& y))) (fun _ _ => rfl) (fun _ _ _ h _ => by cases h; rfl) fun _ _ _ h _ _ _ _ _ _ _ _ _ _ _ _ _ _ _ _ _ hx hb k => by cases h; exact lv_iand hx hb hd k
theorem ms_ior (hd : decode bytes pc = .ok (.ior, 1)) : mx_Snd bytes nL y pc (13, a, b, L) :=
  ms_ii (f := fun x y => some (.int (x ||| y))) (fun _ _ => rfl) (fun _ _ _ h _ => by cases h; rfl) fun _ _ _ h _ _ _ _ _ _ _ _ _ _ _ _ _ _ _ _ _ hx hb k => by cases h; exact lv_ior hx hb hd k
theorem mx_div_inv {x y : Int32} {v : Value} (h : mx_div x y = some v) : ¬ y = 0 ∧ v = .int (x / y) := by
  unfold mx_div at h
  split at h
  · cases h
  · next hy => exact ⟨hy, (Option.some.inj h).symm⟩
theorem mx_rem_inv {x y : Int32} {v : Value} (h : mx_rem x y = some v) : ¬ y = 0 ∧ v = .int (x - x / y * y) := by
  unfold mx_rem at h
  split at h
  · cases h
  · next hy => exact ⟨hy, (Option.some.inj h).symm⟩
theorem mx_ldiv_inv {x y : Int64} {v : Value} (h : mx_ldiv x y = some v) : ¬ y = 0 ∧ v = .long (x / y) := by
  unfold mx_ldiv at h
  split at h
  · cases h
  · next hy => exact ⟨hy, (Option.some.inj h).symm⟩
theorem ms_idiv (hd : decode bytes pc = .ok (.idiv, 1)) : mx_Snd bytes nL y pc (14, a, b, L) :=
  ms_ii (f := mx_div) (fun _ _ => rfl) (fun _ _ _ h _ => by obtain ⟨-, rfl⟩ := mx_div_inv h; rfl) fun _ _ _ h _ _ _ _ _ _ _ _ _ _ _ _ _ _ _ _ _ hx hb k => by obtain ⟨h1, rfl⟩ := mx_div_inv h; exact lv_idiv hx hb hd h1 k
theorem ms_irem (hd : decode bytes pc = .ok (.irem, 1)) : mx_Snd bytes nL y pc (15, a, b, L) :=
  ms_ii (f := mx_rem) (fun _ _ => rfl) (fun _ _ _ h _ => by obtain ⟨-, rfl⟩ := mx_rem_inv h; rfl) fun _ _ _ h _ _ _ _ _ _ _ _ _ _ _ _ _ _ _ _ _ hx hb k => by obtain ⟨h1, rfl⟩ := mx_rem_inv h; exact lv_irem hx hb hd h1 k
theorem ms_ineg (hd : decode bytes pc = .ok (.ineg, 1)) : mx_Snd bytes nL y pc (16, a, b, L) :=
  ms_i1 (f := fun x => .int (-x)) (fun _ _ => rfl) (fun _ _ => rfl) fun _ _ _ _ _ _ _ _ _ _ _ _ _ _ _ _ _ _ hx hb k => lv_ineg hx hb hd k
theorem ms_ishl (hd : decode bytes pc = .ok (.ishl, 1)) : mx_Snd bytes nL y pc (17, a, b, L) :=
  ms_ii (f := fun x y => some (.int (x <<< (y &&& 31)))) (fun _ _ => rfl) (fun _ _ _ h _ => by cases h; rfl) fun _ _ _ h _ _ _ _ _ _ _ _ _ _ _ _ _ _ _ _ _ hx hb k => by cases h; exact lv_ishl hx hb hd k
theorem ms_ishr (hd : decode bytes pc = .ok (.ishr, 1)) : mx_Snd bytes nL y pc (18, a, b, L) :=
  ms_ii (f := fun x y => some (.int (x >>> (y &&& 31)))) (fun _ _ => rfl) (fun _ _ _ h _ => by cases h; rfl) fun _ _ _ h _ _ _ _ _ _ _ _ _ _ _ _ _ _ _ _ _ hx hb k => by cases h; exact lv_ishr hx hb hd k
theorem ms_ladd (hd : decode bytes pc = .ok (.ladd, 1)) : mx_Snd bytes nL y pc (19, a, b, L) :=
  ms_ll (f := fun x y => some (.long (x + y))) (fun _ _ => rfl) (fun _ _ _ h _ => by cases h; rfl) fun _ _ _ h _ _ _ _ _ _ _ _ _ _ _ _ _ _ _ _ _ hx hb k => by cases h; exact lv_ladd hx hb hd k
theorem ms_lsub (hd : decode bytes pc = .ok (.lsub, 1)) : mx_Snd bytes nL y pc (20, a, b, L) :=
  ms_ll (f := fun x y => some (.long (x - y))) (fun _ _ => rfl) (fun _ _ _ h _ => by cases h; rfl) fun _ _ _ h _ _ _ _ _ _ _ _ _ _ _ _ _ _ _ _ _ hx hb k => by cases h; exact lv_lsub hx hb hd k
theorem ms_lmul (hd : decode bytes pc = .ok (.lmul, 1)) : mx_Snd bytes nL y pc (21, a, b, L) :=
  ms_ll (f := fun x y => some (.long (x * y))) (fun _ _ => rfl) (fun _ _ _ h _ => by cases h; rfl) fun _ _ _ h _ _ _ _ _ _ _ _ _ _ _ _ _ _ _ _ _ hx hb k => by cases h; exact lv_lmul hx hb hd k
theorem ms_ldiv (hd : decode bytes pc = .ok (.ldiv, 1)) : mx_Snd bytes nL y pc (22, a, b, L) :=
  ms_ll (f := mx_ldiv) (fun _ _ => rfl) (fun _ _ _ h _ => by obtain ⟨-, rfl⟩ := mx_ldiv_inv h; rfl) fun _ _ _ h _ _ _ _ _ _ _ _ _ _ _ _ _ _ _ _ _ hx hb k => by obtain ⟨h1, rfl⟩ := mx_ldiv_inv h; exact lv_ldiv hx hb hd h1 k
theorem ms_land (hd : decode bytes pc = .ok (.land, 1)) : mx_Snd bytes nL y pc (23, a, b, L) :=
  ms_ll (f := fun x y => some (.long (x &&& y))) (fun _ _ => rfl) (fun _ _ _ h _ => by cases h; rfl) fun _ _ _ h _ _ _ _ _ _ _ _ _ _ _ _ _ _ _ _ _ hx hb k => by cases h; exact lv_land hx hb hd k
theorem ms_lor (hd : decode bytes pc = .ok (.lor, 1)) : mx_Snd bytes nL y pc (24, a, b, L) :=
  ms_ll (f := fun x y => some (.long (x ||| y))) (fun _ _ => rfl) (fun _ _ _ h _ => by cases h; rfl) fun _ _ _ h _ _ _ _ _ _ _ _ _ _ _ _ _ _ _ _ _ hx hb k => by cases h; exact lv_lor hx hb hd k
theorem ms_lshl (hd : decode bytes pc = .ok (.lshl, 1)) : mx_Snd bytes nL y pc (25, a, b, L) :=
  ms_li (f := fun x y => .long (x <<< (y.toInt64 &&& 63))) (fun _ _ => rfl) (fun _ _ _ => rfl) fun _ _ _ _ _ _ _ _ _ _ _ _ _ _ _ _ _ _ _ hx hb k => lv_lshl hx hb hd rfl k
theorem ms_lshr (hd : decode bytes pc = .ok (.lshr, 1)) : mx_Snd bytes nL y pc (26, a, b, L) :=
  ms_li (f := fun x y => .long (x >>> (y.toInt64 &&& 63))) (fun _ _ => rfl) (fun _ _ _ => rfl) fun _ _ _ _ _ _ _ _ _ _ _ _ _ _ _ _ _ _ _ hx hb k => lv_lshr hx hb hd rfl k
theorem ms_lcmp (hd : decode bytes pc = .ok (.lcmp, 1)) : mx_Snd bytes nL y pc (27, a, b, L) :=
  ms_ll (f := fun x y => some (.int (lg_cmp x y))) (fun _ _ => rfl) (fun _ _ _ h _ => by cases h; rfl) fun _ _ _ h _ _ _ _ _ _ _ _ _ _ _ _ _ _ _ _ _ hx hb k => by cases h; exact W.lcmp hx hb hd k
theorem ms_i2l (hd : decode bytes pc = .ok (.i2l, 1)) : mx_Snd bytes nL y pc (28, a, b, L) :=
  ms_i1 (f := fun x => .long x.toInt64) (fun _ _ => rfl) (fun _ _ => rfl) fun _ _ _ _ _ _ _ _ _ _ _ _ _ _ _ _ _ _ hx hb k => lv_i2l hx hb hd rfl k
theorem ms_l2i (hd : decode bytes pc = .ok (.l2i, 1)) : mx_Snd bytes nL y pc (29, a, b, L) :=
  ms_l1 (f := fun x => .int x.toInt32) (fun _ _ => rfl) (fun _ _ => rfl) fun _ _ _ _ _ _ _ _ _ _ _ _ _ _ _ _ _ _ hx hb k => lv_l2i hx hb hd rfl k
theorem ms_i2b (hd : decode bytes pc = .ok (.i2b, 1)) : mx_Snd bytes nL y pc (30, a, b, L) :=
  ms_i1 (f := fun x => .int x.toInt8.toInt32) (fun _ _ => rfl) (fun _ _ => rfl) fun _ _ _ _ _ _ _ _ _ _ _ _ _ _ _ _ _ _ hx hb k => lv_i2b hx hb hd rfl k
theorem ms_i2s (hd : decode bytes pc = .ok (.i2s, 1)) : mx_Snd bytes nL y pc (31, a, b, L) :=
  ms_i1 (f := fun x => .int x.toInt16.toInt32) (fun _ _ => rfl) (fun _ _ => rfl) fun _ _ _ _ _ _ _ _ _ _ _ _ _ _ _ _ _ _ hx hb k => lv_i2s hx hb hd rfl k
theorem ms_i2c (hd : decode bytes pc = .ok (.i2c, 1)) : mx_Snd bytes nL y pc (32, a, b, L) :=
  ms_i1 (f := fun x => .int (x.toUInt32 % 65536).toInt32) (fun _ _ => rfl) (fun _ _ => rfl) fun _ _ _ _ _ _ _ _ _ _ _ _ _ _ _ _ _ _ hx hb k => lv_i2c hx hb hd rfl k
theorem ms_dup (hd : decode bytes pc = .ok (.dup, 1)) : mx_Snd bytes nL y pc (33, a, b, L) :=
  ms_plain fun SA c c' hop hpc => by
    have hop : mx_dup c = some c' := hop
    unfold mx_dup at hop
    split at hop
    · next v st hst =>
      cases h2 : mx_is2 v with
      | true => rw [h2] at hop; cases hop
      | false =>
        rw [h2] at hop
        have h := Option.some.inj hop
        subst h
        refine ⟨[v], [v, v], st, hst, rfl, rfl, rfl, fun G => ?_⟩
        subst hpc
        intro p l e R s m args below meth c0 Q H locs cells slots ls rest hx hb k
        exact lv_dup hx hb hd (by rw [mx_tr_cat]; exact mx_is2_cat h2) k
    · cases hop
theorem ms_pop (hd : decode bytes pc = .ok (.pop, 1)) : mx_Snd bytes nL y pc (34, a, b, L) :=
  ms_plain fun SA c c' hop hpc => by
    have hop : mx_pop c = some c' := hop
    unfold mx_pop at hop
    split at hop
    · next v st hst =>
      cases h2 : mx_is2 v with
      | true => rw [h2] at hop; cases hop
      | false =>
        rw [h2] at hop
        have h := Option.some.inj hop
        subst h
        refine ⟨[v], [], st, hst, rfl, rfl, rfl, fun G => ?_⟩
        subst hpc
        intro p l e R s m args below meth c0 Q H locs cells slots ls rest hx hb k
        exact lv_pop hx hb hd (by rw [mx_tr_cat]; exact mx_is2_cat h2) k
    · cases hop
theorem ms_dup2 (hd : decode bytes pc = .ok (.dup2, 1)) : mx_Snd bytes nL y pc (35, a, b, L) :=
  ms_plain fun SA c c' hop hpc => by
    have hop : mx_dup2 c = some c' := hop
    unfold mx_dup2 at hop
    split at hop
    · next v w st hst =>
      cases h2 : mx_is2 v with
      | true => rw [h2] at hop; cases hop
      | false =>
        cases h3 : mx_is2 w with
        | true => rw [h2, h3] at hop; cases hop
        | false =>
          rw [h2, h3] at hop
          have h := Option.some.inj hop
          subst h
          refine ⟨[v, w], [v, w, v, w], st, hst, rfl, rfl, rfl, fun G => ?_⟩
          subst hpc
          intro p l e R s m args below meth c0 Q H locs cells slots ls rest hx hb k
          exact lv_dup2_11 hx hb hd (by rw [mx_tr_cat]; exact mx_is2_cat h2) (by rw [mx_tr_cat]; exact mx_is2_cat h3) k
    · cases hop
theorem mx_is2_cat2 {v : Value} (h : mx_is2 v = true) : v.category = 2 := by cases v <;> first | rfl | cases h
theorem ms_pop2 (hd : decode bytes pc = .ok (.pop2, 1)) : mx_Snd bytes nL y pc (67, a, b, L) :=
  ms_plain fun SA c c' hop hpc => by
    have hop : mx_pop2 c = some c' := hop
    unfold mx_pop2 at hop
    split at hop
    · next v st hst =>
      cases h2 : mx_is2 v with
      | false => rw [h2] at hop; cases hop
      | true =>
        rw [h2] at hop
        have h := Option.some.inj hop
        subst h
        refine ⟨[v], [], st, hst, rfl, rfl, rfl, fun G => ?_⟩
        subst hpc
        intro p l e R s m args below meth c0 Q H locs cells slots ls rest hx hb k
        exact lv_pop2_2 hx hb hd (by rw [mx_tr_cat]; exact mx_is2_cat2 h2) k
    · cases hop
/-- branches -/
theorem ms_if {i : mx_I} {f : Int32 → Bool} {t : Nat} (hi : ∀ (SA : mx_S) (c : mx_C), mx_op SA mx_SF mx_DF 14 i c = mx_if f t c) (row : ∀ x, mx_Row bytes pc (bif f x then t else pc + 3) [.int x] []) : mx_Snd bytes nL y pc i :=
  ms_plain fun SA c c' hop hpc => by
    rw [hi] at hop
    unfold mx_if at hop
    split at hop
    · next x st hst =>
      have h := Option.some.inj hop
      subst h
      subst hpc
      exact ⟨[.int x], [], st, hst, rfl, rfl, rfl, fun G => row x⟩
    · cases hop
theorem ms_if2 {i : mx_I} {f : Int32 → Int32 → Bool} {t : Nat} (hi : ∀ (SA : mx_S) (c : mx_C), mx_op SA mx_SF mx_DF 14 i c = mx_if2 f t c) (row : ∀ x z, mx_Row bytes pc (bif f x z then t else pc + 3) [.int z, .int x] []) : mx_Snd bytes nL y pc i :=
  ms_plain fun SA c c' hop hpc => by
    rw [hi] at hop
    unfold mx_if2 at hop
    split at hop
    · next z x st hst =>
      have h := Option.some.inj hop
      subst h
      subst hpc
      exact ⟨[.int z, .int x], [], st, hst, rfl, rfl, rfl, fun G => row x z⟩
    · cases hop
theorem mx_sel {t u : Nat} {P : Nat → Prop} {c : Bool} (k : P (bif c then t else u)) : (c = true → P t) ∧ (c = false → P u) := by
  cases c
  · exact ⟨fun h => (by cases h), fun _ => k⟩
  · exact ⟨fun _ => k, fun h => (by cases h)⟩
theorem ms_if_eq {off : Int} (hd : decode bytes pc = .ok (.ifCond .eq off, 3)) (ht : (pc : Int) + off = (a : Int)) : mx_Snd bytes nL y pc (36, a, b, L) :=
  ms_if (f := fun x => decide (x = 0)) (fun _ _ => rfl) fun x p l e R s m args below meth c0 Q H locs cells slots ls rest hx hb k => by
    have k2 := mx_sel (P := fun n => W p l e R s m args below meth c0 H locs cells slots Q (F0 m n ls rest)) (c := decide (x = 0)) (t := a) (u := pc + 3) k
    exact lv_if_eq hx hb hd ht (fun h => k2.1 (decide_eq_true h)) (fun h => k2.2 (decide_eq_false h))
theorem ms_if_ne {off : Int} (hd : decode bytes pc = .ok (.ifCond .ne off, 3)) (ht : (pc : Int) + off = (a : Int)) : mx_Snd bytes nL y pc (37, a, b, L) :=
  ms_if (f := fun x => !decide (x = 0)) (fun _ _ => rfl) fun x p l e R s m args below meth c0 Q H locs cells slots ls rest hx hb k => by
    have k2 := mx_sel (P := fun n => W p l e R s m args below meth c0 H locs cells slots Q (F0 m n ls rest)) (c := !decide (x = 0)) (t := a) (u := pc + 3) k
    exact lv_if_ne hx hb hd ht (fun h => k2.1 (by simp [h])) (fun h => k2.2 (by simpa using h))
theorem ms_if_lt {off : Int} (hd : decode bytes pc = .ok (.ifCond .lt off, 3)) (ht : (pc : Int) + off = (a : Int)) : mx_Snd bytes nL y pc (38, a, b, L) :=
  ms_if (f := fun x => decide (x < 0)) (fun _ _ => rfl) fun x p l e R s m args below meth c0 Q H locs cells slots ls rest hx hb k => by
    have k2 := mx_sel (P := fun n => W p l e R s m args below meth c0 H locs cells slots Q (F0 m n ls rest)) (c := decide (x < 0)) (t := a) (u := pc + 3) k
    exact lv_if_lt hx hb hd ht (fun h => k2.1 (decide_eq_true h)) (fun h => k2.2 (decide_eq_false h))
theorem ms_if_ge {off : Int} (hd : decode bytes pc = .ok (.ifCond .ge off, 3)) (ht : (pc : Int) + off = (a : Int)) : mx_Snd bytes nL y pc (39, a, b, L) :=
  ms_if (f := fun x => decide (0 ≤ x)) (fun _ _ => rfl) fun x p l e R s m args below meth c0 Q H locs cells slots ls rest hx hb k => by
    have k2 := mx_sel (P := fun n => W p l e R s m args below meth c0 H locs cells slots Q (F0 m n ls rest)) (c := decide (0 ≤ x)) (t := a) (u := pc + 3) k
    exact lv_if_ge hx hb hd ht (fun h => k2.1 (decide_eq_true h)) (fun h => k2.2 (decide_eq_false h))
theorem ms_if_gt {off : Int} (hd : decode bytes pc = .ok (.ifCond .gt off, 3)) (ht : (pc : Int) + off = (a : Int)) : mx_Snd bytes nL y pc (40, a, b, L) :=
  ms_if (f := fun x => decide (0 < x)) (fun _ _ => rfl) fun x p l e R s m args below meth c0 Q H locs cells slots ls rest hx hb k => by
    have k2 := mx_sel (P := fun n => W p l e R s m args below meth c0 H locs cells slots Q (F0 m n ls rest)) (c := decide (0 < x)) (t := a) (u := pc + 3) k
    exact lv_if_gt hx hb hd ht (fun h => k2.1 (decide_eq_true h)) (fun h => k2.2 (decide_eq_false h))
theorem ms_if_le {off : Int} (hd : decode bytes pc = .ok (.ifCond .le off, 3)) (ht : (pc : Int) + off = (a : Int)) : mx_Snd bytes nL y pc (41, a, b, L) :=
  ms_if (f := fun x => decide (x ≤ 0)) (fun _ _ => rfl) fun x p l e R s m args below meth c0 Q H locs cells slots ls rest hx hb k => by
    have k2 := mx_sel (P := fun n => W p l e R s m args below meth c0 H locs cells slots Q (F0 m n ls rest)) (c := decide (x ≤ 0)) (t := a) (u := pc + 3) k
    exact lv_if_le hx hb hd ht (fun h => k2.1 (decide_eq_true h)) (fun h => k2.2 (decide_eq_false h))
theorem ms_icmp_eq {off : Int} (hd : decode bytes pc = .ok (.if_icmp .eq off, 3)) (ht : (pc : Int) + off = (a : Int)) : mx_Snd bytes nL y pc (42, a, b, L) :=
  ms_if2 (f := fun x z => decide (x = z)) (fun _ _ => rfl) fun x z p l e R s m args below meth c0 Q H locs cells slots ls rest hx hb k => by
    have k2 := mx_sel (P := fun n => W p l e R s m args below meth c0 H locs cells slots Q (F0 m n ls rest)) (c := decide (x = z)) (t := a) (u := pc + 3) k
    exact lv_icmp_eq hx hb hd ht (fun h => k2.1 (decide_eq_true h)) (fun h => k2.2 (decide_eq_false h))
theorem ms_icmp_ne {off : Int} (hd : decode bytes pc = .ok (.if_icmp .ne off, 3)) (ht : (pc : Int) + off = (a : Int)) : mx_Snd bytes nL y pc (43, a, b, L) :=
  ms_if2 (f := fun x z => !decide (x = z)) (fun _ _ => rfl) fun x z p l e R s m args below meth c0 Q H locs cells slots ls rest hx hb k => by
    have k2 := mx_sel (P := fun n => W p l e R s m args below meth c0 H locs cells slots Q (F0 m n ls rest)) (c := !decide (x = z)) (t := a) (u := pc + 3) k
    exact lv_icmp_ne hx hb hd ht (fun h => k2.1 (by simp [h])) (fun h => k2.2 (by simpa using h))
theorem ms_icmp_lt {off : Int} (hd : decode bytes pc = .ok (.if_icmp .lt off, 3)) (ht : (pc : Int) + off = (a : Int)) : mx_Snd bytes nL y pc (44, a, b, L) :=
  ms_if2 (f := fun x z => decide (x < z)) (fun _ _ => rfl) fun x z p l e R s m args below meth c0 Q H locs cells slots ls rest hx hb k => by
    have k2 := mx_sel (P := fun n => W p l e R s m args below meth c0 H locs cells slots Q (F0 m n ls rest)) (c := decide (x < z)) (t := a) (u := pc + 3) k
    exact lv_icmp_lt hx hb hd ht (fun h => k2.1 (decide_eq_true h)) (fun h => k2.2 (decide_eq_false h))
theorem ms_icmp_ge {off : Int} (hd : decode bytes pc = .ok (.if_icmp .ge off, 3)) (ht : (pc : Int) + off = (a : Int)) : mx_Snd bytes nL y pc (45, a, b, L) :=
  ms_if2 (f := fun x z => decide (z ≤ x)) (fun _ _ => rfl) fun x z p l e R s m args below meth c0 Q H locs cells slots ls rest hx hb k => by
    have k2 := mx_sel (P := fun n => W p l e R s m args below meth c0 H locs cells slots Q (F0 m n ls rest)) (c := decide (z ≤ x)) (t := a) (u := pc + 3) k
    exact lv_icmp_ge hx hb hd ht (fun h => k2.1 (decide_eq_true h)) (fun h => k2.2 (decide_eq_false h))
theorem ms_icmp_gt {off : Int} (hd : decode bytes pc = .ok (.if_icmp .gt off, 3)) (ht : (pc : Int) + off = (a : Int)) : mx_Snd bytes nL y pc (46, a, b, L) :=
  ms_if2 (f := fun x z => decide (z < x)) (fun _ _ => rfl) fun x z p l e R s m args below meth c0 Q H locs cells slots ls rest hx hb k => by
    have k2 := mx_sel (P := fun n => W p l e R s m args below meth c0 H locs cells slots Q (F0 m n ls rest)) (c := decide (z < x)) (t := a) (u := pc + 3) k
    exact lv_icmp_gt hx hb hd ht (fun h => k2.1 (decide_eq_true h)) (fun h => k2.2 (decide_eq_false h))
theorem ms_icmp_le {off : Int} (hd : decode bytes pc = .ok (.if_icmp .le off, 3)) (ht : (pc : Int) + off = (a : Int)) : mx_Snd bytes nL y pc (47, a, b, L) :=
  ms_if2 (f := fun x z => decide (x ≤ z)) (fun _ _ => rfl) fun x z p l e R s m args below meth c0 Q H locs cells slots ls rest hx hb k => by
    have k2 := mx_sel (P := fun n => W p l e R s m args below meth c0 H locs cells slots Q (F0 m n ls rest)) (c := decide (x ≤ z)) (t := a) (u := pc + 3) k
    exact lv_icmp_le hx hb hd ht (fun h => k2.1 (decide_eq_true h)) (fun h => k2.2 (decide_eq_false h))
theorem ms_goto {off : Int} (hd : decode bytes pc = .ok (.goto off, 3)) (ht : (pc : Int) + off = (a : Int)) : mx_Snd bytes nL y pc (48, a, b, L) :=
  ms_plain fun SA c c' hop hpc => by
    have h := Option.some.inj (show some (a, c.2.1, c.2.2.1, c.2.2.2) = some c' from hop)
    subst h
    refine ⟨[], [], c.2.2.1, rfl, rfl, rfl, rfl, fun G => ?_⟩
    intro p l e R s m args below meth c0 Q H locs cells slots ls rest hx hb k
    exact lv_goto hx hb hd ht k
theorem ms_sw {i : mx_I} {f : Int32 → Nat} (hi : ∀ (SA : mx_S) (c : mx_C), mx_op SA mx_SF mx_DF 14 i c = mx_sw f c) (row : ∀ x, mx_Row bytes pc (f x) [.int x] []) : mx_Snd bytes nL y pc i :=
  ms_plain fun SA c c' hop hpc => by
    rw [hi] at hop
    unfold mx_sw at hop
    split at hop
    · next x st hst =>
      have h := Option.some.inj hop
      subst h
      subst hpc
      exact ⟨[.int x], [], st, hst, rfl, rfl, rfl, fun G => row x⟩
    · cases hop
/-- the targets of a table switch are the offsets' -/
def mx_offs (pc : Nat) : List Int → List Nat → Bool
  | [], [] => true
  | o :: os, t :: ts => decide ((pc : Int) + o = (t : Int)) && mx_offs pc os ts
  | _, _ => false
theorem mx_offs_at {pc : Nat} : ∀ {os : List Int} {ts : List Nat}, mx_offs pc os ts = true → ∀ {k t : Nat}, mx_nth ts k = some t → ∃ o, os[k]? = some o ∧ (pc : Int) + o = (t : Int)
  | [], [], _, k, t, h => by simp [mx_nth] at h
  | [], _ :: _, h, _, _, _ => by simp [mx_offs] at h
  | _ :: _, [], h, _, _, _ => by simp [mx_offs] at h
  | o :: os, u :: ts, h, k, t, hk => by
    simp only [mx_offs, Bool.and_eq_true, decide_eq_true_eq] at h
    cases k with
    | zero =>
      have hk : some u = some t := hk
      cases hk
      exact ⟨o, rfl, h.1⟩
    | succ k =>
      have hk : mx_nth ts k = some t := hk
      obtain ⟨o', h1, h2⟩ := mx_offs_at h.2 hk
      exact ⟨o', by simpa using h1, h2⟩
theorem mx_offs_len {pc : Nat} : ∀ {os : List Int} {ts : List Nat}, mx_offs pc os ts = true → os.length = ts.length
  | [], [], _ => rfl
  | [], _ :: _, h => by simp [mx_offs] at h
  | _ :: _, [], h => by simp [mx_offs] at h
  | o :: os, u :: ts, h => by
    simp only [mx_offs, Bool.and_eq_true, decide_eq_true_eq] at h
    simp [mx_offs_len h.2]
theorem mx_nth_none {α : Type} {l : List α} {n : Nat} (h : mx_nth l n = none) : l.length ≤ n := by
  rw [mx_nth_eq] at h
  simpa using h
theorem ms_tsw {dflt lo hi : Int} {offs : Array Int} {len : Nat} (hd : decode bytes pc = .ok (.tableswitch dflt lo hi offs, len)) (h1 : (pc : Int) + dflt = (a : Int)) (h2 : (Int32.ofNat b).toInt = lo) (h3 : mx_offs pc offs.toList L = true) (h4 : hi = lo + (L.length : Int) - 1) : mx_Snd bytes nL y pc (49, a, b, L) :=
  ms_sw (f := fun x => mx_tsw a (Int32.ofNat b).toInt L x.toInt) (fun _ _ => rfl) fun x p l e R s m args below meth c0 Q H locs cells slots ls rest hx hb k => by
    have k : W p l e R s m args below meth c0 H locs cells slots Q (F0 m (mx_tsw a (Int32.ofNat b).toInt L x.toInt) ls rest) := k
    rw [h2] at k
    unfold mx_tsw at k
    split at k
    · next n hn =>
      have hn : x.toInt - lo = (n : Int) := hn
      split at k
      · next t ht =>
        obtain ⟨o, e1, e2⟩ := mx_offs_at h3 ht
        have hlt : n < L.length := by
          rcases Nat.lt_or_ge n L.length with q | q
          · exact q
          · rw [mx_nth_eq, List.getElem?_eq_none q] at ht
            cases ht
        refine lv_tableIn (off := o) hx hb hd (by omega) (by omega) ?_ e2 k
        rw [hn]
        rw [← Array.getElem?_toList]
        exact e1
      · next ht =>
        have hge := mx_nth_none ht
        exact lv_tableOut hx hb hd (Or.inr (by omega)) h1 k
    · next n hn =>
      have hn : x.toInt - lo = Int.negSucc n := hn
      exact lv_tableOut hx hb hd (Or.inl (by omega)) h1 k
/-- a lookup switch: keys, offsets and targets -/
def mx_lks (pc : Nat) : List (Int × Int) → List Nat → Bool
  | [], [] => true
  | p :: ps, k :: t :: r => decide ((Int32.ofNat k).toInt = p.1) && (decide ((pc : Int) + p.2 = (t : Int)) && mx_lks pc ps r)
  | _, _ => false
theorem mx_lks_at {pc d : Nat} {dflt : Int} (hd : (pc : Int) + dflt = (d : Int)) (x : Int32) : ∀ {ps : List (Int × Int)} {ts : List Nat}, mx_lks pc ps ts = true → (pc : Int) + Op.lookupswitch.offset ps dflt x.toInt = (mx_lsw d x ts : Int)
  | [], [], _ => hd
  | [], _ :: _, h => by simp [mx_lks] at h
  | _ :: _, [], h => by simp [mx_lks] at h
  | _ :: _, [_], h => by simp [mx_lks] at h
  | p :: ps, k :: t :: r, h => by
    simp only [mx_lks, Bool.and_eq_true, decide_eq_true_eq] at h
    obtain ⟨q1, q2⟩ := p
    unfold mx_lsw
    by_cases hx : x = Int32.ofNat k
    · subst hx
      have e : Op.lookupswitch.offset ((q1, q2) :: ps) dflt (Int32.ofNat k).toInt = q2 := by
        rw [h.1]
        simp [Op.lookupswitch.offset]
      rw [e]
      simpa using h.2.1
    · have e := lv_osw (a := q1) (o := q2) (d := dflt) (r := ps) hx h.1
      rw [e]
      have hb : (x == Int32.ofNat k) = false := by simpa using hx
      rw [hb]
      exact mx_lks_at hd x h.2.2
theorem ms_lsw {dflt : Int} {ps : Array (Int × Int)} {len : Nat} (hd : decode bytes pc = .ok (.lookupswitch dflt ps, len)) (h1 : (pc : Int) + dflt = (a : Int)) (h2 : mx_lks pc ps.toList L = true) (h3 : (ps.toList.zip (ps.toList.drop 1)).all (fun (a, next) => a.1 < next.1) = true) : mx_Snd bytes nL y pc (50, a, b, L) :=
  ms_sw (f := fun x => mx_lsw a x L) (fun _ _ => rfl) fun x p l e R s m args below meth c0 Q H locs cells slots ls rest hx hb k =>
    lv_lookup hx hb hd h3 rfl (mx_lks_at h1 x h2) k
end MSW
