/-! WHAT TEXTS SAY: what can be said holds -/
section SXSA
variable {P : sx_P} {σ : Nat → Int} {φ : sx_R} {D : sx_D}
theorem sx_n91 {C F K : Nat} {s i u : sx_E} : sx_fk sx_TGm σ φ (1091, [C, F, K], [s, i, u]) ↔ 0 ≤ sx_ev σ s ∧ sx_ev σ s ≤ sx_ev σ i ∧ 0 ≤ sx_ev σ u ∧ tr_pi (φ K) (sx_ev σ u).toNat (tr_rf (tr_stC (φ F) (φ C)) (sx_ev σ s).toNat (sx_ev σ i - sx_ev σ s).toNat []) := Iff.rfl
theorem sx_n92 {t a b x : sx_E} : sx_fk sx_TGm σ φ (1092, [], [t, a, b, x]) ↔ sx_ev σ x = tr_op (sx_ev σ t) (sx_ev σ a) (sx_ev σ b) := Iff.rfl
theorem sx_n04 {t a b x : sx_E} : sx_fk sx_TGm σ φ (1104, [], [t, a, b, x]) ↔ sx_ev σ x = tr_ob (sx_ev σ t) (sx_ev σ a) (sx_ev σ b) := Iff.rfl
theorem sx_n93 {C F : Nat} {s e x : sx_E} : sx_fk sx_TGm σ φ (1093, [C, F], [s, e, x]) ↔ 0 ≤ sx_ev σ s ∧ sx_ev σ s ≤ sx_ev σ e ∧ sx_ev σ x = tr_hd (tr_rf (tr_stC (φ F) (φ C)) (sx_ev σ s).toNat (sx_ev σ e - sx_ev σ s).toNat []) := Iff.rfl
theorem sx_n95 {C ST EN F : Nat} {t p x : sx_E} : sx_fk sx_TGm σ φ (1095, [C, ST, EN, F], [t, p, x]) ↔ sx_ev σ x = tr_hd (tr_rf (tr_stC (φ F) (φ C)) (φ ST (4 * sx_ev σ t + sx_ev σ p).toNat).toNat (φ EN (4 * sx_ev σ t + sx_ev σ p).toNat - φ ST (4 * sx_ev σ t + sx_ev σ p).toNat).toNat []) := Iff.rfl
theorem sx_n96 {A W PE F : Nat} {t p x : sx_E} : sx_fk sx_TGm σ φ (1096, [A, W, PE, F], [t, p, x]) ↔ 0 ≤ sx_ev σ t ∧ 1 ≤ sx_ev σ p ∧ ((tr_sy (φ F) (φ A) (φ W) (φ PE) (sx_ev σ t).toNat (sx_ev σ p).toNat).length = 1 → sx_ev σ x = tr_hd (tr_sy (φ F) (φ A) (φ W) (φ PE) (sx_ev σ t).toNat (sx_ev σ p).toNat)) := Iff.rfl
theorem sx_n01 {A W PE F K : Nat} {t p k n : sx_E} : sx_fk sx_TGm σ φ (1101, [A, W, PE, F, K], [t, p, k, n]) ↔ 0 ≤ sx_ev σ t ∧ 1 ≤ sx_ev σ p ∧ 0 ≤ sx_ev σ n ∧ 0 ≤ tr_lo (φ PE) (sx_ev σ t).toNat (sx_ev σ p).toNat ∧ 170 * sx_ev σ t + tr_lo (φ PE) (sx_ev σ t).toNat (sx_ev σ p).toNat ≤ sx_ev σ k ∧ sx_ev σ k ≤ 170 * sx_ev σ t + φ PE (4 * sx_ev σ t + sx_ev σ p).toNat ∧ tr_pi (φ K) (sx_ev σ n).toNat (tr_rf (tr_stR (φ F) (φ A) (φ W)) (170 * sx_ev σ t + tr_lo (φ PE) (sx_ev σ t).toNat (sx_ev σ p).toNat).toNat (sx_ev σ k - (170 * sx_ev σ t + tr_lo (φ PE) (sx_ev σ t).toNat (sx_ev σ p).toNat)).toNat []) := Iff.rfl
theorem sx_n05 {CP G K Y RT RF A W PE : Nat} {m c x : sx_E} : sx_fk sx_TGm σ φ (1105, [CP, G, K, Y, RT, RF, A, W, PE], [m, c, x]) ↔ 0 ≤ sx_ev σ c ∧ ∃ F : Nat → Int, (tr_sy (tr_nf F (tr_ct (φ CP) (φ CP (sx_ev σ c).toNat) ((sx_ev σ c).toNat + 1)) (φ K (sx_ev σ c).toNat)) (φ A) (φ W) (φ PE) (tr_at (φ RT) 0 (tr_bt (φ RF) (φ Y (φ G (sx_ev σ c).toNat).toNat) (sx_ev σ m).toNat)).toNat 3).length = 1 → sx_ev σ x = tr_cl (tr_hd (tr_sy (tr_nf F (tr_ct (φ CP) (φ CP (sx_ev σ c).toNat) ((sx_ev σ c).toNat + 1)) (φ K (sx_ev σ c).toNat)) (φ A) (φ W) (φ PE) (tr_at (φ RT) 0 (tr_bt (φ RF) (φ Y (φ G (sx_ev σ c).toNat).toNat) (sx_ev σ m).toNat)).toNat 3)) := Iff.rfl
theorem sx_n07 {A : Nat} {c o n : sx_E} : sx_fk sx_TGm σ φ (1107, [A], [c, o, n]) ↔ 0 ≤ sx_ev σ c ∧ 0 ≤ sx_ev σ o ∧ sx_ev σ n = tr_ct (φ A) (φ A (sx_ev σ c).toNat) (sx_ev σ o).toNat := Iff.rfl
theorem tr_add {a b : Int} (a1 : -2147483648 ≤ a) (a2 : a ≤ 2147483647) (b1 : -2147483648 ≤ b) (b2 : b ≤ 2147483647) (s1 : -2147483648 ≤ a + b) (s2 : a + b ≤ 2147483647) : sx_fn 9 a b = a + b := by
  have e1 : (Int32.ofInt a).toInt = a := Int32.toInt_ofInt_of_le (by omega) (by omega)
  have e2 : (Int32.ofInt b).toInt = b := Int32.toInt_ofInt_of_le (by omega) (by omega)
  show (Int32.ofInt a + Int32.ofInt b).toInt = _
  rw [sn_add (by rw [e1, e2]; omega) (by rw [e1, e2]; omega), e1, e2]
theorem tr_sub {a b : Int} (a1 : -2147483648 ≤ a) (a2 : a ≤ 2147483647) (b1 : -2147483648 ≤ b) (b2 : b ≤ 2147483647) (s1 : -2147483648 ≤ a - b) (s2 : a - b ≤ 2147483647) : sx_fn 10 a b = a - b := by
  have e1 : (Int32.ofInt a).toInt = a := Int32.toInt_ofInt_of_le (by omega) (by omega)
  have e2 : (Int32.ofInt b).toInt = b := Int32.toInt_ofInt_of_le (by omega) (by omega)
  show (Int32.ofInt a - Int32.ofInt b).toInt = _
  rw [sn_sub (by rw [e1, e2]; omega) (by rw [e1, e2]; omega), e1, e2]
theorem tr_neg {a : Int} (a1 : -2147483648 ≤ a) (a2 : a ≤ 2147483647) (s2 : -a ≤ 2147483647) : sx_fn 16 a 0 = -a := by
  have e1 : (Int32.ofInt a).toInt = a := Int32.toInt_ofInt_of_le (by omega) (by omega)
  show (-Int32.ofInt a).toInt = _
  rw [sn_neg (by rw [e1]; omega) (by rw [e1]; omega), e1]
theorem sx_in32_ok {e : sx_E} (hd : sx_d P sx_TGm σ φ D) (h : sx_in32 P D e = true) : -2147483648 ≤ sx_ev σ e ∧ sx_ev σ e ≤ 2147483647 := by
  unfold sx_in32 at h
  rw [Bool.and_eq_true] at h
  have h1 := sx_ge_ok hd h.1
  have h2 := sx_ge_ok hd h.2
  rw [sx_ev_pk] at h1 h2
  rw [sx_ev_ng] at h2
  omega
theorem sx_of_ok {o : Nat} {a b x : sx_E} (hd : sx_d P sx_TGm σ φ D) (ho : o = 109 ∨ o = 110 ∨ o = 111) (h : sx_of P D o a b x = true) : sx_fn (o - 100) (sx_ev σ a) (sx_ev σ b) = sx_ev σ x := by
  obtain ⟨f, h1, h2⟩ := sx_any_ok h
  have hf := hd.2.2.2.2 f h1
  unfold sx_oa at h2
  split at h2
  · next o' a' b' x' =>
    simp only [Bool.and_eq_true] at h2
    obtain ⟨k1, k2, k3, k4⟩ := h2
    rw [Nat.eq_of_beq_eq_true k1] at hf
    rw [← sx_eqp_ok hd k2, ← sx_eqp_ok hd k3, ← sx_eqp_ok hd k4]
    rcases ho with rfl | rfl | rfl
    · exact hf
    · exact hf
    · exact hf
  · cases h2
theorem sx_cmp1_ok {t f : Bool} {x : sx_E} {p : Prop} [Decidable p] (hd : sx_d P sx_TGm σ φ D) (ht : t = true → p) (hf : f = true → ¬ p) (h : sx_cmp1 P D t f x = true) : sx_ev σ x = if p then 1 else 0 := by
  unfold sx_cmp1 at h
  rw [Bool.or_eq_true, Bool.and_eq_true, Bool.and_eq_true] at h
  rcases h with ⟨h1, h2⟩ | ⟨h1, h2⟩
  · rw [if_pos (ht h1)]
    exact (sx_eqp_ok hd h2).trans sx_ev_k
  · rw [if_neg (hf h1)]
    exact (sx_eqp_ok hd h2).trans sx_ev_k
theorem sx_op1_ok {t a b x : sx_E} (hd : sx_d P sx_TGm σ φ D) (h : sx_op1 P D t a b x = true) : sx_ev σ x = tr_op (sx_ev σ t) (sx_ev σ a) (sx_ev σ b) := by
  unfold sx_op1 at h
  unfold tr_op
  rw [Bool.or_eq_true, Bool.or_eq_true, Bool.or_eq_true, Bool.or_eq_true, Bool.or_eq_true, Bool.or_eq_true, Bool.or_eq_true] at h
  rcases h with h | h | h | h | h | h | h | h
  · rw [Bool.and_eq_true, Bool.or_eq_true] at h
    have et := (sx_eqp_ok hd h.1).trans sx_ev_k
    rw [if_pos et]
    rcases h.2 with h2 | h2
    · simp only [Bool.and_eq_true] at h2
      obtain ⟨k1, k2, k3, k4⟩ := h2
      have e1 := (sx_eqp_ok hd k1).trans sx_ev_ad
      have e2 := sx_in32_ok hd k2
      have e3 := sx_in32_ok hd k3
      have e4 := sx_in32_ok hd k4
      rw [sx_ev_ad] at e2
      rw [e1, tr_add e3.1 e3.2 e4.1 e4.2 e2.1 e2.2]
    · exact (sx_of_ok hd (Or.inl rfl) h2).symm
  · rw [Bool.and_eq_true, Bool.or_eq_true] at h
    have et := (sx_eqp_ok hd h.1).trans sx_ev_k
    rw [if_neg (by omega), if_pos et]
    rcases h.2 with h2 | h2
    · simp only [Bool.and_eq_true] at h2
      obtain ⟨k1, k2, k3, k4⟩ := h2
      have e1 := (sx_eqp_ok hd k1).trans sx_ev_sb
      have e2 := sx_in32_ok hd k2
      have e3 := sx_in32_ok hd k3
      have e4 := sx_in32_ok hd k4
      rw [sx_ev_sb] at e2
      rw [e1, tr_sub e3.1 e3.2 e4.1 e4.2 e2.1 e2.2]
    · exact (sx_of_ok hd (Or.inr (Or.inl rfl)) h2).symm
  · rw [Bool.and_eq_true] at h
    have et := (sx_eqp_ok hd h.1).trans sx_ev_k
    rw [if_neg (by omega), if_neg (by omega), if_pos et]
    exact (sx_of_ok hd (Or.inr (Or.inr rfl)) h.2).symm
  · rw [Bool.and_eq_true] at h
    have et := (sx_eqp_ok hd h.1).trans sx_ev_k
    rw [if_neg (by omega), if_neg (by omega), if_neg (by omega), if_pos et]
    refine sx_cmp1_ok hd (fun z => ?_) (fun z => ?_) h.2
    · have := sx_ge_ok hd z
      rw [sx_ev_pk, sx_ev_sb] at this
      omega
    · have := sx_ge_ok hd z
      rw [sx_ev_sb] at this
      omega
  · rw [Bool.and_eq_true] at h
    have et := (sx_eqp_ok hd h.1).trans sx_ev_k
    rw [if_neg (by omega), if_neg (by omega), if_neg (by omega), if_neg (by omega), if_pos et]
    refine sx_cmp1_ok hd (fun z => sx_eqp_ok hd z) (fun z => ?_) h.2
    have := sx_nzb_ok hd z
    rw [sx_ev_sb] at this
    omega
  · rw [Bool.and_eq_true] at h
    have et := (sx_eqp_ok hd h.1).trans sx_ev_k
    rw [if_neg (by omega), if_neg (by omega), if_neg (by omega), if_neg (by omega), if_neg (by omega), if_pos et]
    refine sx_cmp1_ok hd (fun z => ?_) (fun z => ?_) h.2
    · rw [Bool.and_eq_true] at z
      exact ⟨sx_nzb_ok hd z.1, sx_nzb_ok hd z.2⟩
    · rw [Bool.or_eq_true] at z
      intro y
      rcases z with z | z
      · exact y.1 ((sx_eqp_ok hd z).trans sx_ev_k)
      · exact y.2 ((sx_eqp_ok hd z).trans sx_ev_k)
  · rw [Bool.and_eq_true] at h
    have et := (sx_eqp_ok hd h.1).trans sx_ev_k
    rw [if_neg (by omega), if_neg (by omega), if_neg (by omega), if_neg (by omega), if_neg (by omega), if_neg (by omega), if_pos et]
    refine sx_cmp1_ok hd (fun z => ?_) (fun z => ?_) h.2
    · rw [Bool.or_eq_true] at z
      exact z.elim (fun z => Or.inl (sx_nzb_ok hd z)) (fun z => Or.inr (sx_nzb_ok hd z))
    · rw [Bool.and_eq_true] at z
      intro y
      exact y.elim (fun y => y ((sx_eqp_ok hd z.1).trans sx_ev_k)) (fun y => y ((sx_eqp_ok hd z.2).trans sx_ev_k))
  · rw [Bool.and_eq_true] at h
    have hn : ∀ c ∈ sx_ks, ¬ sx_ev σ t = c := fun c hc => by
      have := sx_nzb_ok hd (sx_ql_ok h.1 c hc)
      rw [sx_ev_pk] at this
      omega
    have n1 := hn 43 (by decide)
    have n2 := hn 45 (by decide)
    have n3 := hn 42 (by decide)
    have n4 := hn 60 (by decide)
    have n5 := hn 61 (by decide)
    have n6 := hn 267 (by decide)
    have n7 := hn 266 (by decide)
    rw [if_neg n1, if_neg n2, if_neg n3, if_neg n4, if_neg n5, if_neg n6, if_neg n7]
    exact (sx_eqp_ok hd h.2).trans sx_ev_k
theorem sx_ob1_ok {t a b x : sx_E} (hd : sx_d P sx_TGm σ φ D) (h : sx_ob1 P D t a b x = true) : sx_ev σ x = tr_ob (sx_ev σ t) (sx_ev σ a) (sx_ev σ b) := by
  unfold sx_ob1 at h
  unfold tr_ob
  rw [Bool.or_eq_true, Bool.or_eq_true] at h
  rcases h with h | h | h
  · obtain ⟨c, hc, h⟩ := sx_any_ok h
    rw [Bool.and_eq_true] at h
    have et := (sx_eqp_ok hd h.1).trans sx_ev_k
    have ho := sx_op1_ok hd h.2
    rw [sx_ev_k] at ho
    unfold sx_kr at hc
    simp only [List.mem_cons, List.not_mem_nil, or_false] at hc
    rw [if_pos (by omega), et]
    exact ho
  · rw [Bool.and_eq_true] at h
    have et := (sx_eqp_ok hd h.1).trans sx_ev_k
    have ho := sx_op1_ok hd h.2
    rw [sx_ev_k] at ho
    rw [if_neg (by omega), if_pos et]
    exact ho
  · rw [Bool.and_eq_true, Bool.and_eq_true] at h
    have hn : ∀ c ∈ sx_kr, ¬ sx_ev σ t = c := fun c hc => by
      have := sx_nzb_ok hd (sx_ql_ok h.1.1 c hc)
      rw [sx_ev_pk] at this
      omega
    have n1 := hn 43 (by decide)
    have n2 := hn 45 (by decide)
    have n3 := hn 42 (by decide)
    have n4 := hn 60 (by decide)
    have n5 := hn 61 (by decide)
    have n6 := sx_nzb_ok hd h.1.2
    rw [sx_ev_pk] at n6
    have ho := sx_op1_ok hd h.2
    rw [sx_ev_k] at ho
    rw [if_neg (by omega), if_neg (by omega)]
    exact ho
theorem sx_un1_ok {neg : Bool} {y x : sx_E} (hd : sx_d P sx_TGm σ φ D) (h : sx_un1 P D neg y x = true) : sx_ev σ x = if neg = true then sx_fn 16 (sx_ev σ y) 0 else tr_no (sx_ev σ y) := by
  unfold sx_un1 at h
  cases neg with
  | true =>
    rw [if_pos rfl]
    have h : ((sx_eqp P D x (sx_ng y) && (sx_in32 P D (sx_ng y) && sx_in32 P D y)) || sx_any (sx_ug P D y x) D.2.2.2.2.1) = true := h
    rw [Bool.or_eq_true] at h
    rcases h with h | h
    · simp only [Bool.and_eq_true] at h
      have e1 := (sx_eqp_ok hd h.1).trans sx_ev_ng
      have e2 := sx_in32_ok hd h.2.1
      have e3 := sx_in32_ok hd h.2.2
      rw [sx_ev_ng] at e2
      rw [e1, tr_neg e3.1 e3.2 e2.2]
    · obtain ⟨g, h1, h2⟩ := sx_any_ok h
      have hg := hd.2.2.2.2 g h1
      unfold sx_ug at h2
      split at h2
      · next y' z x' =>
        simp only [Bool.and_eq_true] at h2
        obtain ⟨k1, k2, k3⟩ := h2
        have hg : sx_fn 16 (sx_ev σ y') (sx_ev σ z) = sx_ev σ x' := hg
        rw [sx_eqp_ok hd k1, sx_eq_eq k2, sx_ev_k, sx_eqp_ok hd k3] at hg
        exact hg.symm
      · cases h2
  | false =>
    rw [if_neg Bool.false_ne_true]
    have h : sx_cmp1 P D (sx_eqp P D y (sx_k 0)) (sx_nzb P D y) x = true := h
    exact sx_cmp1_ok hd (fun z => (sx_eqp_ok hd z).trans sx_ev_k) (fun z => sx_nzb_ok hd z) h
theorem sx_jo_ok {o : Nat} {t a b x : sx_E} (hd : sx_d P sx_TGm σ φ D) (ho : o = 1092 ∨ o = 1104) (h : sx_any (sx_jo P D o t a b x) D.2.2.2.2.1 = true) : sx_ev σ x = if o = 1092 then tr_op (sx_ev σ t) (sx_ev σ a) (sx_ev σ b) else tr_ob (sx_ev σ t) (sx_ev σ a) (sx_ev σ b) := by
  obtain ⟨g, h1, h2⟩ := sx_any_ok h
  have hg := hd.2.2.2.2 g h1
  unfold sx_jo at h2
  split at h2
  · next o' t' a' b' x' =>
    simp only [Bool.and_eq_true] at h2
    obtain ⟨k1, ⟨k2, k3⟩, k4, k5⟩ := h2
    rw [Nat.eq_of_beq_eq_true k1] at hg
    rcases ho with rfl | rfl
    · have hg := sx_n92.mp hg
      rw [sx_eqp_ok hd k2, sx_eqp_ok hd k3, sx_eqp_ok hd k4, sx_eqp_ok hd k5] at hg
      rw [if_pos rfl]
      exact hg
    · have hg := sx_n04.mp hg
      rw [sx_eqp_ok hd k2, sx_eqp_ok hd k3, sx_eqp_ok hd k4, sx_eqp_ok hd k5] at hg
      rw [if_neg (by omega)]
      exact hg
  · cases h2
/-- one number in place of the topmost n -/
theorem tr_pi_put {K K' : Nat → Int} {q x : Int} {u : Nat} {l : List Int} (hK : ∀ j, K' j = if j = q.toNat then x else K j) (h : tr_pi K u l) (hq : q = (u : Int)) : tr_pi K' (u + 1) (x :: l) :=
  ⟨u, rfl, by rw [hK, if_pos (by omega)], tr_pi_cg (fun i hi => by rw [hK, if_neg (by omega)]) h⟩
theorem sx_ba1_ok {K K' : Nat → Int} {u q u' x : sx_E} {n : Nat} {l : List Int} (hn : n = 1 ∨ n = 2) (hd : sx_d P sx_TGm σ φ D) (h0 : 0 ≤ sx_ev σ u) (hK : ∀ j, K' j = if j = (sx_ev σ q).toNat then sx_ev σ x else K j) (hp : tr_pi K (sx_ev σ u).toNat l) (h : sx_ba1 P D u q u' n = true) : 0 ≤ sx_ev σ u' ∧ tr_pi K' (sx_ev σ u').toNat (sx_ev σ x :: (if n = 1 then tr_tl l else tr_tl (tr_tl l))) := by
  have ht : ∀ {v : Nat} {l : List Int}, tr_pi K (v + 1) l → tr_pi K v (tr_tl l) := fun h => (tr_pi_hd h).2
  unfold sx_ba1 at h
  rw [Bool.or_eq_true] at h
  rcases h with h | h
  · simp only [Bool.and_eq_true] at h
    obtain ⟨k1, k2, k3⟩ := h
    have e1 := sx_ge_ok hd k1
    have e2 := (sx_eqp_ok hd k2).trans sx_ev_pk
    have e3 := (sx_eqp_ok hd k3).trans sx_ev_pk
    rw [sx_ev_pk] at e1
    refine ⟨by omega, ?_⟩
    rcases hn with rfl | rfl
    · rw [if_pos rfl, show (sx_ev σ u').toNat = ((sx_ev σ u).toNat - 1) + 1 by omega]
      refine tr_pi_put hK (ht ?_) (by omega)
      rw [show (sx_ev σ u).toNat - 1 + 1 = (sx_ev σ u).toNat by omega]
      exact hp
    · rw [if_neg (by omega), show (sx_ev σ u').toNat = ((sx_ev σ u).toNat - 2) + 1 by omega]
      refine tr_pi_put hK (ht (ht ?_)) (by omega)
      rw [show (sx_ev σ u).toNat - 2 + 1 + 1 = (sx_ev σ u).toNat by omega]
      exact hp
  · simp only [Bool.and_eq_true] at h
    obtain ⟨k1, k2, k3⟩ := h
    have e1 := sx_ge_ok hd k1
    have e2 := (sx_eqp_ok hd k2).trans sx_ev_k
    have e3 := (sx_eqp_ok hd k3).trans sx_ev_k
    rw [sx_ev_pk, sx_ev_ng] at e1
    refine ⟨by omega, ?_⟩
    have hnil : (if n = 1 then tr_tl l else tr_tl (tr_tl l)) = [] := by
      by_cases hu : sx_ev σ u = 0
      · rw [hu] at hp
        rw [(tr_pi_0 hp).2.2]
        split <;> rfl
      · rw [show (sx_ev σ u).toNat = 0 + 1 by omega] at hp
        have h2 := (tr_pi_0 (tr_pi_hd hp).2).2.2
        rw [if_neg (by omega), h2]
        rfl
    rw [hnil, e3]
    exact tr_pi_put (u := 0) hK rfl (by omega)
theorem sx_tp1_ok {k : Nat} {u y : sx_E} {l : List Int} (hd : sx_d P sx_TGm σ φ D) (h0 : 0 ≤ sx_ev σ u) (hp : tr_pi (φ k) (sx_ev σ u).toNat l) : (sx_tp1 P D k u 0 = some y → tr_hd l = sx_ev σ y) ∧ (sx_tp1 P D k u 1 = some y → tr_hd (tr_tl l) = sx_ev σ y) := by
  have hnil : ∀ {l : List Int}, tr_pi (φ k) 0 l → tr_hd l = 0 := fun h => (tr_pi_0 h).1
  refine ⟨fun h => ?_, fun h => ?_⟩
  · unfold sx_tp1 at h
    cases c1 : sx_ge P D (sx_pk u (-1 - ((0 : Nat) : Int))) with
    | true =>
      rw [c1] at h
      have h : sx_sel P D k (sx_pk u (-1 - ((0 : Nat) : Int))) = some y := h
      have e1 := sx_ge_ok hd c1
      have e2 := sx_sel_ok hd h
      rw [sx_ev_pk] at e1 e2
      rw [show (sx_ev σ u).toNat = ((sx_ev σ u).toNat - 1) + 1 by omega] at hp
      rw [(tr_pi_hd hp).1, ← e2]
      congr 1
      omega
    | false =>
      rw [c1] at h
      cases c2 : sx_ge P D (sx_pk (sx_ng u) ((0 : Nat) : Int)) with
      | true =>
        rw [c2] at h
        have h : some (sx_k 0) = some y := h
        cases h
        have e1 := sx_ge_ok hd c2
        rw [sx_ev_pk, sx_ev_ng] at e1
        rw [show (sx_ev σ u).toNat = 0 by omega] at hp
        rw [hnil hp, sx_ev_k]
      | false =>
        rw [c2] at h
        have h : none = some y := h
        cases h
  · unfold sx_tp1 at h
    cases c1 : sx_ge P D (sx_pk u (-1 - ((1 : Nat) : Int))) with
    | true =>
      rw [c1] at h
      have h : sx_sel P D k (sx_pk u (-1 - ((1 : Nat) : Int))) = some y := h
      have e1 := sx_ge_ok hd c1
      have e2 := sx_sel_ok hd h
      rw [sx_ev_pk] at e1 e2
      rw [show (sx_ev σ u).toNat = ((sx_ev σ u).toNat - 2) + 1 + 1 by omega] at hp
      rw [(tr_pi_hd (tr_pi_hd hp).2).1, ← e2]
      congr 1
      omega
    | false =>
      rw [c1] at h
      cases c2 : sx_ge P D (sx_pk (sx_ng u) ((1 : Nat) : Int)) with
      | true =>
        rw [c2] at h
        have h : some (sx_k 0) = some y := h
        cases h
        have e1 := sx_ge_ok hd c2
        rw [sx_ev_pk, sx_ev_ng] at e1
        rw [sx_ev_k]
        by_cases hu : sx_ev σ u = 0
        · rw [hu] at hp
          rw [(tr_pi_0 hp).2.2]
          rfl
        · rw [show (sx_ev σ u).toNat = 0 + 1 by omega] at hp
          exact hnil (tr_pi_hd hp).2
      | false =>
        rw [c2] at h
        have h : none = some y := h
        cases h
theorem sx_s91_ok {F k : Nat} {K' : Nat → Int} {c u q x u' : sx_E} {l : List Int} (hd : sx_d P sx_TGm σ φ D) (h0 : 0 ≤ sx_ev σ u) (hK : ∀ j, K' j = if j = (sx_ev σ q).toNat then sx_ev σ x else φ k j) (hp : tr_pi (φ k) (sx_ev σ u).toNat l) (h : sx_s91 P D F k c u q x u' = true) : 0 ≤ sx_ev σ u' ∧ tr_pi K' (sx_ev σ u').toNat (tr_ev1 (tr_nr (φ F)) (sx_ev σ c) l) := by
  have push : (sx_eqp P D q u && sx_eqp P D u' (sx_pk u 1)) = true → 0 ≤ sx_ev σ u' ∧ tr_pi K' (sx_ev σ u').toNat (sx_ev σ x :: l) := fun z => by
    rw [Bool.and_eq_true] at z
    have e1 := sx_eqp_ok hd z.1
    have e2 := (sx_eqp_ok hd z.2).trans sx_ev_pk
    refine ⟨by omega, ?_⟩
    rw [show (sx_ev σ u').toNat = (sx_ev σ u).toNat + 1 by omega]
    exact tr_pi_put hK hp (by omega)
  unfold sx_s91 at h
  unfold tr_ev1
  rw [Bool.or_eq_true, Bool.or_eq_true, Bool.or_eq_true, Bool.or_eq_true] at h
  rcases h with h | h | h | h | h
  · rw [Bool.and_eq_true, Bool.and_eq_true] at h
    have e1 := sx_ge_ok hd h.1
    have := push h.2.1
    rw [sx_eqp_ok hd h.2.2] at this
    rw [if_pos e1]
    exact this
  · rw [Bool.and_eq_true, Bool.and_eq_true, Bool.and_eq_true] at h
    obtain ⟨⟨h1, h2⟩, h3, h4⟩ := h
    have e1 := sx_ge_ok hd h1
    have e2 := sx_ge_ok hd h2
    rw [sx_ev_pk] at e1 e2
    rw [sx_ev_ng] at e2
    obtain ⟨y, y1, y2⟩ := sx_o_ok h4
    have ey := sx_sel_ok hd y1
    rw [sx_ev_pk, sx_ev_ng] at ey
    have := push h3
    rw [sx_eqp_ok hd y2, ← ey] at this
    rw [if_neg (by omega), if_pos ⟨by omega, by omega⟩]
    unfold tr_nr
    rw [show -257 - sx_ev σ c = -sx_ev σ c + -257 by omega]
    exact this
  · rw [Bool.and_eq_true, Bool.and_eq_true] at h
    have e1 := (sx_eqp_ok hd h.1).trans sx_ev_k
    obtain ⟨y, y1, y2⟩ := sx_o_ok h.2.2
    have ey := (sx_tp1_ok hd h0 hp).1 y1
    have eu := sx_un1_ok hd y2
    rw [if_pos rfl, ← ey] at eu
    have := sx_ba1_ok (Or.inl rfl) hd h0 hK hp h.2.1
    rw [if_pos rfl, eu] at this
    rw [if_neg (by omega), if_neg (by omega), if_pos e1]
    exact this
  · rw [Bool.and_eq_true, Bool.and_eq_true] at h
    have e1 := (sx_eqp_ok hd h.1).trans sx_ev_k
    obtain ⟨y, y1, y2⟩ := sx_o_ok h.2.2
    have ey := (sx_tp1_ok hd h0 hp).1 y1
    have eu := sx_un1_ok hd y2
    rw [if_neg Bool.false_ne_true, ← ey] at eu
    have := sx_ba1_ok (Or.inl rfl) hd h0 hK hp h.2.1
    rw [if_pos rfl, eu] at this
    rw [if_neg (by omega), if_neg (by omega), if_neg (by omega), if_pos e1]
    exact this
  · rw [Bool.and_eq_true, Bool.and_eq_true, Bool.and_eq_true, Bool.and_eq_true, Bool.and_eq_true, Bool.or_eq_true] at h
    obtain ⟨⟨⟨h1, h2⟩, ⟨h3, h4⟩, h5⟩, h6⟩ := h
    have e1 := sx_ge_ok hd h1
    have e3 := sx_nzb_ok hd h3
    have e4 := sx_nzb_ok hd h4
    rw [sx_ev_pk] at e1 e3 e4
    rw [sx_ev_ng] at e1
    have e2 : -256 ≤ sx_ev σ c ∨ sx_ev σ c ≤ -263 := by
      rcases h2 with h2 | h2
      · have := sx_ge_ok hd h2
        rw [sx_ev_pk] at this
        omega
      · have := sx_ge_ok hd h2
        rw [sx_ev_pk, sx_ev_ng] at this
        omega
    obtain ⟨b, b1, h6⟩ := sx_o_ok h6
    obtain ⟨a, a1, h6⟩ := sx_o_ok h6
    have eb := (sx_tp1_ok hd h0 hp).1 b1
    have ea := (sx_tp1_ok hd h0 hp).2 a1
    have eo := sx_jo_ok hd (Or.inl rfl) h6
    rw [if_pos rfl, sx_ev_pk, sx_ev_ng, ← ea, ← eb, show -sx_ev σ c + -1 = -1 - sx_ev σ c by omega] at eo
    have := sx_ba1_ok (Or.inr rfl) hd h0 hK hp h5
    rw [if_neg (by omega), eo] at this
    rw [if_neg (by omega), if_neg (by omega), if_neg (by omega), if_neg (by omega)]
    exact this
theorem sx_h91_ok {C F K : Nat} {s i u : sx_E} {g : sx_F} (hd : sx_d P sx_TGm σ φ D) (hg : sx_fk sx_TGm σ φ g) (h : sx_h91 P D C F K s i u g = true) : sx_fk sx_TGm σ φ (1091, [C, F, K], [s, i, u]) := by
  rw [sx_n91]
  unfold sx_h91 at h
  split at h
  · next C' F' K0 s' i' u' =>
    rw [Bool.and_eq_true, Bool.and_eq_true, Bool.and_eq_true, Bool.or_eq_true] at h
    obtain ⟨⟨⟨k1, k2⟩, k3⟩, h⟩ := h
    have hg := sx_n91.mp hg
    rw [Nat.eq_of_beq_eq_true k1, Nat.eq_of_beq_eq_true k2, sx_eqp_ok hd k3] at hg
    rcases h with h | h
    · simp only [Bool.and_eq_true] at h
      rw [Nat.eq_of_beq_eq_true h.1, sx_eqp_ok hd h.2.1, sx_eqp_ok hd h.2.2] at hg
      exact hg
    · rw [Bool.and_eq_true, Bool.and_eq_true, Bool.and_eq_true] at h
      obtain ⟨⟨k4, k5, k6⟩, h⟩ := h
      have e4 := (sx_eqp_ok hd k4).trans sx_ev_pk
      split at h
      · next c z hc hz =>
        rw [Bool.and_eq_true] at h
        have hk := Nat.eq_of_beq_eq_true h.1
        obtain ⟨g1, g2, g3, g4⟩ := hg
        have hK := sx_fru_ok hd hz
        rw [hk] at hK
        have hs := sx_s91_ok hd g3 hK g4 h.2
        refine ⟨g1, by omega, hs.1, ?_⟩
        rw [show (sx_ev σ i - sx_ev σ s).toNat = (sx_ev σ i' - sx_ev σ s).toNat + 1 by omega, tr_rf_snoc]
        unfold tr_stC
        rw [show (sx_ev σ s).toNat + (sx_ev σ i' - sx_ev σ s).toNat = (sx_ev σ i').toNat by omega, sx_sel_ok hd hc]
        exact hs.2
      · cases h
  · cases h
theorem sx_h93_ok {C F : Nat} {s e x : sx_E} {g : sx_F} (hd : sx_d P sx_TGm σ φ D) (hg : sx_fk sx_TGm σ φ g) (h : sx_h93 P D C F s e x g = true) : sx_fk sx_TGm σ φ (1093, [C, F], [s, e, x]) := by
  rw [sx_n93]
  unfold sx_h93 at h
  split at h
  · next C' F' s' e' x' =>
    simp only [Bool.and_eq_true] at h
    obtain ⟨⟨k1, k2⟩, k3, k4, k5⟩ := h
    have hg := sx_n93.mp hg
    rw [Nat.eq_of_beq_eq_true k1, Nat.eq_of_beq_eq_true k2, sx_eqp_ok hd k3, sx_eqp_ok hd k4, sx_eqp_ok hd k5] at hg
    exact hg
  · next C' F' K s' e' u =>
    simp only [Bool.and_eq_true, Bool.or_eq_true] at h
    obtain ⟨⟨⟨k1, k2⟩, k3, k4⟩, h⟩ := h
    have hg := sx_n91.mp hg
    rw [Nat.eq_of_beq_eq_true k1, Nat.eq_of_beq_eq_true k2, sx_eqp_ok hd k3, sx_eqp_ok hd k4] at hg
    obtain ⟨g1, g2, g3, g4⟩ := hg
    refine ⟨g1, g2, ?_⟩
    rcases h with ⟨h1, h2⟩ | ⟨⟨h1, h2⟩, h3⟩
    · have e1 := sx_ge_ok hd h1
      rw [sx_ev_pk] at e1
      obtain ⟨y, y1, y2⟩ := sx_o_ok h2
      have ey := sx_sel_ok hd y1
      rw [sx_ev_pk] at ey
      rw [show (sx_ev σ u).toNat = ((sx_ev σ u).toNat - 1) + 1 by omega] at g4
      rw [(tr_pi_hd g4).1, sx_eqp_ok hd y2, ← ey]
      congr 1
      omega
    · have e2 := sx_ge_ok hd h2
      rw [sx_ev_ng] at e2
      rw [show (sx_ev σ u).toNat = 0 by omega] at g4
      rw [(tr_pi_0 g4).1]
      exact (sx_eqp_ok hd h3).trans sx_ev_k
  · cases h
theorem sx_h95_ok {C ST EN F : Nat} {t p x : sx_E} (hd : sx_d P sx_TGm σ φ D) (h : sx_h95 P D C ST EN F t p x = true) : sx_fk sx_TGm σ φ (1095, [C, ST, EN, F], [t, p, x]) := by
  rw [sx_n95]
  unfold sx_h95 at h
  split at h
  · next s e hs he =>
    obtain ⟨g, h1, h2⟩ := sx_any_ok h
    have hg := hd.2.2.2.2 g h1
    unfold sx_q95 at h2
    split at h2
    · next C' F' s' e' x' =>
      simp only [Bool.and_eq_true] at h2
      obtain ⟨⟨k1, k2⟩, k3, k4, k5⟩ := h2
      have hg := sx_n93.mp hg
      rw [Nat.eq_of_beq_eq_true k1, Nat.eq_of_beq_eq_true k2, sx_eqp_ok hd k3, sx_eqp_ok hd k4, sx_eqp_ok hd k5] at hg
      have e1 := sx_sel_ok hd hs
      have e2 := sx_sel_ok hd he
      rw [sx_ev_ad, sx_ev_sc] at e1 e2
      rw [e1, e2]
      exact hg.2.2
    · cases h2
  · cases h
theorem sx_s01_ok {A W F k0 : Nat} {K' : Nat → Int} {k n q x n' : sx_E} {l : List Int} (hd : sx_d P sx_TGm σ φ D) (h0 : 0 ≤ sx_ev σ n) (hK : ∀ j, K' j = if j = (sx_ev σ q).toNat then sx_ev σ x else φ k0 j) (hp : tr_pi (φ k0) (sx_ev σ n).toNat l) (h : sx_s01 P D A W F k0 k n q x n' = true) : 0 ≤ sx_ev σ n' ∧ tr_pi K' (sx_ev σ n').toNat (tr_ev2 (tr_nr (φ F)) (φ A (sx_ev σ k).toNat) (φ W (sx_ev σ k).toNat) l) := by
  have push : (sx_eqp P D q n && sx_eqp P D n' (sx_pk n 1)) = true → 0 ≤ sx_ev σ n' ∧ tr_pi K' (sx_ev σ n').toNat (sx_ev σ x :: l) := fun z => by
    rw [Bool.and_eq_true] at z
    have e1 := sx_eqp_ok hd z.1
    have e2 := (sx_eqp_ok hd z.2).trans sx_ev_pk
    refine ⟨by omega, ?_⟩
    rw [show (sx_ev σ n').toNat = (sx_ev σ n).toNat + 1 by omega]
    exact tr_pi_put hK hp (by omega)
  unfold sx_s01 at h
  obtain ⟨a, a1, h⟩ := sx_o_ok h
  rw [sx_sel_ok hd a1]
  unfold tr_ev2
  rw [Bool.or_eq_true, Bool.or_eq_true, Bool.or_eq_true] at h
  rcases h with h | h | h | h
  · rw [Bool.and_eq_true, Bool.and_eq_true] at h
    have e1 := (sx_eqp_ok hd h.1).trans sx_ev_k
    obtain ⟨w, w1, w2⟩ := sx_o_ok h.2.2
    have := push h.2.1
    rw [sx_eqp_ok hd w2, ← sx_sel_ok hd w1] at this
    rw [if_pos e1]
    exact this
  · rw [Bool.and_eq_true, Bool.and_eq_true] at h
    have e1 := (sx_eqp_ok hd h.1).trans sx_ev_k
    obtain ⟨w, w1, h2⟩ := sx_o_ok h.2.2
    obtain ⟨y, y1, y2⟩ := sx_o_ok h2
    have := push h.2.1
    rw [sx_eqp_ok hd y2, ← sx_sel_ok hd y1, ← sx_sel_ok hd w1] at this
    rw [if_neg (by omega), if_pos e1]
    exact this
  · rw [Bool.and_eq_true, Bool.and_eq_true, Bool.and_eq_true] at h
    obtain ⟨⟨h1, h2, h3⟩, h⟩ := h
    have e1 := sx_ge_ok hd h1
    have e2 := (sx_eqp_ok hd h2).trans sx_ev_pk
    have e3 := sx_eqp_ok hd h3
    rw [sx_ev_pk] at e1
    obtain ⟨y, y1, h⟩ := sx_o_ok h
    have ey := sx_sel_ok hd y1
    rw [sx_ev_pk] at ey
    rw [show (sx_ev σ n).toNat = ((sx_ev σ n).toNat - 1) + 1 by omega] at hp
    obtain ⟨p1, p2⟩ := tr_pi_hd hp
    rw [show (sx_ev σ n).toNat - 1 = (sx_ev σ n + -1).toNat by omega, ey] at p1
    have hput : tr_pi K' (sx_ev σ n').toNat (sx_ev σ x :: tr_tl l) := by
      rw [show (sx_ev σ n').toNat = ((sx_ev σ n).toNat - 1) + 1 by omega]
      exact tr_pi_put hK p2 (by omega)
    rw [Bool.or_eq_true, Bool.and_eq_true, Bool.and_eq_true] at h
    rcases h with ⟨m1, m2⟩ | ⟨m1, m2⟩
    · have ea := (sx_eqp_ok hd m1).trans sx_ev_k
      have eu := sx_un1_ok hd m2
      rw [if_pos rfl, ← p1] at eu
      rw [eu] at hput
      rw [if_neg (by omega), if_neg (by omega), if_pos ea]
      exact ⟨by omega, hput⟩
    · have ea := (sx_eqp_ok hd m1).trans sx_ev_k
      have eu := sx_un1_ok hd m2
      rw [if_neg Bool.false_ne_true, ← p1] at eu
      rw [eu] at hput
      rw [if_neg (by omega), if_neg (by omega), if_neg (by omega), if_pos ea]
      exact ⟨by omega, hput⟩
  · simp only [Bool.and_eq_true] at h
    obtain ⟨⟨⟨⟨c1, c2⟩, c3, c4⟩, h1, h2, h3⟩, h⟩ := h
    have d1 := sx_nzb_ok hd c1
    have d2 := sx_nzb_ok hd c2
    have d3 := sx_nzb_ok hd c3
    have d4 := sx_nzb_ok hd c4
    rw [sx_ev_pk] at d1 d2 d3 d4
    have e1 := sx_ge_ok hd h1
    have e2 := (sx_eqp_ok hd h2).trans sx_ev_pk
    have e3 := (sx_eqp_ok hd h3).trans sx_ev_pk
    rw [sx_ev_pk] at e1
    obtain ⟨y, y1, h⟩ := sx_o_ok h
    obtain ⟨z, z1, h⟩ := sx_o_ok h
    have ey := sx_sel_ok hd y1
    have ez := sx_sel_ok hd z1
    rw [sx_ev_pk] at ey ez
    rw [show (sx_ev σ n).toNat = ((sx_ev σ n).toNat - 2) + 1 + 1 by omega] at hp
    obtain ⟨p1, p2⟩ := tr_pi_hd hp
    obtain ⟨p3, p4⟩ := tr_pi_hd p2
    rw [show (sx_ev σ n).toNat - 2 + 1 = (sx_ev σ n + -1).toNat by omega, ez] at p1
    rw [show (sx_ev σ n).toNat - 2 = (sx_ev σ n + -2).toNat by omega, ey] at p3
    have hput : tr_pi K' (sx_ev σ n').toNat (sx_ev σ x :: tr_tl (tr_tl l)) := by
      rw [show (sx_ev σ n').toNat = ((sx_ev σ n).toNat - 2) + 1 by omega]
      exact tr_pi_put hK p4 (by omega)
    have eo := sx_jo_ok hd (Or.inr rfl) h
    rw [if_neg (by omega), ← p1, ← p3] at eo
    rw [eo] at hput
    rw [if_neg (by omega), if_neg (by omega), if_neg (by omega), if_neg (by omega)]
    exact ⟨by omega, hput⟩
theorem sx_i01_ok {A W PE F K : Nat} {t p k n : sx_E} (hd : sx_d P sx_TGm σ φ D) (h : sx_i01 P D PE t p k n = true) : sx_fk sx_TGm σ φ (1101, [A, W, PE, F, K], [t, p, k, n]) := by
  rw [sx_n01]
  unfold sx_i01 at h
  rw [Bool.and_eq_true, Bool.and_eq_true, Bool.and_eq_true, Bool.and_eq_true, Bool.and_eq_true] at h
  obtain ⟨⟨⟨h1, h2⟩, h3, h4⟩, h5, h6⟩ := h
  have e1 := (sx_eqp_ok hd h1).trans sx_ev_k
  have e2 := sx_ge_ok hd h2
  have e3 := sx_ge_ok hd h3
  have e4 := sx_ge_ok hd h4
  rw [sx_ev_pk] at e3 e4
  rw [sx_ev_ng] at e4
  obtain ⟨lo, l1, l2⟩ := sx_o_ok h5
  have el := sx_sel_ok hd l1
  rw [sx_ev_pk, sx_ev_ad, sx_ev_sc] at el
  have ek := sx_eqp_ok hd l2
  rw [sx_ev_ad, sx_ev_sc] at ek
  obtain ⟨g, g1, g2⟩ := sx_any_ok h6
  have hg := hd.2.2.2.2 g g1
  unfold sx_q01 at g2
  split at g2
  · next PE' S =>
    rw [Bool.and_eq_true] at g2
    have hg := sx_n02.mp hg
    rw [Nat.eq_of_beq_eq_true g2.1] at hg
    have e5 := sx_ge_ok hd g2.2
    rw [sx_ev_pk, sx_ev_sb] at e5
    obtain ⟨b1, b2⟩ := hg (sx_ev σ t).toNat (sx_ev σ p).toNat (by omega) (by omega) (by omega)
    have elo : tr_lo (φ PE) (sx_ev σ t).toNat (sx_ev σ p).toNat = sx_ev σ lo := by
      unfold tr_lo
      rw [if_neg (by omega), ← el]
      congr 1
      omega
    rw [show 4 * (sx_ev σ t).toNat + (sx_ev σ p).toNat - 1 = (4 * sx_ev σ t + sx_ev σ p + -1).toNat by omega, el] at b1 b2
    rw [show 4 * (sx_ev σ t).toNat + (sx_ev σ p).toNat = (4 * sx_ev σ t + sx_ev σ p).toNat by omega] at b2
    rw [elo, ek, e1, show (170 * sx_ev σ t + sx_ev σ lo - (170 * sx_ev σ t + sx_ev σ lo)).toNat = 0 by omega]
    exact ⟨e2, by omega, Int.le_refl _, b1, Int.le_refl _, by omega, rfl⟩
  · cases g2
theorem sx_h01_ok {A W PE F K : Nat} {t p k n : sx_E} {g : sx_F} (hd : sx_d P sx_TGm σ φ D) (hg : sx_fk sx_TGm σ φ g) (h : sx_h01 P D A W PE F K t p k n g = true) : sx_fk sx_TGm σ φ (1101, [A, W, PE, F, K], [t, p, k, n]) := by
  rw [sx_n01]
  unfold sx_h01 at h
  split at h
  · next A' W' PE' F' K0 t' p' k' n' =>
    rw [Bool.and_eq_true, Bool.and_eq_true, Bool.and_eq_true, Bool.or_eq_true] at h
    obtain ⟨⟨m1, m2, m3⟩, h⟩ := h
    have m1 := sx_eN_eq m1
    simp only [List.cons.injEq, and_true] at m1
    obtain ⟨rfl, rfl, rfl, rfl⟩ := m1
    have hg := sx_n01.mp hg
    rw [sx_eqp_ok hd m2, sx_eqp_ok hd m3] at hg
    rcases h with h | h
    · simp only [Bool.and_eq_true] at h
      rw [Nat.eq_of_beq_eq_true h.1, sx_eqp_ok hd h.2.1, sx_eqp_ok hd h.2.2] at hg
      exact hg
    · rw [Bool.and_eq_true, Bool.and_eq_true, Bool.and_eq_true, Bool.and_eq_true] at h
      obtain ⟨⟨k4, k5, k6⟩, k7, h⟩ := h
      have e4 := (sx_eqp_ok hd k4).trans sx_ev_pk
      obtain ⟨hi, i1, i2⟩ := sx_o_ok k7
      have ei := sx_sel_ok hd i1
      rw [sx_ev_ad, sx_ev_sc] at ei
      have e7 := sx_ge_ok hd i2
      rw [sx_ev_pk, sx_ev_sb, sx_ev_ad, sx_ev_sc] at e7
      split at h
      · next z hz =>
        rw [Bool.and_eq_true] at h
        have hk := Nat.eq_of_beq_eq_true h.1
        obtain ⟨g1, g2, g3, g4, g5, g6, g7⟩ := hg
        have hK := sx_fru_ok hd hz
        rw [hk] at hK
        have hs := sx_s01_ok hd g3 hK g7 h.2
        refine ⟨g1, g2, hs.1, g4, by omega, by rw [ei]; omega, ?_⟩
        rw [show (sx_ev σ k - (170 * sx_ev σ t + tr_lo (φ PE') (sx_ev σ t).toNat (sx_ev σ p).toNat)).toNat = (sx_ev σ k' - (170 * sx_ev σ t + tr_lo (φ PE') (sx_ev σ t).toNat (sx_ev σ p).toNat)).toNat + 1 by omega, tr_rf_snoc]
        unfold tr_stR
        rw [show (170 * sx_ev σ t + tr_lo (φ PE') (sx_ev σ t).toNat (sx_ev σ p).toNat).toNat + (sx_ev σ k' - (170 * sx_ev σ t + tr_lo (φ PE') (sx_ev σ t).toNat (sx_ev σ p).toNat)).toNat = (sx_ev σ k').toNat by omega]
        exact hs.2
      · cases h
  · cases h
theorem sx_h96_ok {A W PE F : Nat} {t p x : sx_E} {g : sx_F} (hd : sx_d P sx_TGm σ φ D) (hg : sx_fk sx_TGm σ φ g) (h : sx_h96 P D A W PE F t p x g = true) : sx_fk sx_TGm σ φ (1096, [A, W, PE, F], [t, p, x]) := by
  rw [sx_n96]
  unfold sx_h96 at h
  split at h
  · next A' W' PE' F' t' p' x' =>
    simp only [Bool.and_eq_true] at h
    obtain ⟨m1, m2, m3, m4⟩ := h
    have m1 := sx_eN_eq m1
    simp only [List.cons.injEq, and_true] at m1
    obtain ⟨rfl, rfl, rfl, rfl⟩ := m1
    have hg := sx_n96.mp hg
    rw [sx_eqp_ok hd m2, sx_eqp_ok hd m3, sx_eqp_ok hd m4] at hg
    exact hg
  · next A' W' PE' F' K t' p' k n =>
    simp only [Bool.and_eq_true] at h
    obtain ⟨⟨m1, m2, m3⟩, h1, h2⟩ := h
    have m1 := sx_eN_eq m1
    simp only [List.cons.injEq, and_true] at m1
    obtain ⟨rfl, rfl, rfl, rfl⟩ := m1
    have hg := sx_n01.mp hg
    rw [sx_eqp_ok hd m2, sx_eqp_ok hd m3] at hg
    obtain ⟨g1, g2, g3, g4, g5, g6, g7⟩ := hg
    refine ⟨g1, g2, fun hl => ?_⟩
    obtain ⟨hi, i1, i2⟩ := sx_o_ok h1
    have ei := sx_sel_ok hd i1
    rw [sx_ev_ad, sx_ev_sc] at ei
    have e7 := sx_ge_ok hd i2
    rw [sx_ev_sb, sx_ev_ad, sx_ev_sc] at e7
    obtain ⟨y, y1, y2⟩ := sx_o_ok h2
    have ey := sx_sel_ok hd y1
    rw [sx_ev_k] at ey
    have ey : φ K 0 = sx_ev σ y := ey
    have e8 : tr_rf (tr_stR (φ F') (φ A') (φ W')) (170 * sx_ev σ t + tr_lo (φ PE') (sx_ev σ t).toNat (sx_ev σ p).toNat).toNat (sx_ev σ k - (170 * sx_ev σ t + tr_lo (φ PE') (sx_ev σ t).toNat (sx_ev σ p).toNat)).toNat [] = tr_sy (φ F') (φ A') (φ W') (φ PE') (sx_ev σ t).toNat (sx_ev σ p).toNat := by
      unfold tr_sy
      rw [show 4 * (sx_ev σ t).toNat + (sx_ev σ p).toNat = (4 * sx_ev σ t + sx_ev σ p).toNat by omega, show 170 * (sx_ev σ t).toNat + (tr_lo (φ PE') (sx_ev σ t).toNat (sx_ev σ p).toNat).toNat = (170 * sx_ev σ t + tr_lo (φ PE') (sx_ev σ t).toNat (sx_ev σ p).toNat).toNat by omega, show (sx_ev σ k - (170 * sx_ev σ t + tr_lo (φ PE') (sx_ev σ t).toNat (sx_ev σ p).toNat)).toNat = (φ PE' (4 * sx_ev σ t + sx_ev σ p).toNat - tr_lo (φ PE') (sx_ev σ t).toNat (sx_ev σ p).toNat).toNat by omega]
    rw [e8] at g7
    have hn := tr_pi_len g7
    rw [hn, hl] at g7
    rw [(tr_pi_hd (u := 0) g7).1, ey]
    exact sx_eqp_ok hd y2
  · cases h
theorem sx_h07_ok {A : Nat} {c o n : sx_E} {g : sx_F} (hd : sx_d P sx_TGm σ φ D) (hg : sx_fk sx_TGm σ φ g) (h : sx_h07 P D A c o n g = true) : sx_fk sx_TGm σ φ (1107, [A], [c, o, n]) := by
  rw [sx_n07]
  unfold sx_h07 at h
  split at h
  · next A' c' o' n' =>
    rw [Bool.and_eq_true, Bool.and_eq_true, Bool.or_eq_true] at h
    obtain ⟨⟨k1, k2⟩, h⟩ := h
    have hg := sx_n07.mp hg
    rw [Nat.eq_of_beq_eq_true k1, sx_eqp_ok hd k2] at hg
    rcases h with h | h
    · rw [Bool.and_eq_true] at h
      rw [sx_eqp_ok hd h.1, sx_eqp_ok hd h.2] at hg
      exact hg
    · rw [Bool.and_eq_true, Bool.and_eq_true] at h
      have e1 := (sx_eqp_ok hd h.1.1).trans sx_ev_pk
      have e2 := sx_ge_ok hd h.1.2
      obtain ⟨x, x1, h2⟩ := sx_o_ok h.2
      obtain ⟨y, y1, h2⟩ := sx_o_ok h2
      obtain ⟨g1, g2, g3⟩ := hg
      refine ⟨g1, by omega, ?_⟩
      rw [show (sx_ev σ o).toNat = (sx_ev σ o').toNat + 1 by omega]
      show _ = tr_ct (φ A) (φ A (sx_ev σ c).toNat) (sx_ev σ o').toNat + (if φ A (sx_ev σ o').toNat = φ A (sx_ev σ c).toNat then 1 else 0)
      rw [← g3, sx_sel_ok hd x1, sx_sel_ok hd y1]
      rw [Bool.or_eq_true, Bool.and_eq_true, Bool.and_eq_true] at h2
      rcases h2 with ⟨m1, m2⟩ | ⟨m1, m2⟩
      · rw [if_pos (sx_eqp_ok hd m1)]
        exact (sx_eqp_ok hd m2).trans sx_ev_pk
      · have hne := sx_nzb_ok hd m1
        rw [sx_ev_sb] at hne
        rw [if_neg (by omega), sx_eqp_ok hd m2]
        omega
  · cases h
theorem sx_ch_ok (hd : sx_d P sx_TGm σ φ D) : ∀ {l : List (Int × sx_E)} {b c : Nat}, sx_ch P D l b = some c → ∀ j : Nat, (∀ p ∈ l, ¬ j = p.1.toNat) → φ b j = φ c j
  | [], b, c, h, j, _ => by
    have h : some b = some c := h
    cases h
    rfl
  | p :: l, b, c, h, j, hj => by
    unfold sx_ch at h
    split at h
    · next x hx =>
      cases c1 : (sx_eqp P D x.2.1 (sx_k p.1) && sx_eqp P D x.2.2 p.2) with
      | false =>
        rw [c1] at h
        have h : none = some c := h
        cases h
      | true =>
        rw [c1] at h
        have h : sx_ch P D l x.1 = some c := h
        rw [Bool.and_eq_true] at c1
        have e1 := (sx_eqp_ok hd c1.1).trans sx_ev_k
        have n1 := hj p List.mem_cons_self
        rw [sx_fru_ok hd hx j, e1, if_neg n1]
        exact sx_ch_ok hd h j (fun q hq => hj q (List.mem_cons_of_mem _ hq))
    · cases h
theorem sx_ch_1 {p : Int × sx_E} {l : List (Int × sx_E)} {b c : Nat} (hd : sx_d P sx_TGm σ φ D) (h : sx_ch P D (p :: l) b = some c) : ∃ a, (∀ j : Nat, φ b j = if j = p.1.toNat then sx_ev σ p.2 else φ a j) ∧ sx_ch P D l a = some c := by
  unfold sx_ch at h
  split at h
  · next x hx =>
    cases c1 : (sx_eqp P D x.2.1 (sx_k p.1) && sx_eqp P D x.2.2 p.2) with
    | false =>
      rw [c1] at h
      have h : none = some c := h
      cases h
    | true =>
      rw [c1] at h
      rw [Bool.and_eq_true] at c1
      refine ⟨x.1, fun j => ?_, h⟩
      rw [sx_fru_ok hd hx j, (sx_eqp_ok hd c1.1).trans sx_ev_k, sx_eqp_ok hd c1.2]
  · cases h
theorem sx_clp_ok {x y : sx_E} (hd : sx_d P sx_TGm σ φ D) (h : sx_clp P D x y = true) : sx_ev σ y = tr_cl (sx_ev σ x) := by
  unfold sx_clp at h
  unfold tr_cl
  rw [Bool.or_eq_true, Bool.or_eq_true] at h
  rcases h with h | h | h
  · simp only [Bool.and_eq_true] at h
    have h1 := sx_ge_ok hd h.1.1
    have h2 := sx_ge_ok hd h.1.2
    rw [sx_ev_pk, sx_ev_ng] at h2
    rw [if_neg (by omega), if_neg (by omega)]
    exact sx_eqp_ok hd h.2
  · rw [Bool.and_eq_true] at h
    have h1 := sx_ge_ok hd h.1
    rw [sx_ev_ng] at h1
    have h2 := (sx_eqp_ok hd h.2).trans sx_ev_k
    split
    · exact h2
    · rw [if_neg (by omega)]
      omega
  · rw [Bool.and_eq_true] at h
    have h1 := sx_ge_ok hd h.1
    rw [sx_ev_pk] at h1
    have h2 := (sx_eqp_ok hd h.2).trans sx_ev_k
    rw [if_neg (by omega)]
    split
    · exact h2
    · omega
theorem sx_h05_ok {CP CG CK DY RT RF A W PE : Nat} {m c x : sx_E} (hd : sx_d P sx_TGm σ φ D) (h : sx_h05 P D CP CG CK DY RT RF A W PE m c x = true) : sx_fk sx_TGm σ φ (1105, [CP, CG, CK, DY, RT, RF, A, W, PE], [m, c, x]) := by
  rw [sx_n05]
  unfold sx_h05 at h
  rw [Bool.and_eq_true] at h
  have ec := sx_ge_ok hd h.1
  obtain ⟨gm, gm1, h⟩ := sx_o_ok h.2
  obtain ⟨kd, kd1, h⟩ := sx_o_ok h
  obtain ⟨dy, dy1, h⟩ := sx_o_ok h
  obtain ⟨n, n1, h⟩ := sx_any_ok h
  obtain ⟨t, t1, h⟩ := sx_any_ok h
  obtain ⟨f, f1, h⟩ := sx_any_ok h
  have egm := sx_sel_ok hd gm1
  have ekd := sx_sel_ok hd kd1
  have edy := sx_sel_ok hd dy1
  obtain ⟨g7, q1, q2⟩ := tr_fm_ok n1
  have hg7 := hd.2.2.2.2 g7 q1
  obtain ⟨g8, q3, q4⟩ := tr_fm_ok t1
  have hg8 := hd.2.2.2.2 g8 q3
  have hf := hd.2.2.2.2 f f1
  have en : sx_ev σ n = tr_ct (φ CP) (φ CP (sx_ev σ c).toNat) ((sx_ev σ c).toNat + 1) := by
    unfold sx_cd7 at q2
    split at q2
    · next A' c' o n' =>
      cases c1 : (Nat.beq A' CP && (sx_eqp P D c' c && sx_eqp P D o (sx_pk c 1))) with
      | false =>
        rw [c1] at q2
        have q2 : none = some n := q2
        cases q2
      | true =>
        rw [c1] at q2
        have q2 : some n' = some n := q2
        cases q2
        simp only [Bool.and_eq_true] at c1
        have hg7 := sx_n07.mp hg7
        rw [Nat.eq_of_beq_eq_true c1.1, sx_eqp_ok hd c1.2.1, (sx_eqp_ok hd c1.2.2).trans sx_ev_pk] at hg7
        rw [hg7.2.2, show (sx_ev σ c + 1).toNat = (sx_ev σ c).toNat + 1 by omega]
    · cases q2
  have et : sx_ev σ t = tr_at (φ RT) 0 (tr_bt (φ RF) (sx_ev σ dy) (sx_ev σ m).toNat) := by
    unfold sx_cd8 at q4
    split at q4
    · next RT' RF' m' d' t' =>
      cases c1 : ((Nat.beq RT' RT && Nat.beq RF' RF) && (sx_eqp P D m' m && sx_eqp P D d' dy)) with
      | false =>
        rw [c1] at q4
        have q4 : none = some t := q4
        cases q4
      | true =>
        rw [c1] at q4
        have q4 : some t' = some t := q4
        cases q4
        simp only [Bool.and_eq_true] at c1
        have hg8 := sx_n18.mp hg8
        rw [Nat.eq_of_beq_eq_true c1.1.1, Nat.eq_of_beq_eq_true c1.1.2, sx_eqp_ok hd c1.2.1, sx_eqp_ok hd c1.2.2] at hg8
        exact hg8
    · cases q4
  unfold sx_q05 at h
  split at h
  · next A' W' PE' F t' p y =>
    simp only [Bool.and_eq_true] at h
    obtain ⟨⟨z1, z2, z3⟩, z4, z5⟩ := h
    have z1 := sx_eN_eq z1
    simp only [List.cons.injEq, and_true] at z1
    obtain ⟨rfl, rfl, rfl⟩ := z1
    obtain ⟨b, hb⟩ := Option.isSome_iff_exists.mp z4
    have hf := sx_n96.mp hf
    rw [sx_eqp_ok hd z2, (sx_eqp_ok hd z3).trans sx_ev_k, et] at hf
    have hF : φ F = tr_nf (φ b) (sx_ev σ n) (sx_ev σ kd) := by
      obtain ⟨b5, a5, hb⟩ := sx_ch_1 hd hb
      obtain ⟨b4, a4, hb⟩ := sx_ch_1 hd hb
      obtain ⟨b3, a3, hb⟩ := sx_ch_1 hd hb
      obtain ⟨b2, a2, hb⟩ := sx_ch_1 hd hb
      obtain ⟨b1, a1, hb⟩ := sx_ch_1 hd hb
      obtain ⟨b0, a0, hb⟩ := sx_ch_1 hd hb
      have hb : some b0 = some b := hb
      cases hb
      funext j
      have a5 := a5 j
      have a4 := a4 j
      have a3 := a3 j
      have a2 := a2 j
      have a1 := a1 j
      have a0 := a0 j
      rw [sx_ev_k] at a5 a2 a1 a0
      have a5 : φ F j = if j = 5 then 0 else φ b5 j := a5
      have a4 : φ b5 j = if j = 4 then sx_ev σ kd else φ b4 j := a4
      have a3 : φ b4 j = if j = 3 then sx_ev σ n else φ b3 j := a3
      have a2 : φ b3 j = if j = 2 then 0 else φ b2 j := a2
      have a1 : φ b2 j = if j = 1 then 0 else φ b1 j := a1
      have a0 : φ b1 j = if j = 0 then 0 else φ b j := a0
      rw [a5, a4, a3, a2, a1, a0]
      unfold tr_nf
      by_cases j5 : j = 5
      · rw [if_pos j5, if_pos j5]
      · rw [if_neg j5, if_neg j5]
        by_cases j4 : j = 4
        · rw [if_pos j4, if_pos j4]
        · rw [if_neg j4, if_neg j4]
          by_cases j3 : j = 3
          · rw [if_pos j3, if_pos j3]
          · rw [if_neg j3, if_neg j3]
            by_cases jl : j < 3
            · rw [if_pos jl]
              by_cases j2 : j = 2
              · rw [if_pos j2]
              · rw [if_neg j2]
                by_cases j1 : j = 1
                · rw [if_pos j1]
                · rw [if_neg j1, if_pos (by omega)]
            · rw [if_neg jl, if_neg (by omega), if_neg (by omega), if_neg (by omega)]
    refine ⟨ec, φ b, fun hl => ?_⟩
    rw [egm, edy, ekd, ← en, ← hF] at hl
    have hy : sx_ev σ y = tr_hd (tr_sy (φ F) (φ A') (φ W') (φ PE') (tr_at (φ RT) 0 (tr_bt (φ RF) (sx_ev σ dy) (sx_ev σ m).toNat)).toNat 3) := hf.2.2 hl
    rw [egm, edy, ekd, ← en, ← hF, ← hy]
    exact sx_clp_ok hd z5
  · cases h
theorem sx_ia_ok {a : Nat} {u x : sx_E} (hd : sx_d P sx_TGm σ φ D) (h : sx_ia P D a u = some x) : φ a (sx_ev σ u).toNat = sx_ev σ x := by
  unfold sx_ia at h
  split at h
  · next y hy =>
    cases h
    exact sx_sel_ok hd hy
  · split at h
    · next y hy =>
      cases c1 : sx_eqp P D y.2.1 u with
      | false =>
        rw [c1] at h
        have h : none = some x := h
        cases h
      | true =>
        rw [c1] at h
        have h : some y.2.2 = some x := h
        cases h
        rw [sx_fru_ok hd hy, sx_eqp_ok hd c1, if_pos rfl]
    · cases h
end SXSA
