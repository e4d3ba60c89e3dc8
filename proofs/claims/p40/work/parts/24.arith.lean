/-! OPERATIONS ON NUMBERS -/
section SXA
variable {P : sx_P} {TG : sx_TG} {σ : Nat → Int} {φ : sx_R} {D D' : sx_D} {H : (Nat → Int) → Prop} {v : Int} {p : sx_E × sx_D}
/-- the answer v stands there; what is new is a number, v too -/
def sx_an (P : sx_P) (TG : sx_TG) (D : sx_D) (p : sx_E × sx_D) (v : Int) (H : (Nat → Int) → Prop) : Prop :=
  sx_kp D p.2 ∧ ∀ σ φ, sx_d P TG σ φ D → H σ → (∀ i, D.2.2.2.2.2.1 ≤ i → i < p.2.2.2.2.2.2.1 → σ i = v) → sx_d P TG σ φ p.2 ∧ sx_ev σ p.1 = v
theorem sx_an_e {e : sx_E} (h : ∀ σ φ, sx_d P TG σ φ D → H σ → sx_ev σ e = v) : sx_an P TG D (e, D) v H := ⟨sx_kq.rf.kp, fun σ φ h1 h2 _ => ⟨h1, h σ φ h1 h2⟩⟩
theorem sx_fs_op {o : Nat} {x y r : Int} (ho : o < 900) : sx_fs TG (100 + o) [] [x, y, r] ↔ sx_fn o x y = r := by
  have e1 : ¬ (1000 ≤ 100 + o) := by omega
  have e2 : 100 ≤ 100 + o := by omega
  have e3 : 100 + o - 100 = o := by omega
  unfold sx_fs
  split
  · next h => simp at h
  · next h => simp at h
  · next h => simp at h
  · next h => simp at h
  · next h => simp at h
  · next h0 _ _ => omega
  · next h0 _ _ => omega
  · rw [if_neg e1]
    simp only [e2, if_true, e3]
theorem sx_first_ok {α β : Type} {f : α → Option β} {b : β} : ∀ {l : List α}, sx_first f l = some b → ∃ a ∈ l, f a = some b
  | [], h => by cases h
  | a :: l, h => by
    unfold sx_first at h
    split at h
    · next c hc =>
      cases h
      exact ⟨a, List.mem_cons_self, hc⟩
    · obtain ⟨c, h1, h2⟩ := sx_first_ok (l := l) h
      exact ⟨c, List.mem_cons_of_mem _ h1, h2⟩
theorem sx_memo1_ok {o : Nat} {e1 e2 r : sx_E} {f : sx_F} (ho : o < 900) (hm : sx_memo1 o e1 e2 f = some r) (hf : sx_fk TG σ φ f) : sx_fn o (sx_ev σ e1) (sx_ev σ e2) = sx_ev σ r := by
  unfold sx_memo1 at hm
  split at hm
  · next k a b r2 =>
    cases hb : (Nat.beq k (100 + o) && (sx_eq a e1 && sx_eq b e2)) with
    | false => rw [hb] at hm; cases hm
    | true =>
      rw [hb] at hm
      cases hm
      simp only [Bool.and_eq_true] at hb
      obtain ⟨h1, h2, h3⟩ := hb
      have h1 := Nat.eq_of_beq_eq_true h1
      subst h1
      rw [← sx_eq_eq h2, ← sx_eq_eq h3]
      exact (sx_fs_op ho).mp hf
  · cases hm
theorem sx_an_res {o : Nat} {e1 e2 : sx_E} {lo hi : Int} (ho : o < 900) (hv : lo ≤ v ∧ v ≤ hi) (hf : ∀ σ, H σ → sx_fn o (sx_ev σ e1) (sx_ev σ e2) = v) : sx_an P TG D (sx_res o e1 e2 lo hi D) v H := by
  unfold sx_res
  split
  · next r hr =>
    obtain ⟨f, h1, h2⟩ := sx_first_ok hr
    exact sx_an_e fun σ φ h3 h4 => (sx_memo1_ok (TG := TG) (φ := φ) ho h2 (h3.2.2.2.2 f h1)).symm.trans (hf σ h4)
  · refine ⟨⟨rfl, rfl, Nat.le_succ _, rfl⟩, fun σ φ h1 h2 h3 => ?_⟩
    have e := h3 D.2.2.2.2.2.1 (Nat.le_refl _) (Nat.lt_succ_self _)
    refine ⟨sx_dr_F1 (D := sx_newv D lo hi) (sx_dr_v h1 (by rw [e]; exact hv)) ?_, by rw [sx_ev_v]; exact e⟩
    refine (sx_fs_op ho).mpr ?_
    rw [sx_ev_v, e]
    exact hf σ h2
theorem sx_an_full {w : Bool} {o : Nat} {e1 e2 : sx_E} (ho : o < 900) (hv : sx_lo w ≤ v ∧ v ≤ sx_hi w) (hf : ∀ σ, H σ → sx_fn o (sx_ev σ e1) (sx_ev σ e2) = v) : sx_an P TG D (sx_full w o e1 e2 D) v H := sx_an_res ho hv hf
theorem sx_an_wrap {w : Bool} {o : Nat} {e e1 e2 : sx_E} (ho : o < 900) (hv : sx_lo w ≤ v ∧ v ≤ sx_hi w) (hf : ∀ σ, H σ → sx_fn o (sx_ev σ e1) (sx_ev σ e2) = v) (he : ∀ σ, H σ → sx_lo w ≤ sx_ev σ e → sx_ev σ e ≤ sx_hi w → sx_ev σ e = v) : sx_an P TG D (sx_wrap P w o e e1 e2 D) v H := by
  unfold sx_wrap
  cases hb : (sx_nn P.1 D.2.2.1 (sx_pk e (-(sx_lo w))) && sx_nn P.1 D.2.2.1 (sx_pk (sx_ng e) (sx_hi w))) with
  | true =>
    rw [Bool.and_eq_true] at hb
    refine sx_an_e fun σ φ h3 h4 => ?_
    have h5 := sx_nn_ok h3.1 h3.2.2.1 hb.1
    have h6 := sx_nn_ok h3.1 h3.2.2.1 hb.2
    rw [sx_ev_pk] at h5 h6
    rw [sx_ev_ng] at h6
    exact he σ h4 (by omega) (by omega)
  | false => exact sx_an_full ho hv hf
theorem sx_isk_ok {e : sx_E} (h : sx_isk e = true) : sx_ev σ e = e.1 := by
  unfold sx_isk at h
  split at h
  · next h2 =>
    show e.1 + sx_et σ e.2 = e.1
    rw [h2]
    show e.1 + 0 = e.1
    omega
  · cases h
theorem sx_rng_ok {e : sx_E} {a : Int × Int} (hr : sx_rng P D e = some a) (h : sx_d P TG σ φ D) : 0 ≤ a.1 ∧ a.1 ≤ sx_ev σ e ∧ sx_ev σ e ≤ a.2 := by
  unfold sx_rng at hr
  split at hr
  · next l hl =>
    split at hr
    · next u hu =>
      cases hb : sx_le 0 l with
      | false => rw [hb] at hr; cases hr
      | true =>
        rw [hb] at hr
        cases hr
        exact ⟨sx_le_iff.mp hb, sx_lb_ok h.1 h.2.2.1 hl, sx_ub_ok h.1 h.2.2.1 hu⟩
    · cases hr
  · cases hr
/-- products -/
theorem sx_an_mul {w : Bool} {o : Nat} {e1 e2 : sx_E} (ho : o < 900) {a b : Int} {σ0 : Nat → Int} {φ0 : sx_R} (h0 : sx_d P TG σ0 φ0 D) (H0 : H σ0) (hH : ∀ σ, H σ → sx_ev σ e1 = a ∧ sx_ev σ e2 = b) (hv : sx_lo w ≤ v ∧ v ≤ sx_hi w) (hf : ∀ σ, H σ → sx_fn o (sx_ev σ e1) (sx_ev σ e2) = v) (he : sx_lo w ≤ a * b → a * b ≤ sx_hi w → a * b = v) : sx_an P TG D (sx_mul P w o e1 e2 D) v H := by
  unfold sx_mul
  cases h1 : sx_isk e1 with
  | true =>
    refine sx_an_wrap ho hv hf fun σ h2 => ?_
    obtain ⟨z1, z2⟩ := hH σ h2
    rw [sx_ev_sc, ← sx_isk_ok (σ := σ) h1, z1, z2]
    exact he
  | false =>
    cases h2 : sx_isk e2 with
    | true =>
      refine sx_an_wrap ho hv hf fun σ h2' => ?_
      obtain ⟨z1, z2⟩ := hH σ h2'
      rw [sx_ev_sc, ← sx_isk_ok (σ := σ) h2, z1, z2, Int.mul_comm]
      exact he
    | false =>
      simp only [cond_false]
      split
      · next x y hx hy =>
        cases h3 : sx_le (x.2 * y.2) (sx_hi w) with
        | true =>
          have l1 := sx_le_iff.mp h3
          obtain ⟨z1, z2⟩ := hH σ0 H0
          have r1 := sx_rng_ok hx h0
          have r2 := sx_rng_ok hy h0
          rw [z1] at r1
          rw [z2] at r2
          have m1 : x.1 * y.1 ≤ a * b := Int.mul_le_mul r1.2.1 r2.2.1 r2.1 (by omega)
          have m2 : a * b ≤ x.2 * y.2 := Int.mul_le_mul r1.2.2 r2.2.2 (by omega) (by omega)
          have m3 : 0 ≤ x.1 * y.1 := Int.mul_nonneg r1.1 r2.1
          have m4 : sx_lo w ≤ 0 := by cases w <;> decide
          have ev := he (by omega) (by omega)
          exact sx_an_res ho (by rw [← ev]; exact ⟨m1, m2⟩) hf
        | false => exact sx_an_full ho hv hf
      · exact sx_an_full ho hv hf
/-- a divisor that is not 0 -/
theorem sx_nz {e2 : sx_E} (h0 : sx_d P TG σ φ D) (hb : (sx_ge P D (sx_pk e2 (-1)) || (sx_ge P D (sx_pk (sx_ng e2) (-1)) || sx_ne D.2.2.2.2.1 e2)) = true) : ¬ sx_ev σ e2 = 0 := by
  rw [Bool.or_eq_true, Bool.or_eq_true] at hb
  rcases hb with hb | hb | hb
  · have := sx_ge_ok h0 hb
    rw [sx_ev_pk] at this
    omega
  · have := sx_ge_ok h0 hb
    rw [sx_ev_pk, sx_ev_ng] at this
    omega
  · exact sx_ne_ok h0 hb
theorem sx_an_div {w : Bool} {o : Nat} {e1 e2 : sx_E} (ho : o < 900) {a b : Int} {σ0 : Nat → Int} {φ0 : sx_R} (h0 : sx_d P TG σ0 φ0 D) (H0 : H σ0) (hH : ∀ σ, H σ → sx_ev σ e1 = a ∧ sx_ev σ e2 = b) (hv : sx_lo w ≤ v ∧ v ≤ sx_hi w) (hf : ∀ σ, H σ → sx_fn o (sx_ev σ e1) (sx_ev σ e2) = v) (he : ∀ l u, 1 ≤ b → 0 ≤ l → l ≤ a → a ≤ u → l / b ≤ v ∧ v ≤ u / b) (hd : sx_div P w o e1 e2 D = some p) : ¬ b = 0 ∧ sx_an P TG D p v H := by
  obtain ⟨z1, z2⟩ := hH σ0 H0
  unfold sx_div at hd
  cases h1 : (sx_isk e2 && sx_le 1 e2.1) with
  | true =>
    rw [h1] at hd
    simp only [cond_true] at hd
    rw [Bool.and_eq_true] at h1
    have k1 := sx_isk_ok (σ := σ0) h1.1
    have k2 := sx_le_iff.mp h1.2
    rw [z2] at k1
    refine ⟨by omega, ?_⟩
    split at hd
    · next x hx =>
      cases hd
      have r1 := sx_rng_ok hx h0
      rw [z1] at r1
      have := he x.1 x.2 (by omega) r1.1 r1.2.1 r1.2.2
      rw [k1] at this
      exact sx_an_res ho this hf
    · cases hd
      exact sx_an_full ho hv hf
  | false =>
    rw [h1] at hd
    simp only [cond_false] at hd
    cases h2 : (sx_ge P D (sx_pk e2 (-1)) || (sx_ge P D (sx_pk (sx_ng e2) (-1)) || sx_ne D.2.2.2.2.1 e2)) with
    | false => rw [h2] at hd; cases hd
    | true =>
      rw [h2] at hd
      cases hd
      have := sx_nz h0 h2
      rw [z2] at this
      exact ⟨this, sx_an_full ho hv hf⟩
theorem sx_an_rem {o : Nat} {e1 e2 : sx_E} (ho : o < 900) {a b : Int} {σ0 : Nat → Int} {φ0 : sx_R} (h0 : sx_d P TG σ0 φ0 D) (H0 : H σ0) (hH : ∀ σ, H σ → sx_ev σ e1 = a ∧ sx_ev σ e2 = b) (hv : sx_lo true ≤ v ∧ v ≤ sx_hi true) (hf : ∀ σ, H σ → sx_fn o (sx_ev σ e1) (sx_ev σ e2) = v) (he : ∀ l u, 1 ≤ b → 0 ≤ l → l ≤ a → a ≤ u → 0 ≤ v ∧ v ≤ b - 1) (hd : sx_rem P o e1 e2 D = some p) : ¬ b = 0 ∧ sx_an P TG D p v H := by
  obtain ⟨z1, z2⟩ := hH σ0 H0
  unfold sx_rem at hd
  cases h1 : (sx_isk e2 && sx_le 1 e2.1) with
  | true =>
    rw [h1] at hd
    simp only [cond_true] at hd
    rw [Bool.and_eq_true] at h1
    have k1 := sx_isk_ok (σ := σ0) h1.1
    have k2 := sx_le_iff.mp h1.2
    rw [z2] at k1
    refine ⟨by omega, ?_⟩
    split at hd
    · next x hx =>
      cases hd
      have r1 := sx_rng_ok hx h0
      rw [z1] at r1
      have := he x.1 x.2 (by omega) r1.1 r1.2.1 r1.2.2
      rw [k1] at this
      exact sx_an_res ho this hf
    · cases hd
      exact sx_an_full ho hv hf
  | false =>
    rw [h1] at hd
    simp only [cond_false] at hd
    cases h2 : (sx_ge P D (sx_pk e2 (-1)) || (sx_ge P D (sx_pk (sx_ng e2) (-1)) || sx_ne D.2.2.2.2.1 e2)) with
    | false => rw [h2] at hd; cases hd
    | true =>
      rw [h2] at hd
      cases hd
      have := sx_nz h0 h2
      rw [z2] at this
      exact ⟨this, sx_an_full ho hv hf⟩
def sr_i (o : Nat) (a b : Int32) : Option Int32 := match o with
  | 9 => some (a + b)
  | 10 => some (a - b)
  | 11 => some (a * b)
  | 12 => some (a &&& b)
  | 13 => some (a ||| b)
  | 14 => if b = 0 then none else some (a / b)
  | 15 => if b = 0 then none else some (a - a / b * b)
  | 17 => some (a <<< (b &&& 31))
  | 18 => some (a >>> (b &&& 31))
  | _ => none
def sr_l (o : Nat) (a b : Int64) : Option Int64 := match o with
  | 19 => some (a + b)
  | 20 => some (a - b)
  | 21 => some (a * b)
  | 22 => if b = 0 then none else some (a / b)
  | 23 => some (a &&& b)
  | 24 => some (a ||| b)
  | _ => none
theorem sn_and255 {a b : Int32} (hb : b.toInt = 255) (h1 : 0 ≤ a.toInt) (h2 : a.toInt ≤ 255) : a &&& b = a := by
  have hb2 : b = 255 := Int32.toInt_inj.mp hb
  have e : a.toInt = (a.toBitVec.toNat : Int) := by
    have h3 : a.toBitVec.toInt = a.toInt := rfl
    rw [BitVec.toInt_eq_toNat_cond] at h3
    have h4 := a.toBitVec.isLt
    split at h3 <;> omega
  subst hb2
  apply Int32.toBitVec_inj.mp
  apply BitVec.eq_of_toNat_eq
  rw [Int32.toBitVec_and, BitVec.toNat_and]
  show a.toBitVec.toNat &&& (2 ^ 8 - 1) = a.toBitVec.toNat
  rw [Nat.and_two_pow_sub_one_eq_mod]
  exact Nat.mod_eq_of_lt (by omega)
theorem sn_c16b {x : Int32} (h1 : 0 ≤ x.toInt) (h2 : x.toInt ≤ 65535) : (x.toUInt32 % 65536).toInt32 = x := by
  apply Int32.toBitVec_inj.mp
  apply BitVec.eq_of_toNat_eq
  have e : x.toInt = (x.toBitVec.toNat : Int) := by
    have h3 : x.toBitVec.toInt = x.toInt := rfl
    rw [BitVec.toInt_eq_toNat_cond] at h3
    have h4 := x.toBitVec.isLt
    split at h3 <;> omega
  show (x.toUInt32 % 65536).toNat = x.toBitVec.toNat
  rw [UInt32.toNat_mod]
  show x.toBitVec.toNat % 65536 = x.toBitVec.toNat
  exact Nat.mod_eq_of_lt (by omega)
theorem sx_if0 {b : Int32} (h : ¬ b.toInt = 0) : ¬ b = 0 := fun z => h (by rw [z]; rfl)
theorem sx_if0l {b : Int64} (h : ¬ b.toInt = 0) : ¬ b = 0 := fun z => h (by rw [z]; rfl)
theorem sx_fn2 {o : Nat} {a b z : Int32} (h : sr_i o a b = some z) : sx_fn o a.toInt b.toInt = z.toInt := by
  unfold sr_i at h
  split at h <;> first
    | (cases h; simp only [sx_fn, Int32.ofInt_toInt])
    | (split at h
       · cases h
       · cases h; simp only [sx_fn, Int32.ofInt_toInt])
    | cases h
theorem sx_fn2l {o : Nat} {a b z : Int64} (h : sr_l o a b = some z) : sx_fn o a.toInt b.toInt = z.toInt := by
  unfold sr_l at h
  split at h <;> first
    | (cases h; simp only [sx_fn, Int64.ofInt_toInt])
    | (split at h
       · cases h
       · cases h; simp only [sx_fn, Int64.ofInt_toInt])
    | cases h
theorem sx_bi_ok {o : Nat} {x y : sx_E} {a b : Int32} {σ0 : Nat → Int} {φ0 : sx_R} (h0 : sx_d P TG σ0 φ0 D) (hx : sx_ev σ0 x = a.toInt) (hy : sx_ev σ0 y = b.toInt) (h : sx_bi P o x y D = some p) : ∃ z, sr_i o a b = some z ∧ sx_an P TG D p z.toInt (fun σ => sx_ev σ x = a.toInt ∧ sx_ev σ y = b.toInt) := by
  have hf : ∀ {o : Nat} {z : Int32}, sr_i o a b = some z → ∀ σ, (sx_ev σ x = a.toInt ∧ sx_ev σ y = b.toInt) → sx_fn o (sx_ev σ x) (sx_ev σ y) = z.toInt := fun hs σ hh => by rw [hh.1, hh.2]; exact sx_fn2 hs
  unfold sx_bi at h
  cases h1 : Nat.beq o 9 with
  | true =>
    have e := Nat.eq_of_beq_eq_true h1
    subst e
    cases h
    refine ⟨_, rfl, sx_an_wrap (by omega) (sn_rw32 _) (hf rfl) fun σ hh z1 z2 => ?_⟩
    rw [sx_ev_ad, hh.1, hh.2] at z1 z2 ⊢
    exact (sn_add z1 z2).symm
  | false =>
  rw [h1] at h
  cases h2 : Nat.beq o 10 with
  | true =>
    have e := Nat.eq_of_beq_eq_true h2
    subst e
    cases h
    refine ⟨_, rfl, sx_an_wrap (by omega) (sn_rw32 _) (hf rfl) fun σ hh z1 z2 => ?_⟩
    rw [sx_ev_sb, hh.1, hh.2] at z1 z2 ⊢
    exact (sn_sub z1 z2).symm
  | false =>
  rw [h2] at h
  cases h3 : Nat.beq o 11 with
  | true =>
    have e := Nat.eq_of_beq_eq_true h3
    subst e
    cases h
    exact ⟨_, rfl, sx_an_mul (by omega) h0 ⟨hx, hy⟩ (fun σ hh => hh) (sn_rw32 _) (hf rfl) fun z1 z2 => (sn_mul z1 z2).symm⟩
  | false =>
  rw [h3] at h
  cases h4 : Nat.beq o 12 with
  | true =>
    have e := Nat.eq_of_beq_eq_true h4
    subst e
    cases h
    refine ⟨_, rfl, ?_⟩
    unfold sx_and
    cases hz : (sx_eq y (sx_k 255) && (sx_nn P.1 D.2.2.1 x && sx_nn P.1 D.2.2.1 (sx_pk (sx_ng x) 255))) with
    | true =>
      rw [Bool.and_eq_true, Bool.and_eq_true] at hz
      refine sx_an_e fun σ φ z3 z4 => ?_
      have w1 := sx_nn_ok z3.1 z3.2.2.1 hz.2.1
      have w2 := sx_nn_ok z3.1 z3.2.2.1 hz.2.2
      rw [sx_ev_pk, sx_ev_ng] at w2
      have w3 := z4.2
      rw [sx_eq_eq hz.1, sx_ev_k] at w3
      rw [sn_and255 w3.symm (by rw [← z4.1]; exact w1) (by rw [← z4.1]; omega)]
      exact z4.1
    | false =>
    simp only [cond_false]
    cases hb : (sx_isk y && (sx_le 0 y.1 && sx_le y.1 2147483647)) with
    | true =>
      simp only [Bool.and_eq_true] at hb
      have k1 := sx_isk_ok (σ := σ0) hb.1
      have k2 := sx_le_iff.mp hb.2.1
      rw [hy] at k1
      have := sn_and (a := a) (b := b) (by omega)
      rw [k1] at this
      exact sx_an_res (by omega) this (hf rfl)
    | false => exact sx_an_full (by omega) (sn_rw32 _) (hf rfl)
  | false =>
  rw [h4] at h
  cases h5 : Nat.beq o 14 with
  | true =>
    have e := Nat.eq_of_beq_eq_true h5
    subst e
    simp only [cond_false, cond_true] at h
    have hn : ∀ (hz : ¬ b.toInt = 0), sr_i 14 a b = some (a / b) := fun hz => by
      show (if b = 0 then none else some (a / b)) = _
      rw [if_neg (sx_if0 hz)]
    by_cases hz : b.toInt = 0
    · exact absurd hz (sx_an_div (H := fun σ => sx_ev σ x = a.toInt ∧ sx_ev σ y = b.toInt) (v := sx_fn 14 a.toInt b.toInt) (by omega) h0 ⟨hx, hy⟩ (fun σ hh => hh) (sn_rw32 _) (fun σ hh => by rw [hh.1, hh.2]) (fun l u z1 => by omega) h).1
    · obtain ⟨-, d2⟩ := sx_an_div (H := fun σ => sx_ev σ x = a.toInt ∧ sx_ev σ y = b.toInt) (v := (a / b).toInt) (by omega) h0 ⟨hx, hy⟩ (fun σ hh => hh) (sn_rw32 _) (hf (hn hz)) (fun l u z1 z2 z3 z4 => (sn_div z1 z2 z3 z4).2) h
      exact ⟨_, hn hz, d2⟩
  | false =>
  rw [h5] at h
  cases h6 : Nat.beq o 15 with
  | true =>
    have e := Nat.eq_of_beq_eq_true h6
    subst e
    simp only [cond_false, cond_true] at h
    have hn : ∀ (hz : ¬ b.toInt = 0), sr_i 15 a b = some (a - a / b * b) := fun hz => by
      show (if b = 0 then none else some (a - a / b * b)) = _
      rw [if_neg (sx_if0 hz)]
    by_cases hz : b.toInt = 0
    · exact absurd hz (sx_an_rem (H := fun σ => sx_ev σ x = a.toInt ∧ sx_ev σ y = b.toInt) (v := sx_fn 15 a.toInt b.toInt) (by omega) h0 ⟨hx, hy⟩ (fun σ hh => hh) (sn_rw32 _) (fun σ hh => by rw [hh.1, hh.2]) (fun l u z1 => by omega) h).1
    · obtain ⟨-, d2⟩ := sx_an_rem (H := fun σ => sx_ev σ x = a.toInt ∧ sx_ev σ y = b.toInt) (v := (a - a / b * b).toInt) (by omega) h0 ⟨hx, hy⟩ (fun σ hh => hh) (sn_rw32 _) (hf (hn hz)) (fun l u z1 z2 z3 z4 => sn_rem z1 z2 z3 z4) h
      exact ⟨_, hn hz, d2⟩
  | false =>
  rw [h6] at h
  cases h7 : (Nat.beq o 13 || (Nat.beq o 17 || Nat.beq o 18)) with
  | false => rw [h7] at h; cases h
  | true =>
    rw [h7] at h
    simp only [cond_true, cond_false] at h
    cases h8 : (Nat.beq o 18 && (sx_isk y && y.1 == 0)) with
    | true =>
      rw [h8] at h
      cases h
      simp only [Bool.and_eq_true] at h8
      obtain ⟨k1, k2, k3⟩ := h8
      have e := Nat.eq_of_beq_eq_true k1
      subst e
      have k3 : y.1 = 0 := eq_of_beq k3
      have k4 := sx_isk_ok (σ := σ0) k2
      rw [hy, k3] at k4
      have k5 : b = 0 := Int32.toInt_inj.mp k4
      refine ⟨_, rfl, sx_an_e fun σ φ h1 h2 => ?_⟩
      rw [h2.1, k5]
      show a.toInt = (a >>> (0 &&& 31)).toInt
      have e0 : ((0 : Int32) &&& 31) = 0 := rfl
      rw [e0, Int32.shiftRight_zero]
    | false =>
      rw [h8] at h
      cases h
      rw [Bool.or_eq_true, Bool.or_eq_true] at h7
      rcases h7 with h7 | h7 | h7 <;> (have e := Nat.eq_of_beq_eq_true h7; subst e; exact ⟨_, rfl, sx_an_full (by omega) (sn_rw32 _) (hf rfl)⟩)
theorem sx_bl_ok {o : Nat} {x y : sx_E} {a b : Int64} {σ0 : Nat → Int} {φ0 : sx_R} (h0 : sx_d P TG σ0 φ0 D) (hx : sx_ev σ0 x = a.toInt) (hy : sx_ev σ0 y = b.toInt) (h : sx_bl P o x y D = some p) : ∃ z, sr_l o a b = some z ∧ sx_an P TG D p z.toInt (fun σ => sx_ev σ x = a.toInt ∧ sx_ev σ y = b.toInt) := by
  have hf : ∀ {o : Nat} {z : Int64}, sr_l o a b = some z → ∀ σ, (sx_ev σ x = a.toInt ∧ sx_ev σ y = b.toInt) → sx_fn o (sx_ev σ x) (sx_ev σ y) = z.toInt := fun hs σ hh => by rw [hh.1, hh.2]; exact sx_fn2l hs
  unfold sx_bl at h
  cases h1 : Nat.beq o 19 with
  | true =>
    have e := Nat.eq_of_beq_eq_true h1
    subst e
    cases h
    refine ⟨_, rfl, sx_an_wrap (by omega) (sn_rw64 _) (hf rfl) fun σ hh z1 z2 => ?_⟩
    rw [sx_ev_ad, hh.1, hh.2] at z1 z2 ⊢
    exact (sn_addl z1 z2).symm
  | false =>
  rw [h1] at h
  cases h2 : Nat.beq o 20 with
  | true =>
    have e := Nat.eq_of_beq_eq_true h2
    subst e
    cases h
    refine ⟨_, rfl, sx_an_wrap (by omega) (sn_rw64 _) (hf rfl) fun σ hh z1 z2 => ?_⟩
    rw [sx_ev_sb, hh.1, hh.2] at z1 z2 ⊢
    exact (sn_subl z1 z2).symm
  | false =>
  rw [h2] at h
  cases h3 : Nat.beq o 21 with
  | true =>
    have e := Nat.eq_of_beq_eq_true h3
    subst e
    cases h
    exact ⟨_, rfl, sx_an_mul (by omega) h0 ⟨hx, hy⟩ (fun σ hh => hh) (sn_rw64 _) (hf rfl) fun z1 z2 => (sn_mull z1 z2).symm⟩
  | false =>
  rw [h3] at h
  cases h5 : Nat.beq o 22 with
  | true =>
    have e := Nat.eq_of_beq_eq_true h5
    subst e
    simp only [cond_false, cond_true] at h
    have hn : ∀ (hz : ¬ b.toInt = 0), sr_l 22 a b = some (a / b) := fun hz => by
      show (if b = 0 then none else some (a / b)) = _
      rw [if_neg (sx_if0l hz)]
    by_cases hz : b.toInt = 0
    · exact absurd hz (sx_an_div (H := fun σ => sx_ev σ x = a.toInt ∧ sx_ev σ y = b.toInt) (v := sx_fn 22 a.toInt b.toInt) (by omega) h0 ⟨hx, hy⟩ (fun σ hh => hh) (sn_rw64 _) (fun σ hh => by rw [hh.1, hh.2]) (fun l u z1 => by omega) h).1
    · obtain ⟨-, d2⟩ := sx_an_div (H := fun σ => sx_ev σ x = a.toInt ∧ sx_ev σ y = b.toInt) (v := (a / b).toInt) (by omega) h0 ⟨hx, hy⟩ (fun σ hh => hh) (sn_rw64 _) (hf (hn hz)) (fun l u z1 z2 z3 z4 => sn_divl z1 z2 z3 z4) h
      exact ⟨_, hn hz, d2⟩
  | false =>
  rw [h5] at h
  cases h7 : (Nat.beq o 23 || Nat.beq o 24) with
  | false => rw [h7] at h; cases h
  | true =>
    rw [h7] at h
    cases h
    rw [Bool.or_eq_true] at h7
    rcases h7 with h7 | h7 <;> (have e := Nat.eq_of_beq_eq_true h7; subst e; exact ⟨_, rfl, sx_an_full (by omega) (sn_rw64 _) (hf rfl)⟩)
def sr_u (o : Nat) (a : Int32) : Option Int32 := match o with
  | 16 => some (-a)
  | 30 => some a.toInt8.toInt32
  | 31 => some a.toInt16.toInt32
  | 32 => some (a.toUInt32 % 65536).toInt32
  | _ => none
theorem sx_un_ok {o : Nat} {x : sx_E} {a : Int32} (h29 : Nat.beq o 29 = false) (h : sx_un P o x D = some p) : ∃ z, sr_u o a = some z ∧ sx_an P TG D p z.toInt (fun σ => sx_ev σ x = a.toInt) := by
  unfold sx_un at h
  cases h1 : Nat.beq o 16 with
  | true =>
    have e := Nat.eq_of_beq_eq_true h1
    subst e
    cases h
    refine ⟨_, rfl, sx_an_wrap (by omega) (sn_rw32 _) (fun σ hh => ?_) fun σ hh z1 z2 => ?_⟩
    · rw [hh]; simp only [sx_fn, Int32.ofInt_toInt]
    · rw [sx_ev_ng, hh] at z1 z2 ⊢
      exact (sn_neg z1 z2).symm
  | false =>
  rw [h1, h29] at h
  cases h3 : Nat.beq o 30 with
  | true =>
    have e := Nat.eq_of_beq_eq_true h3
    subst e
    cases h
    refine ⟨_, rfl, ?_⟩
    cases hb : (sx_nn P.1 D.2.2.1 (sx_pk x 128) && sx_nn P.1 D.2.2.1 (sx_pk (sx_ng x) 127)) with
    | true =>
      rw [Bool.and_eq_true] at hb
      refine sx_an_e fun σ φ z3 z4 => ?_
      have h5 := sx_nn_ok z3.1 z3.2.2.1 hb.1
      have h6 := sx_nn_ok z3.1 z3.2.2.1 hb.2
      rw [sx_ev_pk] at h5 h6
      rw [sx_ev_ng] at h6
      rw [z4] at h5 h6 ⊢
      rw [sn_i2b]
      exact (sn_b8 (by omega) (by omega)).symm
    | false =>
      refine sx_an_res (by omega) ?_ (fun σ hh => by rw [hh]; simp only [sx_fn, Int32.ofInt_toInt])
      rw [sn_i2b]
      have h1 := Int.le_bmod (x := a.toInt) (m := 2 ^ 8) (by decide)
      have h2 := Int.bmod_lt (x := a.toInt) (m := 2 ^ 8) (by decide)
      omega
  | false =>
  rw [h3] at h
  cases h4 : Nat.beq o 31 with
  | true =>
    have e := Nat.eq_of_beq_eq_true h4
    subst e
    cases h
    refine ⟨_, rfl, ?_⟩
    cases hb : (sx_nn P.1 D.2.2.1 (sx_pk x 32768) && sx_nn P.1 D.2.2.1 (sx_pk (sx_ng x) 32767)) with
    | true =>
      rw [Bool.and_eq_true] at hb
      refine sx_an_e fun σ φ z3 z4 => ?_
      have h5 := sx_nn_ok z3.1 z3.2.2.1 hb.1
      have h6 := sx_nn_ok z3.1 z3.2.2.1 hb.2
      rw [sx_ev_pk] at h5 h6
      rw [sx_ev_ng] at h6
      rw [z4] at h5 h6 ⊢
      rw [sn_i2s]
      exact (sn_b16 (by omega) (by omega)).symm
    | false =>
      refine sx_an_res (by omega) ?_ (fun σ hh => by rw [hh]; simp only [sx_fn, Int32.ofInt_toInt])
      rw [sn_i2s]
      have h1 := Int.le_bmod (x := a.toInt) (m := 2 ^ 16) (by decide)
      have h2 := Int.bmod_lt (x := a.toInt) (m := 2 ^ 16) (by decide)
      omega
  | false =>
  rw [h4] at h
  cases h5 : Nat.beq o 32 with
  | false => rw [h5] at h; cases h
  | true =>
    have e := Nat.eq_of_beq_eq_true h5
    subst e
    cases h
    refine ⟨_, rfl, ?_⟩
    cases hb : (sx_nn P.1 D.2.2.1 x && sx_nn P.1 D.2.2.1 (sx_pk (sx_ng x) 65535)) with
    | true =>
      rw [Bool.and_eq_true] at hb
      refine sx_an_e fun σ φ z3 z4 => ?_
      have h5 := sx_nn_ok z3.1 z3.2.2.1 hb.1
      have h6 := sx_nn_ok z3.1 z3.2.2.1 hb.2
      rw [sx_ev_pk, sx_ev_ng] at h6
      rw [z4] at h5 h6 ⊢
      rw [sn_c16b h5 (by omega)]
    | false => exact sx_an_res (by omega) (sn_i2c a) (fun σ hh => by rw [hh]; simp only [sx_fn, Int32.ofInt_toInt])
theorem sx_un29_ok {x : sx_E} {a : Int64} (h : sx_un P 29 x D = some p) : sx_an P TG D p a.toInt32.toInt (fun σ => sx_ev σ x = a.toInt) := by
  cases h
  refine sx_an_wrap (by omega) (sn_rw32 _) (fun σ hh => ?_) fun σ hh z1 z2 => ?_
  · rw [hh]; simp only [sx_fn, Int64.ofInt_toInt]
  · rw [hh] at z1 z2 ⊢
    rw [Int64.toInt_toInt32]
    exact (sn_b32 z1 z2).symm
end SXA
