/-! NUMBERS -/
theorem sn_b32 {z : Int} (h1 : -2147483648 ≤ z) (h2 : z ≤ 2147483647) : z.bmod (2 ^ 32) = z := by
  have h := Int32.toInt_ofInt_of_le (n := z) (by omega) (by omega)
  rw [Int32.toInt_ofInt] at h
  exact h
theorem sn_b64 {z : Int} (h1 : -9223372036854775808 ≤ z) (h2 : z ≤ 9223372036854775807) : z.bmod (2 ^ 64) = z := by
  have h := Int64.toInt_ofInt_of_le (n := z) (by omega) (by omega)
  rw [Int64.toInt_ofInt] at h
  exact h
theorem sn_r32 (x : Int32) : -2147483648 ≤ x.toInt ∧ x.toInt ≤ 2147483647 := by
  have h1 := Int32.le_toInt x
  have h2 := Int32.toInt_lt x
  omega
theorem sn_r64 (x : Int64) : -9223372036854775808 ≤ x.toInt ∧ x.toInt ≤ 9223372036854775807 := by
  have h1 := Int64.le_toInt x
  have h2 := Int64.toInt_lt x
  omega
theorem sn_rw32 (x : Int32) : sx_lo true ≤ x.toInt ∧ x.toInt ≤ sx_hi true := sn_r32 x
theorem sn_rw64 (x : Int64) : sx_lo false ≤ x.toInt ∧ x.toInt ≤ sx_hi false := sn_r64 x
theorem sn_add {a b : Int32} (h1 : -2147483648 ≤ a.toInt + b.toInt) (h2 : a.toInt + b.toInt ≤ 2147483647) : (a + b).toInt = a.toInt + b.toInt := by rw [Int32.toInt_add]; exact sn_b32 h1 h2
theorem sn_sub {a b : Int32} (h1 : -2147483648 ≤ a.toInt - b.toInt) (h2 : a.toInt - b.toInt ≤ 2147483647) : (a - b).toInt = a.toInt - b.toInt := by rw [Int32.toInt_sub]; exact sn_b32 h1 h2
theorem sn_mul {a b : Int32} (h1 : -2147483648 ≤ a.toInt * b.toInt) (h2 : a.toInt * b.toInt ≤ 2147483647) : (a * b).toInt = a.toInt * b.toInt := by rw [Int32.toInt_mul]; exact sn_b32 h1 h2
theorem sn_neg {a : Int32} (h1 : -2147483648 ≤ -a.toInt) (h2 : -a.toInt ≤ 2147483647) : (-a).toInt = -a.toInt := by rw [Int32.toInt_neg]; exact sn_b32 h1 h2
theorem sn_addl {a b : Int64} (h1 : -9223372036854775808 ≤ a.toInt + b.toInt) (h2 : a.toInt + b.toInt ≤ 9223372036854775807) : (a + b).toInt = a.toInt + b.toInt := by rw [Int64.toInt_add]; exact sn_b64 h1 h2
theorem sn_subl {a b : Int64} (h1 : -9223372036854775808 ≤ a.toInt - b.toInt) (h2 : a.toInt - b.toInt ≤ 9223372036854775807) : (a - b).toInt = a.toInt - b.toInt := by rw [Int64.toInt_sub]; exact sn_b64 h1 h2
theorem sn_mull {a b : Int64} (h1 : -9223372036854775808 ≤ a.toInt * b.toInt) (h2 : a.toInt * b.toInt ≤ 9223372036854775807) : (a * b).toInt = a.toInt * b.toInt := by rw [Int64.toInt_mul]; exact sn_b64 h1 h2
theorem sn_dv {x y l u : Int} (hy : 1 ≤ y) (hl : 0 ≤ l) (h1 : l ≤ x) (h2 : x ≤ u) : l / y ≤ x.tdiv y ∧ x.tdiv y ≤ u / y ∧ 0 ≤ x.tdiv y ∧ x.tdiv y ≤ x := by
  rw [Int.tdiv_eq_ediv_of_nonneg (by omega)]
  refine ⟨Int.ediv_le_ediv (by omega) h1, Int.ediv_le_ediv (by omega) h2, Int.ediv_nonneg (by omega) (by omega), Int.ediv_le_self _ (by omega)⟩
theorem sn_div {a b : Int32} {l u : Int} (hb : 1 ≤ b.toInt) (hl : 0 ≤ l) (h1 : l ≤ a.toInt) (h2 : a.toInt ≤ u) : (a / b).toInt = a.toInt.tdiv b.toInt ∧ l / b.toInt ≤ (a / b).toInt ∧ (a / b).toInt ≤ u / b.toInt := by
  have h := sn_dv hb hl h1 h2
  have hr := sn_r32 a
  have e : (a / b).toInt = a.toInt.tdiv b.toInt := by rw [Int32.toInt_div]; exact sn_b32 (by omega) (by omega)
  rw [e]
  exact ⟨rfl, h.1, h.2.1⟩
theorem sn_divl {a b : Int64} {l u : Int} (hb : 1 ≤ b.toInt) (hl : 0 ≤ l) (h1 : l ≤ a.toInt) (h2 : a.toInt ≤ u) : l / b.toInt ≤ (a / b).toInt ∧ (a / b).toInt ≤ u / b.toInt := by
  have h := sn_dv hb hl h1 h2
  have hr := sn_r64 a
  have e : (a / b).toInt = a.toInt.tdiv b.toInt := by rw [Int64.toInt_div]; exact sn_b64 (by omega) (by omega)
  rw [e]
  exact ⟨h.1, h.2.1⟩
theorem sn_rem {a b : Int32} {l u : Int} (hb : 1 ≤ b.toInt) (hl : 0 ≤ l) (h1 : l ≤ a.toInt) (h2 : a.toInt ≤ u) : 0 ≤ (a - a / b * b).toInt ∧ (a - a / b * b).toInt ≤ b.toInt - 1 := by
  obtain ⟨e, -, -⟩ := sn_div hb hl h1 h2
  have hr := sn_r32 a
  have e2 : a.toInt.tdiv b.toInt = a.toInt / b.toInt := Int.tdiv_eq_ediv_of_nonneg (by omega)
  have h3 := Int.mul_ediv_add_emod a.toInt b.toInt
  have h4 := Int.emod_nonneg a.toInt (b := b.toInt) (by omega)
  have h5 := Int.emod_lt_of_pos a.toInt (b := b.toInt) (by omega)
  rw [Int.mul_comm] at h3
  have h6 : 0 ≤ a.toInt / b.toInt * b.toInt := Int.mul_nonneg (Int.ediv_nonneg (by omega) (by omega)) (by omega)
  have e3 : (a / b * b).toInt = a.toInt / b.toInt * b.toInt := by rw [sn_mul, e, e2] <;> (rw [e, e2]; omega)
  rw [sn_sub (by rw [e3]; omega) (by rw [e3]; omega), e3]
  omega
theorem sn_and {a b : Int32} (hb : 0 ≤ b.toInt) : 0 ≤ (a &&& b).toInt ∧ (a &&& b).toInt ≤ b.toInt := by
  have hb2 : b.toBitVec.toNat < 2147483648 := by
    have h1 : b.toBitVec.toInt = b.toInt := rfl
    rw [BitVec.toInt_eq_toNat_cond] at h1
    have h3 := b.toBitVec.isLt
    split at h1 <;> omega
  have eb : b.toInt = (b.toBitVec.toNat : Int) := BitVec.toInt_eq_toNat_of_lt (by omega)
  have h : (a &&& b).toBitVec.toNat ≤ b.toBitVec.toNat := by
    rw [Int32.toBitVec_and, BitVec.toNat_and]
    exact Nat.and_le_right
  have e : (a &&& b).toInt = ((a &&& b).toBitVec.toNat : Int) := BitVec.toInt_eq_toNat_of_lt (by omega)
  omega
theorem sn_b8 {z : Int} (h1 : -128 ≤ z) (h2 : z ≤ 127) : z.bmod (2 ^ 8) = z := Int.bmod_eq_of_le (by omega) (by omega)
theorem sn_b16 {z : Int} (h1 : -32768 ≤ z) (h2 : z ≤ 32767) : z.bmod (2 ^ 16) = z := Int.bmod_eq_of_le (by omega) (by omega)
theorem sn_i2b (x : Int32) : x.toInt8.toInt32.toInt = x.toInt.bmod (2 ^ 8) := by rw [Int8.toInt_toInt32, Int32.toInt_toInt8]
theorem sn_i2s (x : Int32) : x.toInt16.toInt32.toInt = x.toInt.bmod (2 ^ 16) := by rw [Int16.toInt_toInt32, Int32.toInt_toInt16]
theorem sn_i2c (x : Int32) : 0 ≤ ((x.toUInt32 % 65536).toInt32).toInt ∧ ((x.toUInt32 % 65536).toInt32).toInt ≤ 65535 := by
  have h : (x.toUInt32 % 65536).toInt32.toBitVec.toNat < 65536 := by
    show (x.toUInt32 % 65536).toBitVec.toNat < 65536
    show (x.toUInt32 % 65536).toNat < 65536
    rw [UInt32.toNat_mod]
    exact Nat.mod_lt _ (by decide)
  have e : (x.toUInt32 % 65536).toInt32.toInt = ((x.toUInt32 % 65536).toInt32.toBitVec.toNat : Int) := BitVec.toInt_eq_toNat_of_lt (by omega)
  omega
/-! WHAT IS KNOWN STAYS TRUE -/
section SXF
variable {P : sx_P} {TG : sx_TG} {σ : Nat → Int} {φ : sx_R} {D D' : sx_D}
abbrev sx_d (P : sx_P) (TG : sx_TG) (σ : Nat → Int) (φ : sx_R) (D : sx_D) : Prop := sx_dr P.1 P.2.1 TG σ φ D
theorem sx_ge_ok (h : sx_d P TG σ φ D) {e : sx_E} (hg : sx_ge P D e = true) : 0 ≤ sx_ev σ e := sx_pv_ok h.1 h.2.2.1 h.2.2.2.1 hg
theorem sx_dr_B (h : sx_d P TG σ φ D) {x : Nat} {p : Int × Int} (hp : p.1 ≤ σ x ∧ σ x ≤ p.2) : sx_d P TG σ φ (sx_wB D ((x, p) :: D.2.2.1)) := ⟨h.1, h.2.1, sx_Bok_cons h.2.2.1 hp, h.2.2.2.1, h.2.2.2.2⟩
theorem sx_dr_L (h : sx_d P TG σ φ D) {e : sx_E} (he : 0 ≤ sx_ev σ e) : sx_d P TG σ φ (sx_wL D (e :: D.2.2.2.1)) := ⟨h.1, h.2.1, h.2.2.1, List.forall_mem_cons.mpr ⟨he, h.2.2.2.1⟩, h.2.2.2.2⟩
theorem sx_dr_F (h : sx_d P TG σ φ D) {F : List sx_F} (hF : ∀ f ∈ F, sx_fk TG σ φ f) : sx_d P TG σ φ (sx_wF D F) := ⟨h.1, h.2.1, h.2.2.1, h.2.2.2.1, hF⟩
theorem sx_dr_F1 (h : sx_d P TG σ φ D) {f : sx_F} (hf : sx_fk TG σ φ f) : sx_d P TG σ φ (sx_wF D (f :: D.2.2.2.2.1)) := sx_dr_F h (List.forall_mem_cons.mpr ⟨hf, h.2.2.2.2⟩)
theorem sx_dr_v (h : sx_d P TG σ φ D) {lo hi : Int} (hv : lo ≤ σ D.2.2.2.2.2.1 ∧ σ D.2.2.2.2.2.1 ≤ hi) : sx_d P TG σ φ (sx_newv D lo hi) := ⟨h.1, h.2.1, sx_Bok_cons h.2.2.1 hv, h.2.2.2.1, h.2.2.2.2⟩
theorem sx_mx_le {a b c : Int} (h1 : a ≤ c) (h2 : b ≤ c) : sx_mx a b ≤ c := by
  unfold sx_mx
  cases sx_le a b <;> assumption
theorem sx_le_mx {a b c : Int} (h : c ≤ a ∨ c ≤ b) : c ≤ sx_mx a b := by
  unfold sx_mx
  cases hb : sx_le a b with
  | true =>
    have := sx_le_iff.mp hb
    simp only [cond_true]
    omega
  | false =>
    have : ¬ a ≤ b := fun z => by rw [sx_le_iff.mpr z] at hb; cases hb
    simp only [cond_false]
    omega
theorem sx_le_mn {a b c : Int} (h1 : c ≤ a) (h2 : c ≤ b) : c ≤ sx_mn a b := by
  unfold sx_mn
  cases sx_le a b <;> assumption
theorem sx_mn_le {a b c : Int} (h : a ≤ c ∨ b ≤ c) : sx_mn a b ≤ c := by
  unfold sx_mn
  cases hb : sx_le a b with
  | true =>
    have := sx_le_iff.mp hb
    simp only [cond_true]
    omega
  | false =>
    have : ¬ a ≤ b := fun z => by rw [sx_le_iff.mpr z] at hb; cases hb
    simp only [cond_false]
    omega
/-- nothing of the memory changes, numbers and rows only grow -/
def sx_kp (D D' : sx_D) : Prop := D'.1 = D.1 ∧ D'.2.1 = D.2.1 ∧ D.2.2.2.2.2.1 ≤ D'.2.2.2.2.2.1 ∧ D'.2.2.2.2.2.2 = D.2.2.2.2.2.2
/-- not even numbers -/
def sx_kq (D D' : sx_D) : Prop := D'.1 = D.1 ∧ D'.2.1 = D.2.1 ∧ D'.2.2.2.2.2.1 = D.2.2.2.2.2.1 ∧ D'.2.2.2.2.2.2 = D.2.2.2.2.2.2
theorem sx_kq.rf : sx_kq D D := ⟨rfl, rfl, rfl, rfl⟩
theorem sx_kq.tr {D'' : sx_D} (h : sx_kq D D') (h2 : sx_kq D' D'') : sx_kq D D'' := ⟨h2.1.trans h.1, h2.2.1.trans h.2.1, h2.2.2.1.trans h.2.2.1, h2.2.2.2.trans h.2.2.2⟩
theorem sx_kq.kp (h : sx_kq D D') : sx_kp D D' := ⟨h.1, h.2.1, Nat.le_of_eq h.2.2.1.symm, h.2.2.2⟩
theorem sx_kp.tr {D'' : sx_D} (h : sx_kp D D') (h2 : sx_kp D' D'') : sx_kp D D'' := ⟨h2.1.trans h.1, h2.2.1.trans h.2.1, Nat.le_trans h.2.2.1 h2.2.2.1, h2.2.2.2.trans h.2.2.2⟩
theorem sx_prp1_kq {e : sx_E} {p : Nat × Int} : sx_kq D (sx_prp1 P e p D) := by
  unfold sx_prp1
  split
  · next b hb =>
    split
    · next r hr =>
      cases sx_le 1 p.2 with
      | true => cases sx_le (-(r / p.2)) b.1 <;> exact ⟨rfl, rfl, rfl, rfl⟩
      | false =>
        cases sx_le p.2 (-1) with
        | true => cases sx_le b.2 (r / (-p.2)) <;> exact ⟨rfl, rfl, rfl, rfl⟩
        | false => exact ⟨rfl, rfl, rfl, rfl⟩
    · exact ⟨rfl, rfl, rfl, rfl⟩
  · exact ⟨rfl, rfl, rfl, rfl⟩
theorem sx_prp_kq {e : sx_E} : ∀ {l : sx_T} {D : sx_D}, sx_kq D (sx_prp P e l D)
  | [], _ => sx_kq.rf
  | _ :: l, _ => sx_kq.tr sx_prp1_kq (sx_prp_kq (l := l))
theorem sx_prp1_ok {e : sx_E} {p : Nat × Int} (h : sx_d P TG σ φ D) (he : 0 ≤ sx_ev σ e) : sx_d P TG σ φ (sx_prp1 P e p D) := by
  unfold sx_prp1
  split
  · next b hb =>
    have hb2 := sx_bd_ok h.1 h.2.2.1 hb
    split
    · next r hr =>
      have h1 := sx_ub_ok h.1 h.2.2.1 hr
      rw [sx_ev_ad] at h1
      have e1 : sx_ev σ (0, [(p.1, -p.2)]) = 0 + (-p.2 * σ p.1 + 0) := rfl
      rw [e1] at h1
      cases h2 : sx_le 1 p.2 with
      | true =>
        have e2 := sx_le_iff.mp h2
        have h4 : -σ p.1 ≤ r / p.2 := by
          rw [Int.le_ediv_iff_mul_le (by omega), Int.neg_mul, Int.mul_comm]
          rw [Int.neg_mul] at h1
          omega
        cases sx_le (-(r / p.2)) b.1 with
        | true => exact h
        | false => exact sx_dr_B h (p := (-(r / p.2), b.2)) ⟨by show -(r / p.2) ≤ σ p.1; omega, hb2.2⟩
      | false =>
        cases h3 : sx_le p.2 (-1) with
        | true =>
          have e2 := sx_le_iff.mp h3
          have h4 : σ p.1 ≤ r / (-p.2) := by
            rw [Int.le_ediv_iff_mul_le (by omega), Int.mul_comm]
            omega
          cases sx_le b.2 (r / (-p.2)) with
          | true => exact h
          | false => exact sx_dr_B h (p := (b.1, r / (-p.2))) ⟨hb2.1, by show σ p.1 ≤ r / (-p.2); omega⟩
        | false => exact h
    · exact h
  · exact h
theorem sx_prp_ok {e : sx_E} (he : 0 ≤ sx_ev σ e) : ∀ {l : sx_T} {D : sx_D}, sx_d P TG σ φ D → sx_d P TG σ φ (sx_prp P e l D)
  | [], _, h => h
  | _ :: l, _, h => sx_prp_ok he (l := l) (sx_prp1_ok h he)
theorem sx_add_kq {e : sx_E} : sx_kq D (sx_add P e D) := by
  unfold sx_add
  split
  · unfold sx_addB
    split
    · next x c he p hp =>
      cases x.2 == 1 with
      | true => exact ⟨rfl, rfl, rfl, rfl⟩
      | false =>
        cases x.2 == -1 with
        | true => exact ⟨rfl, rfl, rfl, rfl⟩
        | false => exact ⟨rfl, rfl, rfl, rfl⟩
    · exact ⟨rfl, rfl, rfl, rfl⟩
  · exact sx_kq.tr (⟨rfl, rfl, rfl, rfl⟩ : sx_kq D (sx_wL D _)) sx_prp_kq
theorem sx_add_ok (h : sx_d P TG σ φ D) {e : sx_E} (he : 0 ≤ sx_ev σ e) : sx_d P TG σ φ (sx_add P e D) := by
  unfold sx_add
  split
  · next x hx =>
    have he2 : sx_ev σ e = e.1 + (x.2 * σ x.1 + 0) := by
      show e.1 + sx_et σ e.2 = _
      rw [hx]
      rfl
    unfold sx_addB
    split
    · next p hp =>
      have hb := sx_bd_ok h.1 h.2.2.1 hp
      cases h1 : x.2 == 1 with
      | true =>
        have e1 : x.2 = 1 := eq_of_beq h1
        rw [e1] at he2
        exact sx_dr_B h (p := (sx_mx p.1 (-e.1), p.2)) ⟨sx_mx_le hb.1 (by omega), hb.2⟩
      | false =>
        simp only [cond_false]
        cases h2 : x.2 == -1 with
        | true =>
          have e1 : x.2 = -1 := eq_of_beq h2
          rw [e1] at he2
          exact sx_dr_B h (p := (p.1, sx_mn p.2 e.1)) ⟨hb.1, sx_le_mn hb.2 (by omega)⟩
        | false => exact sx_dr_L h he
    · exact sx_dr_L h he
  · exact sx_prp_ok he (sx_dr_L h he)
def sx_cp (o : Nat) (z : Int) : Prop := match o with
  | 0 => z = 0
  | 1 => ¬ z = 0
  | 2 => z < 0
  | 3 => 0 ≤ z
  | 4 => 0 < z
  | _ => z ≤ 0
theorem sx_cp_opp {o : Nat} {z : Int} (h : ¬ sx_cp o z) : sx_cp (sx_opp o) z := by
  unfold sx_cp at h
  unfold sx_opp
  split at h
  · exact h
  · exact Classical.not_not.mp h
  · show 0 ≤ z
    omega
  · show z < 0
    omega
  · show z ≤ 0
    omega
  · next h0 h1 h2 h3 h4 =>
    split
    · exact absurd rfl h0
    · exact absurd rfl h1
    · exact absurd rfl h2
    · exact absurd rfl h3
    · exact absurd rfl h4
    · show 0 < z
      omega
theorem sx_ne_ok (h : sx_d P TG σ φ D) {d : sx_E} (hn : sx_ne D.2.2.2.2.1 d = true) : ¬ sx_ev σ d = 0 := by
  obtain ⟨f, h1, h2⟩ := sx_any_ok hn
  have h3 := h.2.2.2.2 f h1
  unfold sx_ne1 at h2
  split at h2
  · next e =>
    have h3 : ¬ sx_ev σ e = 0 := h3
    rw [Bool.or_eq_true] at h2
    rcases h2 with h2 | h2
    · rw [← sx_eq_eq h2]
      exact h3
    · rw [sx_eq_eq h2, sx_ev_ng] at h3
      omega
  · cases h2
theorem sx_asm_kq {o : Nat} {d : sx_E} (h : sx_asm P o d D = some D') : sx_kq D D' := by
  unfold sx_asm at h
  split at h
  · cases hb : (sx_ge P D (sx_pk d (-1)) || (sx_ge P D (sx_pk (sx_ng d) (-1)) || sx_ne D.2.2.2.2.1 d)) with
    | true => rw [hb] at h; cases h
    | false => rw [hb] at h; cases h; exact sx_add_kq.tr sx_add_kq
  · cases hb : sx_ge P D d with
    | true =>
      rw [hb] at h
      cases hb2 : sx_ge P D (sx_ng d) with
      | true => rw [hb2] at h; cases h
      | false => rw [hb2] at h; cases h; exact sx_add_kq
    | false =>
      rw [hb] at h
      cases hb2 : sx_ge P D (sx_ng d) with
      | true => rw [hb2] at h; cases h; exact sx_add_kq
      | false => rw [hb2] at h; cases h; exact ⟨rfl, rfl, rfl, rfl⟩
  · cases hb : sx_ge P D d with
    | true => rw [hb] at h; cases h
    | false => rw [hb] at h; cases h; exact sx_add_kq
  · cases hb : sx_ge P D (sx_pk (sx_ng d) (-1)) with
    | true => rw [hb] at h; cases h
    | false => rw [hb] at h; cases h; exact sx_add_kq
  · cases hb : sx_ge P D (sx_ng d) with
    | true => rw [hb] at h; cases h
    | false => rw [hb] at h; cases h; exact sx_add_kq
  · cases hb : sx_ge P D (sx_pk d (-1)) with
    | true => rw [hb] at h; cases h
    | false => rw [hb] at h; cases h; exact sx_add_kq
/-- what holds can be gone on with -/
theorem sx_asm_some {o : Nat} {d : sx_E} (h : sx_d P TG σ φ D) (hc : sx_cp o (sx_ev σ d)) : ∃ D', sx_asm P o d D = some D' := by
  unfold sx_asm
  unfold sx_cp at hc
  split at hc
  · cases hb : (sx_ge P D (sx_pk d (-1)) || (sx_ge P D (sx_pk (sx_ng d) (-1)) || sx_ne D.2.2.2.2.1 d)) with
    | true =>
      rw [Bool.or_eq_true, Bool.or_eq_true] at hb
      rcases hb with hb | hb | hb
      · have := sx_ge_ok h hb
        rw [sx_ev_pk] at this
        omega
      · have := sx_ge_ok h hb
        rw [sx_ev_pk, sx_ev_ng] at this
        omega
      · exact absurd hc (sx_ne_ok h hb)
    | false => exact ⟨_, rfl⟩
  · cases hb : sx_ge P D d with
    | true =>
      cases hb2 : sx_ge P D (sx_ng d) with
      | true =>
        have h1 := sx_ge_ok h hb
        have h2 := sx_ge_ok h hb2
        rw [sx_ev_ng] at h2
        omega
      | false => exact ⟨_, rfl⟩
    | false =>
      cases hb2 : sx_ge P D (sx_ng d) with
      | true => exact ⟨_, rfl⟩
      | false => exact ⟨_, rfl⟩
  · cases hb : sx_ge P D d with
    | true =>
      have h1 := sx_ge_ok h hb
      omega
    | false => exact ⟨_, rfl⟩
  · cases hb : sx_ge P D (sx_pk (sx_ng d) (-1)) with
    | true =>
      have h1 := sx_ge_ok h hb
      rw [sx_ev_pk, sx_ev_ng] at h1
      omega
    | false => exact ⟨_, rfl⟩
  · cases hb : sx_ge P D (sx_ng d) with
    | true =>
      have h1 := sx_ge_ok h hb
      rw [sx_ev_ng] at h1
      omega
    | false => exact ⟨_, rfl⟩
  · next h0 h1 h2 h3 h4 =>
    split
    · exact absurd rfl h0
    · exact absurd rfl h1
    · exact absurd rfl h2
    · exact absurd rfl h3
    · exact absurd rfl h4
    · cases hb : sx_ge P D (sx_pk d (-1)) with
      | true =>
        have h1 := sx_ge_ok h hb
        rw [sx_ev_pk] at h1
        omega
      | false => exact ⟨_, rfl⟩
theorem sx_asm_ok {o : Nat} {d : sx_E} (h : sx_d P TG σ φ D) (ha : sx_asm P o d D = some D') (hc : sx_cp o (sx_ev σ d)) : sx_d P TG σ φ D' := by
  unfold sx_asm at ha
  unfold sx_cp at hc
  split at hc
  · cases hb : (sx_ge P D (sx_pk d (-1)) || (sx_ge P D (sx_pk (sx_ng d) (-1)) || sx_ne D.2.2.2.2.1 d)) with
    | true => simp only [hb, cond_true] at ha; cases ha
    | false =>
      simp only [hb, cond_false] at ha
      cases ha
      exact sx_add_ok (sx_add_ok h (by omega)) (by rw [sx_ev_ng]; omega)
  · cases hb : sx_ge P D d with
    | true =>
      have h1 := sx_ge_ok h hb
      cases hb2 : sx_ge P D (sx_ng d) with
      | true => simp only [hb, hb2, cond_true] at ha; cases ha
      | false =>
        simp only [hb, hb2, cond_true, cond_false] at ha
        cases ha
        exact sx_add_ok h (by rw [sx_ev_pk]; omega)
    | false =>
      cases hb2 : sx_ge P D (sx_ng d) with
      | true =>
        have h2 := sx_ge_ok h hb2
        rw [sx_ev_ng] at h2
        simp only [hb, hb2, cond_true, cond_false] at ha
        cases ha
        exact sx_add_ok h (by rw [sx_ev_pk, sx_ev_ng]; omega)
      | false =>
        simp only [hb, hb2, cond_false] at ha
        cases ha
        exact sx_dr_F1 h hc
  · cases hb : sx_ge P D d with
    | true => simp only [hb, cond_true] at ha; cases ha
    | false =>
      simp only [hb, cond_false] at ha
      cases ha
      exact sx_add_ok h (by rw [sx_ev_pk, sx_ev_ng]; omega)
  · cases hb : sx_ge P D (sx_pk (sx_ng d) (-1)) with
    | true => simp only [hb, cond_true] at ha; cases ha
    | false =>
      simp only [hb, cond_false] at ha
      cases ha
      exact sx_add_ok h hc
  · cases hb : sx_ge P D (sx_ng d) with
    | true => simp only [hb, cond_true] at ha; cases ha
    | false =>
      simp only [hb, cond_false] at ha
      cases ha
      exact sx_add_ok h (by rw [sx_ev_pk]; omega)
  · next h0 h1 h2 h3 h4 =>
    split at ha
    · exact absurd rfl h0
    · exact absurd rfl h1
    · exact absurd rfl h2
    · exact absurd rfl h3
    · exact absurd rfl h4
    · cases hb : sx_ge P D (sx_pk d (-1)) with
      | true => simp only [hb, cond_true] at ha; cases ha
      | false =>
        simp only [hb, cond_false] at ha
        cases ha
        exact sx_add_ok h (by rw [sx_ev_ng]; omega)
end SXF
