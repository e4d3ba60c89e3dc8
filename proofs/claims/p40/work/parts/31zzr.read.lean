/-! TEXTS: what is said of tokens, proved -/
theorem tr_blt {i n : Nat} (h : i < n) : Nat.blt i n = true := Nat.ble_eq_true_of_le h
theorem tr_bltf {i n : Nat} (h : n ≤ i) : Nat.blt i n = false := by
  cases hb : Nat.blt i n with
  | false => rfl
  | true =>
    have := Nat.le_of_ble_eq_true hb
    omega
theorem tr_blef {n f : Nat} (h : f < n) : Nat.ble n f = false := by
  cases hb : Nat.ble n f with
  | false => rfl
  | true =>
    have := Nat.le_of_ble_eq_true hb
    omega
theorem tr_is1 {x : Int} : tr_is 1 x = true ↔ 97 ≤ x ∧ x ≤ 122 := decide_eq_true_iff
theorem tr_is2 {x : Int} : tr_is 2 x = true ↔ 48 ≤ x ∧ x ≤ 57 := decide_eq_true_iff
theorem tr_is12 {x : Int} (h : tr_is 1 x = true) : tr_is 2 x = false := by
  cases h2 : tr_is 2 x with
  | false => rfl
  | true =>
    have h1 := tr_is1.mp h
    have h3 := tr_is2.mp h2
    omega
theorem tr_sg_iff {x : Int} : tr_sg x = true ↔ (x = 40 ∨ x = 41 ∨ x = 59 ∨ x = 43 ∨ x = 45 ∨ x = 42 ∨ x = 60 ∨ x = 61) := decide_eq_true_iff
theorem tr_kd_0 {A : Nat → Int} {n f : Nat} (h : n ≤ f) : tr_kd A n f = 0 ∧ tr_ut A n f = f + 1 ∧ tr_rt A n f = 0 ∧ tr_ru A n f = f := by
  unfold tr_kd tr_ut tr_rt tr_ru
  rw [Nat.ble_eq_true_of_le h]
  exact ⟨rfl, rfl, rfl, rfl⟩
theorem tr_kd_1 {A : Nat → Int} {n f : Nat} (h : f < n) (h1 : tr_is 1 (A f) = true) : tr_kd A n f = tr_fw A f (tr_e 1 A n f) 13 0 ∧ tr_ut A n f = tr_e 1 A n f ∧ tr_rt A n f = 1 ∧ tr_ru A n f = tr_e 1 A n f := by
  unfold tr_kd tr_rt tr_ru tr_ut
  rw [tr_blef h, tr_is12 h1, h1]
  exact ⟨rfl, rfl, rfl, rfl⟩
theorem tr_kd_2 {A : Nat → Int} {n f : Nat} (h : f < n) (h2 : tr_is 2 (A f) = true) : tr_kd A n f = (bif Nat.ble (tr_e 2 A n f) (f + 4) then 2 else 1) ∧ tr_ut A n f = tr_e 2 A n f ∧ tr_rt A n f = (bif Nat.ble (tr_e 2 A n f) (f + 4) then 2 else -1) ∧ tr_ru A n f = tr_e 2 A n f := by
  have h1 : tr_is 1 (A f) = false := by
    cases h1 : tr_is 1 (A f) with
    | false => rfl
    | true => rw [tr_is12 h1] at h2; cases h2
  unfold tr_kd tr_rt tr_ru tr_ut
  rw [tr_blef h, h2, h1]
  exact ⟨rfl, rfl, rfl, rfl⟩
theorem tr_kd_3 {A : Nat → Int} {n f : Nat} (h : f < n) (h1 : tr_is 1 (A f) = false) (h2 : tr_is 2 (A f) = false) : tr_kd A n f = (bif tr_sg (A f) then A f else 1) ∧ tr_ut A n f = f + 1 ∧ tr_rt A n f = (bif tr_sg (A f) then A f else -1) ∧ tr_ru A n f = f + 1 := by
  unfold tr_kd tr_rt tr_ru tr_ut
  rw [tr_blef h, h2, h1]
  exact ⟨rfl, rfl, rfl, rfl⟩
/-- a run is not empty -/
theorem tr_e_lt {p : Int} {A : Nat → Int} {n f : Nat} (h : f < n) (h1 : tr_is p (A f) = true) : f < tr_e p A n f := by
  rw [tr_e_go h h1]
  exact tr_e_le
theorem tr_fw_rg {A : Nat → Int} {f u : Nat} : ∀ {m w : Nat}, tr_fw A f u m w = 1 ∨ (256 + (w : Int) ≤ tr_fw A f u m w ∧ tr_fw A f u m w < 256 + w + m)
  | 0, _ => Or.inl rfl
  | m + 1, w => by
    unfold tr_fw
    cases tr_wd A f u w with
    | true =>
      show (256 + (w : Int) = 1) ∨ (256 + (w : Int) ≤ 256 + (w : Int) ∧ 256 + (w : Int) < 256 + w + ((m + 1 : Nat) : Int))
      omega
    | false =>
      rcases tr_fw_rg (A := A) (f := f) (u := u) (m := m) (w := w + 1) with h | h
      · exact Or.inl h
      · refine Or.inr ?_
        show 256 + (w : Int) ≤ tr_fw A f u m (w + 1) ∧ tr_fw A f u m (w + 1) < 256 + w + ((m + 1 : Nat) : Int)
        omega
/-! words as numbers: 27 letters' places -/
def tr_vr : List Int → Int
  | [] => 0
  | c :: r => 27 * tr_vr r + (c - 96)
def tr_isw (w : Nat) : Int := tr_vr (tr_wn w)
theorem tr_fn21 {v : Int} (h0 : 0 ≤ v) (h1 : v ≤ 150094635296999120) : sx_fn 21 27 v = 27 * v := by
  have e1 : (Int64.ofInt 27).toInt = 27 := Int64.toInt_ofInt_of_le (by omega) (by omega)
  have e2 : (Int64.ofInt v).toInt = v := Int64.toInt_ofInt_of_le (by omega) (by omega)
  show (Int64.ofInt 27 * Int64.ofInt v).toInt = _
  rw [sn_mull (by rw [e1, e2]; omega) (by rw [e1, e2]; omega), e1, e2]
theorem tr_fn19 {v x : Int} (h0 : 0 ≤ v) (h1 : v ≤ 4052555153018976267) (h2 : 0 ≤ x) (h3 : x ≤ 255) : sx_fn 19 v x = v + x := by
  have e1 : (Int64.ofInt v).toInt = v := Int64.toInt_ofInt_of_le (by omega) (by omega)
  have e2 : (Int64.ofInt x).toInt = x := Int64.toInt_ofInt_of_le (by omega) (by omega)
  show (Int64.ofInt v + Int64.ofInt x).toInt = _
  rw [sn_addl (by rw [e1, e2]; omega) (by rw [e1, e2]; omega), e1, e2]
theorem tr_fn20 {v : Int} (h0 : 0 ≤ v) (h1 : v ≤ 4052555153018977267) : sx_fn 20 v 96 = v - 96 := by
  have e1 : (Int64.ofInt v).toInt = v := Int64.toInt_ofInt_of_le (by omega) (by omega)
  have e2 : (Int64.ofInt 96).toInt = 96 := Int64.toInt_ofInt_of_le (by omega) (by omega)
  show (Int64.ofInt v - Int64.ofInt 96).toInt = _
  rw [sn_subl (by rw [e1, e2]; omega) (by rw [e1, e2]; omega), e1, e2]
theorem tr_p27 : ∀ {L : Nat}, L ≤ 12 → (27 : Int) ^ L ≤ 150094635296999121
  | L, h => by
    have : ∀ k : Nat, k < 13 → (27 : Int) ^ k ≤ 150094635296999121 := by decide +kernel
    exact this L (by omega)
/-- no letter's number runs over -/
theorem tr_wd_st {A : Nat → Int} {f : Nat} : ∀ {L : Nat}, L ≤ 12 → (∀ i, i < L → 97 ≤ A (f + i) ∧ A (f + i) ≤ 122) → 0 ≤ tg_wd A f L ∧ tg_wd A f L < 27 ^ L ∧ ∀ L', L = L' + 1 → tg_wd A f L = 27 * tg_wd A f L' + (A (f + L') - 96)
  | 0, _, _ => ⟨Int.le_refl _, by
    show (0 : Int) < 27 ^ 0
    decide, fun L' h => by omega⟩
  | L + 1, h, ha => by
    obtain ⟨i1, i2, -⟩ := tr_wd_st (A := A) (f := f) (L := L) (by omega) (fun i hi => ha i (by omega))
    have hL := ha L (by omega)
    have hp : (27 : Int) ^ L ≤ 150094635296999121 := tr_p27 (by omega)
    have e : tg_wd A f (L + 1) = 27 * tg_wd A f L + (A (f + L) - 96) := by
      show sx_fn 20 (sx_fn 19 (sx_fn 21 27 (tg_wd A f L)) (A (f + L))) 96 = _
      rw [tr_fn21 i1 (by omega), tr_fn19 (by omega) (by omega) (by omega) (by omega), tr_fn20 (by omega) (by omega)]
      omega
    have e2 : (27 : Int) ^ (L + 1) = 27 ^ L * 27 := Int.pow_succ ..
    refine ⟨by omega, by rw [e, e2]; omega, fun L' h' => ?_⟩
    have e3 : L' = L := by omega
    subst e3
    exact e
/-- a word's number is its own -/
theorem tr_inj {A : Nat → Int} {f : Nat} : ∀ {r : List Int} {L : Nat}, L ≤ 12 → (∀ i, i < L → 97 ≤ A (f + i) ∧ A (f + i) ≤ 122) → (∀ c ∈ r, 97 ≤ c ∧ c ≤ 122) → (tg_wd A f L = tr_vr r ↔ (Nat.beq L r.length && tr_mt A f r) = true) ∧ 0 ≤ tr_vr r
  | [], 0, _, _, _ => ⟨⟨fun _ => rfl, fun _ => rfl⟩, Int.le_refl _⟩
  | [], L + 1, h, ha, _ => by
    have hst := tr_wd_st h ha
    have h0 := tr_wd_st (A := A) (f := f) (L := L) (by omega) (fun i hi => ha i (by omega))
    have hL := ha L (by omega)
    have e := hst.2.2 L rfl
    refine ⟨⟨fun z => ?_, fun z => by
      have z : false = true := z
      cases z⟩, Int.le_refl _⟩
    have z : tg_wd A f (L + 1) = 0 := z
    omega
  | c :: r, 0, h, ha, hc => by
    have ih := (tr_inj (A := A) (f := f) (r := r) (L := 0) h ha (fun x hx => hc x (List.mem_cons_of_mem _ hx))).2
    have h1 := hc c List.mem_cons_self
    refine ⟨⟨fun z => ?_, fun z => by
      have z : false = true := z
      cases z⟩, ?_⟩
    · have z : (0 : Int) = 27 * tr_vr r + (c - 96) := z
      omega
    · show 0 ≤ 27 * tr_vr r + (c - 96)
      omega
  | c :: r, L + 1, h, ha, hc => by
    have hst := tr_wd_st h ha
    have hL := ha L (by omega)
    have e := hst.2.2 L rfl
    obtain ⟨i1, i2⟩ := tr_inj (A := A) (f := f) (r := r) (L := L) (by omega) (fun i hi => ha i (by omega)) (fun x hx => hc x (List.mem_cons_of_mem _ hx))
    have h1 := hc c List.mem_cons_self
    refine ⟨⟨fun z => ?_, fun z => ?_⟩, ?_⟩
    · have z : tg_wd A f (L + 1) = 27 * tr_vr r + (c - 96) := z
      have z1 : tg_wd A f L = tr_vr r := by omega
      have z2 := i1.mp z1
      rw [Bool.and_eq_true] at z2
      have z3 := Nat.eq_of_beq_eq_true z2.1
      rw [Bool.and_eq_true]
      refine ⟨?_, ?_⟩
      · show Nat.beq (L + 1) (r.length + 1) = true
        rw [z3]
        exact Nat.beq_refl _
      · show (decide (A (f + r.length) = c) && tr_mt A f r) = true
        rw [Bool.and_eq_true, decide_eq_true_eq, ← z3]
        refine ⟨by omega, ?_⟩
        exact z2.2
    · rw [Bool.and_eq_true] at z
      have z1 : L + 1 = r.length + 1 := Nat.eq_of_beq_eq_true z.1
      have z2 : (decide (A (f + r.length) = c) && tr_mt A f r) = true := z.2
      rw [Bool.and_eq_true, decide_eq_true_eq] at z2
      have z3 : L = r.length := by omega
      have z4 : tg_wd A f L = tr_vr r := i1.mpr (by rw [Bool.and_eq_true]; exact ⟨by rw [z3]; exact Nat.beq_refl _, z2.2⟩)
      show tg_wd A f (L + 1) = 27 * tr_vr r + (c - 96)
      rw [← z3] at z2
      rw [e, z4, z2.1]
    · show 0 ≤ 27 * tr_vr r + (c - 96)
      omega
theorem tr_wn_lt : ∀ w : Nat, w < 13 → (∀ c ∈ tr_wn w, 97 ≤ c ∧ c ≤ 122) ∧ (tr_wn w).length ≤ 12 := by decide +kernel
/-- a word stands there if its number does -/
theorem tr_wd_iff {A : Nat → Int} {f u w : Nat} (hw : w < 13) (hu : f ≤ u) (h12 : u ≤ f + 12) (ha : ∀ j, f ≤ j → j < u → tr_is 1 (A j) = true) : tr_wd A f u w = true ↔ tg_wd A f (u - f) = tr_isw w := by
  have h := (tr_inj (A := A) (f := f) (r := tr_wn w) (L := u - f) (by omega) (fun i hi => tr_is1.mp (ha _ (by omega) (by omega))) (tr_wn_lt w hw).1).1
  unfold tr_isw
  rw [h]
  unfold tr_wd
  rw [Bool.and_eq_true, Bool.and_eq_true]
  constructor
  · intro z
    have z1 := Nat.eq_of_beq_eq_true z.1
    exact ⟨by rw [z1, Nat.add_sub_cancel_left]; exact Nat.beq_refl _, z.2⟩
  · intro z
    have z1 := Nat.eq_of_beq_eq_true z.1
    exact ⟨by rw [← z1, Nat.add_sub_cancel' hu]; exact Nat.beq_refl _, z.2⟩
theorem tr_wd_12 {A : Nat → Int} {f u w : Nat} (hw : w < 13) (h12 : f + 12 < u) : tr_wd A f u w = false := by
  cases h : tr_wd A f u w with
  | false => rfl
  | true =>
    unfold tr_wd at h
    rw [Bool.and_eq_true] at h
    have h1 := Nat.eq_of_beq_eq_true h.1
    have h2 := (tr_wn_lt w hw).2
    omega
theorem tr_isw_ne : ∀ w : Nat, w < 13 → ∀ v : Nat, v < 13 → tr_isw w = tr_isw v → w = v := by decide +kernel
/-- which word is the first: the one that stands there -/
theorem tr_fw_is {A : Nat → Int} {f u v : Nat} (hv : tr_wd A f u v = true) (hu : ∀ w, w < 13 → tr_wd A f u w = true → w = v) : ∀ {m w : Nat}, w ≤ v → v < w + m → w + m ≤ 13 → tr_fw A f u m w = 256 + (v : Int)
  | 0, w, h1, h2, _ => by omega
  | m + 1, w, h1, h2, h3 => by
    unfold tr_fw
    cases hb : tr_wd A f u w with
    | true =>
      have := hu w (by omega) hb
      rw [this]
      rfl
    | false =>
      show tr_fw A f u m (w + 1) = _
      by_cases h4 : w = v
      · rw [h4, hv] at hb
        cases hb
      · exact tr_fw_is hv hu (by omega) (by omega) (by omega)
theorem tr_fw_no {A : Nat → Int} {f u v : Nat} (hv : tr_wd A f u v = false) : ∀ {m w : Nat}, ¬ tr_fw A f u m w = 256 + (v : Int)
  | 0, w => by
    show ¬ (1 : Int) = 256 + (v : Int)
    omega
  | m + 1, w => by
    unfold tr_fw
    cases hb : tr_wd A f u w with
    | true =>
      show ¬ 256 + (w : Int) = 256 + (v : Int)
      intro z
      have z : w = v := by omega
      rw [z, hv] at hb
      cases hb
    | false => exact tr_fw_no hv (m := m) (w := w + 1)
/-! bytes that are alike -/
theorem tr_al_is {A B : Nat → Int} (h : tr_al A B) {p : Int} (i : Nat) : tr_is p (A i) = tr_is p (B i) := by
  rcases h i with h1 | ⟨h1, h2⟩
  · rw [h1]
  · unfold tr_is
    cases (p == 0) with
    | true =>
      show decide (A i = 32 ∨ A i = 10) = decide (B i = 32 ∨ B i = 10)
      exact decide_eq_decide.mpr (by omega)
    | false =>
      cases (p == 1) with
      | true =>
        show decide (97 ≤ A i ∧ A i ≤ 122) = decide (97 ≤ B i ∧ B i ≤ 122)
        exact decide_eq_decide.mpr (by omega)
      | false =>
        show decide (48 ≤ A i ∧ A i ≤ 57) = decide (48 ≤ B i ∧ B i ≤ 57)
        exact decide_eq_decide.mpr (by omega)
theorem tr_al_e {A B : Nat → Int} (h : tr_al A B) {p : Int} {n i : Nat} : tr_e p A n i = tr_e p B n i := tr_en_cg (fun i => tr_al_is h i)
theorem tr_al_mt {A B : Nat → Int} (h : tr_al A B) {f : Nat} : ∀ {r : List Int}, (∀ c ∈ r, 97 ≤ c ∧ c ≤ 122) → tr_mt A f r = tr_mt B f r
  | [], _ => rfl
  | c :: r, hc => by
    show (decide (A (f + r.length) = c) && tr_mt A f r) = (decide (B (f + r.length) = c) && tr_mt B f r)
    rw [tr_al_mt h (fun x hx => hc x (List.mem_cons_of_mem _ hx))]
    have h1 := hc c List.mem_cons_self
    have h2 : decide (A (f + r.length) = c) = decide (B (f + r.length) = c) := decide_eq_decide.mpr (by
      rcases h (f + r.length) with h3 | ⟨h3, h4⟩
      · rw [h3]
      · omega)
    rw [h2]
theorem tr_al_fw {A B : Nat → Int} (h : tr_al A B) {f u : Nat} : ∀ {m w : Nat}, w + m ≤ 13 → tr_fw A f u m w = tr_fw B f u m w
  | 0, _, _ => rfl
  | m + 1, w, hm => by
    unfold tr_fw
    have h1 : tr_wd A f u w = tr_wd B f u w := by
      unfold tr_wd
      rw [tr_al_mt h (tr_wn_lt w (by omega)).1]
    rw [h1, tr_al_fw h (m := m) (w := w + 1) (by omega)]
theorem tr_al_kd {A B : Nat → Int} (h : tr_al A B) {n : Nat} : tr_kd A n = tr_kd B n := by
  funext f
  unfold tr_kd
  rw [tr_al_is h, tr_al_is h, tr_al_e h, tr_al_e h, tr_al_fw h (by omega)]
  rcases h f with h1 | ⟨h1, h2⟩
  · rw [h1]
  · have e1 : tr_sg (A f) = false := by
      cases hs : tr_sg (A f) with
      | false => rfl
      | true =>
        have := tr_sg_iff.mp hs
        omega
    have e2 : tr_sg (B f) = false := by
      cases hs : tr_sg (B f) with
      | false => rfl
      | true =>
        have := tr_sg_iff.mp hs
        omega
    rw [e1, e2]
    rfl
theorem tr_al_nx {A B : Nat → Int} (h : tr_al A B) {n : Nat} : tr_nx A n = tr_nx B n := by
  funext f
  unfold tr_nx tr_ut
  rw [tr_al_is h, tr_al_is h, tr_al_e h, tr_al_e h, tr_al_e h]
theorem tr_fa_al {A B : Nat → Int} (h : tr_al A B) {n : Nat} {x y : Int} (hx : tr_fa A n x) (hy : tr_fa B n y) : x = y := by
  obtain ⟨m, r, a, h1, h2⟩ := hx
  obtain ⟨m', r', a', h3, h4⟩ := hy
  rw [tr_al_kd h, tr_al_nx h, tr_al_e h] at h1
  obtain ⟨e1, e2⟩ := tr_pf_un h1 (by omega) h3 (by omega)
  subst e1
  subst e2
  omega
theorem tr_byte {x : Int32} : (x &&& (255 : Int32)).toInt = x.toInt.bmod (2 ^ 8) ∨ (x.toInt.bmod (2 ^ 8) < 0 ∧ 128 ≤ (x &&& (255 : Int32)).toInt) := by
  have h1 : (x &&& (255 : Int32)).toBitVec.toNat = x.toBitVec.toNat % 256 := by
    rw [Int32.toBitVec_and, BitVec.toNat_and]
    show x.toBitVec.toNat &&& (2 ^ 8 - 1) = x.toBitVec.toNat % 2 ^ 8
    exact Nat.and_two_pow_sub_one_eq_mod _ _
  have h2 : (x &&& (255 : Int32)).toBitVec.toInt = (x &&& (255 : Int32)).toInt := rfl
  have h3 : x.toBitVec.toInt = x.toInt := rfl
  rw [BitVec.toInt_eq_toNat_cond] at h2 h3
  have h4 := x.toBitVec.isLt
  have h5 : x.toInt.bmod (2 ^ 8) = x.toInt.bmod 256 := rfl
  rw [h5, Int.bmod_def]
  split at h2 <;> split at h3 <;> split <;> omega
/-! reading -/
theorem tr_nj0 {w j : Int} (h7 : ¬ w = 7) (h12 : ¬ w = 12) : tr_nj w j = 0 := if_neg (by omega)
theorem tr_nj7 {j : Int} : tr_nj 7 j = j := if_pos (Or.inl rfl)
theorem tr_b0 {a : Nat} {g : Nat → Int × Nat} : tr_b (0, a) g = (0, a) := by
  unfold tr_b
  exact if_neg (by
    show ¬ (0 : Int) = 1
    omega)
theorem tr_b1 {a : Nat} {g : Nat → Int × Nat} : tr_b (1, a) g = g a := by
  unfold tr_b
  exact if_pos rfl
theorem tr_ps_mk {T : Nat → Int} {nx : Nat → Nat} {w j o : Int} {f a : Nat} {r : Int} (hr : r = 0 ∨ r = 1) {m : Nat} (h : tr_F T nx (tr_pf T nx m) w (tr_nj w j) o f = (r, a)) : tr_ps T nx w j o f r a :=
  ⟨by omega, by omega, hr, m + 1, by
    rw [show ((f : Int)).toNat = f by omega, show ((a : Int)).toNat = a by omega]
    exact h⟩
section SXPR
variable {T : Nat → Int} {nx : Nat → Nat} {w j o : Int} {f : Nat}
theorem tr_ps_one (h : T f = 2 ∨ (256 ≤ T f ∧ T f ≤ 261)) : tr_ps T nx 5 j o f 1 (nx f) := tr_ps_mk (m := 0) (Or.inr rfl) (by
  unfold tr_F
  rw [if_pos rfl, if_pos h])
theorem tr_ps_no (h : ¬ (T f = 2 ∨ (256 ≤ T f ∧ T f ≤ 261))) (h2 : 5 ≤ o ∨ (¬ T f = 40 ∧ ¬ T f = 45)) : tr_ps T nx 5 j o f 0 f := tr_ps_mk (m := 0) (Or.inl rfl) (by
  unfold tr_F
  rw [if_pos rfl, if_neg h]
  by_cases h3 : 5 ≤ o
  · rw [if_pos h3]
  · rw [if_neg h3, if_neg (fun z => by omega), if_neg (fun z => by omega)])
/-- what is known of a part, for a run that is long enough -/
theorem tr_ps_get {w j o : Int} {f : Int} {r f2 : Int} (h : tr_ps T nx w j o f r f2) : ∃ m a b, f = (a : Nat) ∧ f2 = (b : Nat) ∧ tr_pf T nx m w (tr_nj w j) o a = (r, b) :=  by
  obtain ⟨h1, h2, h3, m, h4⟩ := h
  exact ⟨m, f.toNat, f2.toNat, by omega, by omega, h4⟩
theorem tr_ps_par {j' r1 f1 f3 : Int} (ho : o ≤ 4) (h : T f = 40) (h1 : tr_ps T nx 0 j' (o + 1) f1 r1 f3) (hf : f1 = (nx f : Nat)) : (r1 = 0 → tr_ps T nx 5 j o f 0 f3) ∧ (r1 = 1 → T f3.toNat = 41 → tr_ps T nx 5 j o f 1 (nx f3.toNat)) ∧ (r1 = 1 → ¬ T f3.toNat = 41 → tr_ps T nx 5 j o f 0 f3) := by
  obtain ⟨m, a, b, ha, hb, hm⟩ := tr_ps_get h1
  have ea : a = nx f := by omega
  subst ea
  subst hb
  rw [show ((b : Int)).toNat = b by omega]
  rw [tr_nj0 (by omega) (by omega)] at hm
  have hm : tr_pf T nx m 0 0 (o + 1) (nx f) = (r1, b) := hm
  have hF : tr_F T nx (tr_pf T nx m) 5 (tr_nj 5 j) o f = tr_b (r1, b) (fun a => if T a = 41 then (1, nx a) else (0, a)) := by
    unfold tr_F
    rw [if_pos rfl, if_neg (by omega), if_neg (by omega), if_pos h, hm]
  refine ⟨fun e => tr_ps_mk (m := m) (Or.inl rfl) ?_, fun e e2 => tr_ps_mk (m := m) (Or.inr rfl) ?_, fun e e2 => tr_ps_mk (m := m) (Or.inl rfl) ?_⟩
  · rw [hF, e, tr_b0]
  · rw [hF, e, tr_b1]
    exact if_pos e2
  · rw [hF, e, tr_b1]
    exact if_neg e2
theorem tr_ps_min {j' r f1 f2 : Int} (ho : o ≤ 4) (h : T f = 45) (h1 : tr_ps T nx 5 j' (o + 1) f1 r f2) (hf : f1 = (nx f : Nat)) : tr_ps T nx 5 j o f r f2 := by
  have hr := h1.2.2.1
  obtain ⟨m, a, b, ha, hb, hm⟩ := tr_ps_get h1
  have ea : a = nx f := by omega
  subst ea
  subst hb
  rw [tr_nj0 (by omega) (by omega)] at hm
  have hm : tr_pf T nx m 5 0 (o + 1) (nx f) = (r, b) := hm
  refine tr_ps_mk (m := m) hr ?_
  unfold tr_F
  rw [if_pos rfl, if_neg (by omega), if_neg (by omega), if_neg (by omega), if_pos h, hm]
theorem tr_ps_not0 (ho : 5 ≤ o) (h : T f = 268) : tr_ps T nx 2 j o f 0 f := tr_ps_mk (m := 0) (Or.inl rfl) (by
  unfold tr_F
  rw [if_neg (by omega), if_neg (by omega), if_neg (by omega), if_pos ⟨rfl, h⟩, if_pos ho])
theorem tr_ps_not {j' r f1 f2 : Int} (ho : o ≤ 4) (h : T f = 268) (h1 : tr_ps T nx 2 j' (o + 1) f1 r f2) (hf : f1 = (nx f : Nat)) : tr_ps T nx 2 j o f r f2 := by
  have hr := h1.2.2.1
  obtain ⟨m, a, b, ha, hb, hm⟩ := tr_ps_get h1
  have ea : a = nx f := by omega
  subst ea
  subst hb
  rw [tr_nj0 (by omega) (by omega)] at hm
  have hm : tr_pf T nx m 2 0 (o + 1) (nx f) = (r, b) := hm
  refine tr_ps_mk (m := m) hr ?_
  unfold tr_F
  rw [if_neg (by omega), if_neg (by omega), if_neg (by omega), if_pos ⟨rfl, h⟩, if_neg (by omega), hm]
/-- a level: its first part; what is joined to it -/
theorem tr_ps_lev {j' r1 f3 : Int} (hw : 0 ≤ w ∧ w ≤ 4) (hn : ¬ (w = 2 ∧ T f = 268)) (h1 : tr_ps T nx (w + 1) j' o f r1 f3) : (r1 = 0 → tr_ps T nx w j o f 0 f3) ∧ ∀ {j'' r f2 : Int}, r1 = 1 → tr_ps T nx (w + 10) j'' o f3 r f2 → (w = 2 → j'' = 0) → tr_ps T nx w j o f r f2 := by
  obtain ⟨m, a, b, ha, hb, hm⟩ := tr_ps_get h1
  have ea : a = f := by omega
  subst ea
  subst hb
  rw [tr_nj0 (by omega) (by omega)] at hm
  refine ⟨fun e => tr_ps_mk (m := m) (Or.inl rfl) ?_, fun {j'' r f2} e h2 hj => ?_⟩
  · unfold tr_F
    rw [if_neg (by omega), if_neg (by omega), if_neg (by omega), if_neg hn, hm, e, tr_b0]
  · have hr := h2.2.2.1
    obtain ⟨m', a', b', ha', hb', hm'⟩ := tr_ps_get h2
    have ea' : a' = b := by omega
    subst ea'
    subst hb'
    have hj2 : tr_nj (w + 10) j'' = 0 := by
      unfold tr_nj
      split
      · exact hj (by omega)
      · rfl
    rw [hj2] at hm'
    refine tr_ps_mk (m := m + m') hr ?_
    have e1 := tr_pf_up hm (by omega) (Nat.le_add_right m m')
    have e2 := tr_pf_up hm' (by omega) (Nat.le_add_left m' m)
    unfold tr_F
    rw [if_neg (by omega), if_neg (by omega), if_neg (by omega), if_neg hn, e1, e, tr_b1]
    exact e2
theorem tr_ps_end (hw : 10 ≤ w) (h : tr_jn w (tr_nj w j) (T f) = false) : tr_ps T nx w j o f 1 f := tr_ps_mk (m := 0) (Or.inr rfl) (by
  unfold tr_F
  rw [if_neg (by omega), if_neg (by omega), if_pos hw, if_neg (by rw [h]; exact Bool.false_ne_true)])
theorem tr_ps_join {j' r1 f1 f3 : Int} (hw : 10 ≤ w ∧ w ≤ 14) (h : tr_jn w (tr_nj w j) (T f) = true) (h1 : tr_ps T nx (w - 9) j' o f1 r1 f3) (hf : f1 = (nx f : Nat)) : (r1 = 0 → tr_ps T nx w j o f 0 f3) ∧ ∀ {j'' r f2 : Int}, r1 = 1 → tr_ps T nx w j'' o f3 r f2 → (w = 12 → j'' = j + 1) → tr_ps T nx w j o f r f2 := by
  obtain ⟨m, a, b, ha, hb, hm⟩ := tr_ps_get h1
  have ea : a = nx f := by omega
  subst ea
  subst hb
  rw [tr_nj0 (by omega) (by omega)] at hm
  refine ⟨fun e => tr_ps_mk (m := m) (Or.inl rfl) ?_, fun {j'' r f2} e h2 hj => ?_⟩
  · unfold tr_F
    rw [if_neg (by omega), if_neg (by omega), if_pos hw.1, if_pos h, hm, e, tr_b0]
  · have hr := h2.2.2.1
    obtain ⟨m', a', b', ha', hb', hm'⟩ := tr_ps_get h2
    have ea' : a' = b := by omega
    subst ea'
    subst hb'
    have hj2 : tr_nj w j'' = (if w = 12 then tr_nj w j + 1 else 0) := by
      unfold tr_nj
      by_cases c : w = 12
      · rw [if_pos (Or.inr c), if_pos c, if_pos (Or.inr c)]
        exact hj c
      · rw [if_neg (by omega), if_neg c]
    rw [hj2] at hm'
    refine tr_ps_mk (m := m + m') hr ?_
    have e1 := tr_pf_up hm (by omega) (Nat.le_add_right m m')
    have e2 := tr_pf_up hm' (by omega) (Nat.le_add_left m' m)
    unfold tr_F
    rw [if_neg (by omega), if_neg (by omega), if_pos hw.1, if_pos h, e1, e, tr_b1]
    exact e2
theorem tr_ps_t4 (hj : 4 ≤ j) : (T f = 0 → tr_ps T nx 7 j o f 1 f) ∧ (¬ T f = 0 → tr_ps T nx 7 j o f 0 f) := by
  refine ⟨fun h => tr_ps_mk (m := 0) (Or.inr rfl) ?_, fun h => tr_ps_mk (m := 0) (Or.inl rfl) ?_⟩
  · rw [tr_nj7]
    unfold tr_F
    rw [if_neg (by omega), if_pos rfl, if_pos hj, if_pos h]
  · rw [tr_nj7]
    unfold tr_F
    rw [if_neg (by omega), if_pos rfl, if_pos hj, if_neg h]
theorem tr_ps_t0 (hj : 0 ≤ j ∧ j ≤ 3) (h : ¬ T f = 262 + j) : tr_ps T nx 7 j o f 0 f := tr_ps_mk (m := 0) (Or.inl rfl) (by
  rw [tr_nj7]
  unfold tr_F
  rw [if_neg (by omega), if_pos rfl, if_neg (by omega), if_neg (fun z => h z.2)])
theorem tr_ps_t1 {j' r1 f1 f3 : Int} (hj : 0 ≤ j ∧ j ≤ 3) (h : T f = 262 + j) (h1 : tr_ps T nx 0 j' 0 f1 r1 f3) (hf : f1 = (nx f : Nat)) : (r1 = 0 → tr_ps T nx 7 j o f 0 f3) ∧ (r1 = 1 → ¬ T f3.toNat = 59 → tr_ps T nx 7 j o f 0 f3) ∧ ∀ {f4 r f2 : Int}, r1 = 1 → T f3.toNat = 59 → tr_ps T nx 7 (j + 1) 0 f4 r f2 → f4 = (nx f3.toNat : Nat) → tr_ps T nx 7 j o f r f2 := by
  obtain ⟨m, a, b, ha, hb, hm⟩ := tr_ps_get h1
  have ea : a = nx f := by omega
  subst ea
  subst hb
  rw [show ((b : Int)).toNat = b by omega]
  rw [tr_nj0 (by omega) (by omega)] at hm
  have hm : tr_pf T nx m 0 0 0 (nx f) = (r1, b) := hm
  refine ⟨fun e => tr_ps_mk (m := m) (Or.inl rfl) ?_, fun e e2 => tr_ps_mk (m := m) (Or.inl rfl) ?_, fun {f4 r f2} e e2 h2 hf4 => ?_⟩
  · rw [tr_nj7]
    unfold tr_F
    rw [if_neg (by omega), if_pos rfl, if_neg (by omega), if_pos ⟨hj.1, h⟩, hm, e, tr_b0]
  · rw [tr_nj7]
    unfold tr_F
    rw [if_neg (by omega), if_pos rfl, if_neg (by omega), if_pos ⟨hj.1, h⟩, hm, e, tr_b1]
    exact if_neg e2
  · have hr := h2.2.2.1
    obtain ⟨m', a', b', ha', hb', hm'⟩ := tr_ps_get h2
    have ea' : a' = nx b := by omega
    subst ea'
    subst hb'
    rw [tr_nj7] at hm'
    refine tr_ps_mk (m := m + m') hr ?_
    have e1 := tr_pf_up hm (by omega) (Nat.le_add_right m m')
    have e3 := tr_pf_up hm' (by omega) (Nat.le_add_left m' m)
    rw [tr_nj7]
    unfold tr_F
    rw [if_neg (by omega), if_pos rfl, if_neg (by omega), if_pos ⟨hj.1, h⟩, e1, e, tr_b1]
    exact (if_pos e2).trans e3
end SXPR
/-- the class's tokens and the tape's -/
theorem tr_fa_row {A T L : Nat → Int} {n M : Nat} {x r k2 : Int} (h : ∀ k : Nat, k < M → T k = tr_kd A n (tr_pc A n k) ∧ L k = (tr_pc A n k : Int)) (hM : 1 ≤ M) (hl : T (M - 1) = 0 ∨ T (M - 1) = 1) (hp : tr_ps T (fun i => i + 1) 7 0 0 0 r k2) (hx : (r = 0 ∧ x = L k2.toNat) ∨ (r = 1 ∧ x = -1)) : tr_fa A n x := by
  obtain ⟨m, a, b, ha, hb, hm⟩ := tr_ps_get hp
  have ea : a = 0 := by omega
  subst ea
  subst hb
  have hh := tr_hm_pf (pc := tr_pc A n) (nx' := tr_nx A n) (T' := tr_kd A n) (fun k hk => (h k hk).1) (fun k => rfl) hl (m := m) (w := 7) (j := 0) (o := 0) (k := 0) (by omega)
  rw [tr_nj7] at hm
  rw [hm] at hh
  obtain ⟨h1, h2⟩ := hh
  refine ⟨m, r, tr_pc A n b, h1, ?_⟩
  rcases hx with ⟨e1, e2⟩ | ⟨e1, e2⟩
  · refine Or.inl ⟨e1, ?_⟩
    rw [e2]
    exact (h b h2).2
  · exact Or.inr ⟨e1, e2⟩
