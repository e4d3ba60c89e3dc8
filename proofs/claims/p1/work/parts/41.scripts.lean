/-! EVERY SCRIPT -/
def at_x (L : Nat) (xs : Nat → Int32) (j : Nat) : Int32 := if j < L then xs j else 0
def at_s (L : Nat) (xs : Nat → Int32) (j : Nat) : Int := match j with
  | 6 => L
  | 7 => (at_x L xs 0 &&& 63).toInt
  | 8 => (at_x L xs 1 / 100).toInt
  | 9 => (at_x L xs 1 - at_x L xs 1 / 100 * 100).toInt
  | j => (at_x L xs j).toInt
theorem at_and (x : Int32) : 0 ≤ (x &&& 63).toInt ∧ (x &&& 63).toInt ≤ 63 := by
  have h : (x &&& 63).toBitVec.toNat ≤ 63 := by
    rw [Int32.toBitVec_and, BitVec.toNat_and]
    exact Nat.and_le_right
  have e : (x &&& 63).toInt = ((x &&& 63).toBitVec.toNat : Int) := BitVec.toInt_eq_toNat_of_lt (by omega)
  omega
theorem at_rng (x : Int32) : -2147483648 ≤ x.toInt ∧ x.toInt ≤ 2147483647 := by
  have h1 := Int32.le_toInt x
  have h2 := Int32.toInt_lt x
  omega
theorem at_hB {L : Nat} {xs : Nat → Int32} {lo hi : Int} (hL : L ≤ 6) (h1 : lo ≤ at_s L xs 7) (h2 : at_s L xs 7 ≤ hi) : ac_B (at_s L xs) (at_B lo hi) := by
  intro j p h
  match j, h with
  | 0, h => cases h; exact at_rng _
  | 1, h => cases h; exact at_rng _
  | 2, h => cases h; exact at_rng _
  | 3, h => cases h; exact at_rng _
  | 4, h => cases h; exact at_rng _
  | 5, h => cases h; exact at_rng _
  | 6, h =>
    cases h
    show (0 : Int) ≤ (L : Int) ∧ (L : Int) ≤ 6
    omega
  | 7, h => cases h; exact ⟨h1, h2⟩
  | 8, h => cases h; exact at_rng _
  | 9, h => cases h; exact at_rng _
  | j + 10, h => cases h
theorem at_hD {L : Nat} {xs : Nat → Int32} : ac_D (at_s L xs) at_DT 7 := by
  have inj : ∀ {a b : Int32}, a.toInt = b.toInt → a = b := fun h => Int32.toInt_inj.mp h
  intro o s t y h a ha
  unfold at_DT ax_der at h
  cases h1 : (Nat.beq 12 o && (Nat.beq 0 s && (63 : Int32) == y)) with
  | true =>
    rw [h1] at h
    cases h
    simp only [Bool.and_eq_true] at h1
    obtain ⟨e1, e2, e3⟩ := h1
    have e1 := Nat.eq_of_beq_eq_true e1
    have e2 := Nat.eq_of_beq_eq_true e2
    have e3 := eq_of_beq e3
    subst e1
    subst e2
    subst e3
    have ha : a = at_x L xs 0 := inj ha
    subst ha
    rfl
  | false =>
    rw [h1] at h
    simp only [cond_false] at h
    unfold ax_der at h
    cases h2 : (Nat.beq 14 o && (Nat.beq 1 s && (100 : Int32) == y)) with
    | true =>
      rw [h2] at h
      cases h
      simp only [Bool.and_eq_true] at h2
      obtain ⟨e1, e2, e3⟩ := h2
      have e1 := Nat.eq_of_beq_eq_true e1
      have e2 := Nat.eq_of_beq_eq_true e2
      have e3 := eq_of_beq e3
      subst e1
      subst e2
      subst e3
      have ha : a = at_x L xs 1 := inj ha
      subst ha
      rfl
    | false =>
      rw [h2] at h
      simp only [cond_false] at h
      unfold ax_der at h
      cases h3 : (Nat.beq 15 o && (Nat.beq 1 s && (100 : Int32) == y)) with
      | true =>
        rw [h3] at h
        cases h
        simp only [Bool.and_eq_true] at h3
        obtain ⟨e1, e2, e3⟩ := h3
        have e1 := Nat.eq_of_beq_eq_true e1
        have e2 := Nat.eq_of_beq_eq_true e2
        have e3 := eq_of_beq e3
        subst e1
        subst e2
        subst e3
        have ha : a = at_x L xs 1 := inj ha
        subst ha
        rfl
      | false =>
        rw [h3] at h
        cases h
theorem at_hS {L : Nat} {xs : Nat → Int32} (hL : L ≤ 6) : ac_S (at_s L xs) mx_SAx (we_SA L xs) at_P := by
  refine ⟨fun j x h => ?_, (by show 1000 ≤ 1300; omega), L, xs, (if_pos rfl), rfl, by omega, fun j hj => ?_⟩
  · unfold we_SA
    by_cases e : j = 300
    · subst e
      have : mx_SAx 300 = none := by decide +kernel
      rw [this] at h
      cases h
    · rw [if_neg e]
      exact h
  · show (xs j).toInt = at_s L xs (0 + j)
    have e : at_x L xs j = xs j := if_pos hj
    rw [← e, Nat.zero_add]
    match j, hj with
    | 0, _ => rfl
    | 1, _ => rfl
    | 2, _ => rfl
    | 3, _ => rfl
    | 4, _ => rfl
    | 5, _ => rfl
    | j + 6, hj => exact absurd hj (by omega)
theorem at_hO {L : Nat} {xs : Nat → Int32} (hL : L ≤ 6) : ac_Or (at_s L xs) (we_SA L xs) 30 at_O := by
  have hS := at_hS (xs := xs) hL
  refine List.forall_mem_cons.mpr ⟨fun as' N ha hM => ax_chk_sound hS at_c1 as' N ha hM, List.forall_mem_cons.mpr ⟨fun as' N ha hM => ax_chk_sound hS at_c2 as' N ha hM, fun e he => absurd he List.not_mem_nil⟩⟩
theorem at_lts {n : Nat} {P : Nat → Prop} (h : ∀ a, a < n → P a) (hn : P n) : ∀ a, a < n + 1 → P a := fun a ha => by
  rcases Nat.lt_or_eq_of_le (Nat.le_of_lt_succ ha) with z | z
  · exact h a z
  · subst z; exact hn
theorem at_lall : ∀ k : Nat, k < 40 → ax_law at_P at_DT at_O (at_B k k) = true := at_lts (at_lts (at_lts (at_lts (at_lts (at_lts (at_lts (at_lts (at_lts (at_lts (at_lts (at_lts (at_lts (at_lts (at_lts (at_lts (at_lts (at_lts (at_lts (at_lts (at_lts (at_lts (at_lts (at_lts (at_lts (at_lts (at_lts (at_lts (at_lts (at_lts (at_lts (at_lts (at_lts (at_lts (at_lts (at_lts (at_lts (at_lts (at_lts (at_lts (fun a ha => absurd ha (Nat.not_lt_zero a)) at_l0) at_l1) at_l2) at_l3) at_l4) at_l5) at_l6) at_l7) at_l8) at_l9) at_l10) at_l11) at_l12) at_l13) at_l14) at_l15) at_l16) at_l17) at_l18) at_l19) at_l20) at_l21) at_l22) at_l23) at_l24) at_l25) at_l26) at_l27) at_l28) at_l29) at_l30) at_l31) at_l32) at_l33) at_l34) at_l35) at_l36) at_l37) at_l38) at_l39
theorem at_go (L : Nat) (xs : Nat → Int32) (hL : L ≤ 6) : ∃ N m, mx_run (mx_Ev (we_SA L xs) mx_code 30) (mx_op (we_SA L xs) mx_SF mx_DF 14) mt_L m (0, [(0, .ref 1300)], [], []) (some (.int 1)) N ∧ N.length ≤ 256 ∧ mx_sz N ≤ 1000000 := by
  obtain ⟨h1, h2⟩ := at_and (at_x L xs 0)
  have hS := at_hS (xs := xs) hL
  have hO := at_hO (xs := xs) hL
  obtain ⟨k, hk⟩ := Int.eq_ofNat_of_zero_le h1
  have e7 : at_s L xs 7 = (k : Int) := hk
  by_cases z : k < 40
  · exact ax_law_sound hS at_hD hO (at_hB hL (by rw [e7]; exact Int.le_refl _) (by rw [e7]; exact Int.le_refl _)) (at_lall k z)
  · exact ax_law_sound hS at_hD hO (at_hB (lo := 40) (hi := 63) hL (by omega) (by omega)) at_l40
