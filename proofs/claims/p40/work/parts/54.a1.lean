/-! WHAT THE UNKNOWN NUMBERS STAND FOR -/
def ac_V (σ : Nat → Int) (a : ax_V) (v : Value) : Prop := match a with
  | .inl w => v = w
  | .inr (.inl (s, k)) => ∃ x : Int32, v = .int x ∧ x.toInt = σ s + k
  | .inr (.inr true) => ∃ x : Int32, v = .int x
  | .inr (.inr false) => ∃ x : Int64, v = .long x
def ac_Vs (σ : Nat → Int) : List ax_V → List Value → Prop
  | [], [] => True
  | a :: as, v :: vs => ac_V σ a v ∧ ac_Vs σ as vs
  | _, _ => False
def ac_L (σ : Nat → Int) : ax_L → mx_L → Prop
  | [], [] => True
  | a :: as, v :: vs => (a.1 = v.1 ∧ ac_V σ a.2 v.2) ∧ ac_L σ as vs
  | _, _ => False
/-- two contents are alike as far as they go -/
def ac_ag (x y : vp_A) : Prop := x.1 = y.1 ∧ match x.2, y.2 with
  | .inl f, .inl g => ∀ j, j < x.1 → f j = g j
  | .inr (.inl f), .inr (.inl g) => ∀ j, j < x.1 → f j = g j
  | _, _ => False
def ac_E (σ : Nat → Int) (a : ax_E) (e : mx_E) : Prop := match a with
  | .inl (ci, fs) => ∃ gs, e = .inl (ci, gs) ∧ ac_Vs σ fs gs
  | .inr (.inl (t, x)) => ∃ y : vp_A, e = .inr (t, y) ∧ ac_ag x y
  | .inr (.inr (t, n)) => ∃ x : vp_A, e = .inr (t, x) ∧ x.1 = n ∧ mx_kd t x = true
def ac_M (σ : Nat → Int) (M : ax_M) (N : mx_M) : Prop := M.1 = N.length ∧ M.1 ≤ 256 ∧ ∀ q, q < M.1 → ∃ a e, ax_tg 8 M.2 q = some a ∧ N[q]? = some e ∧ ac_E σ a e
def ac_B (σ : Nat → Int) (B : ax_B) : Prop := ∀ (s : Nat) (p : Int × Int), B[s]? = some p → p.1 ≤ σ s ∧ σ s ≤ p.2
def ac_D (σ : Nat → Int) (DT : ax_T) (n0 : Nat) : Prop := ∀ (o s t : Nat) (y : Int32), ax_der o s y DT n0 = some t → ∀ a : Int32, a.toInt = σ s → (ac_fn o a y).toInt = σ t
/-- the configurations that an unknown one stands for -/
def ac_C (σ : Nat → Int) (c : ax_C) (d : mx_C) : Prop := c.1 = d.1 ∧ ac_L σ c.2.1 d.2.1 ∧ ac_Vs σ c.2.2.1 d.2.2.1 ∧ ac_M σ c.2.2.2.1 d.2.2.2
theorem ac_V_int {σ : Nat → Int} {a : ax_V} {v : Value} (h : ac_V σ a v) (hk : ax_kind a = 0) : ∃ x, v = .int x := by
  match a, h, hk with
  | .inl (.int x), h, _ => exact ⟨x, h⟩
  | .inr (.inl (s, k)), h, _ => exact ⟨h.choose, h.choose_spec.1⟩
  | .inr (.inr true), h, _ => exact h
theorem ac_V_long {σ : Nat → Int} {a : ax_V} {v : Value} (h : ac_V σ a v) (hk : ax_kind a = 1) : ∃ x, v = .long x := by
  match a, h, hk with
  | .inl (.long x), h, _ => exact ⟨x, h⟩
  | .inr (.inr false), h, _ => exact h
theorem ac_V_ref {σ : Nat → Int} {a : ax_V} {v : Value} (h : ac_V σ a v) (hk : ax_kind a = 2) : ∃ x, v = .ref x ∧ a = .inl (.ref x) := by
  match a, h, hk with
  | .inl (.ref x), h, _ => exact ⟨x, h, rfl⟩
theorem ac_V_is2 {σ : Nat → Int} {a : ax_V} {v : Value} (h : ac_V σ a v) : ax_is2 a = mx_is2 v := by
  match a, h with
  | .inl w, h => cases h; rfl
  | .inr (.inl (s, k)), h => obtain ⟨x, rfl, -⟩ := h; rfl
  | .inr (.inr true), h => obtain ⟨x, rfl⟩ := h; rfl
  | .inr (.inr false), h => obtain ⟨x, rfl⟩ := h; rfl
theorem mx_beq (a b : Nat) : Nat.beq a b = (a == b) := by
  cases h : Nat.beq a b with
  | true => rw [Nat.eq_of_beq_eq_true h]; simp
  | false => have := Nat.ne_of_beq_eq_false h; simp [this]
theorem ac_L_lk {σ : Nat → Int} {i : Nat} {a : ax_V} : ∀ {l : ax_L} {r : mx_L}, ac_L σ l r → ax_lk i l = some a → ∃ v, mx_lk i r = some v ∧ ac_V σ a v
  | [], _, _, h => by simp [ax_lk] at h
  | (j, b) :: l, [], h, _ => h.elim
  | (j, b) :: l, (k, w) :: r, h, hl => by
    obtain ⟨⟨e, hb⟩, ht⟩ := h
    have e : j = k := e
    subst e
    unfold ax_lk at hl
    unfold mx_lk
    cases hj : Nat.beq j i with
    | true =>
      rw [hj] at hl
      simp only [cond_true, Option.some.injEq] at hl
      subst hl
      exact ⟨w, rfl, hb⟩
    | false =>
      rw [hj] at hl
      exact ac_L_lk ht hl
theorem ac_L_filter {σ : Nat → Int} {p : Nat × ax_V → Bool} {p' : Nat × Value → Bool} (hp : ∀ (i : Nat) (a : ax_V) (v : Value), ac_V σ a v → p (i, a) = p' (i, v)) : ∀ {l : ax_L} {r : mx_L}, ac_L σ l r → ac_L σ (l.filter p) (r.filter p')
  | [], [], _ => trivial
  | [], _ :: _, h => h.elim
  | _ :: _, [], h => h.elim
  | (j, b) :: l, (k, w) :: r, h => by
    obtain ⟨⟨e, hb⟩, ht⟩ := h
    have e : j = k := e
    subst e
    have h1 := hp j b w hb
    rw [List.filter_cons, List.filter_cons, h1]
    cases p' (j, w) with
    | true => exact ⟨⟨rfl, hb⟩, ac_L_filter hp ht⟩
    | false => exact ac_L_filter hp ht
theorem ac_L_sto {σ : Nat → Int} {i : Nat} {a : ax_V} {v : Value} {l : ax_L} {r : mx_L} (h : ac_L σ l r) (ha : ac_V σ a v) : ac_L σ (ax_sto i a l) (mx_sto i v r) := by
  refine ⟨⟨rfl, ha⟩, ac_L_filter (fun j b w hb => ?_) h⟩
  show (!(Nat.beq j i) && !(Nat.beq (j + 1) i && ax_is2 b)) = (!(j == i) && !(j + 1 == i && w.category == 2))
  rw [ac_V_is2 hb, mx_is2_eq]
  simp only [mx_beq]
theorem ac_L_sto2 {σ : Nat → Int} {i : Nat} {a : ax_V} {v : Value} {l : ax_L} {r : mx_L} (h : ac_L σ l r) (ha : ac_V σ a v) : ac_L σ (ax_sto2 i a l) (mx_sto2 i v r) := by
  refine ⟨⟨rfl, ha⟩, ac_L_filter (fun j b w hb => ?_) h⟩
  show (!(Nat.beq j i) && (!(Nat.beq j (i + 1)) && !(Nat.beq (j + 1) i && ax_is2 b))) = (!(j == i) && (!(j == i + 1) && !(j + 1 == i && w.category == 2)))
  rw [ac_V_is2 hb, mx_is2_eq]
  simp only [mx_beq]
theorem ax_tg_ts : ∀ (n : Nat) (t : ax_Tr n) (q q' : Nat) (e : ax_E), q < 2 ^ n → q' < 2 ^ n → ax_tg n (ax_ts n t q e) q' = if q' = q then some e else ax_tg n t q'
  | 0, t, q, q', e, h1, h2 => by
    have e1 : q = 0 := by simp at h1; exact h1
    have e2 : q' = 0 := by simp at h2; exact h2
    rw [e1, e2, if_pos rfl]
    rfl
  | n + 1, t, q, q', e, h1, h2 => by
    have hp : 2 ^ (n + 1) = 2 * 2 ^ n := by rw [Nat.pow_succ, Nat.mul_comm]
    rw [hp] at h1 h2
    have i1 := ax_tg_ts n t.1 (q / 2) (q' / 2) e (by omega) (by omega)
    have i2 := ax_tg_ts n t.2 (q / 2) (q' / 2) e (by omega) (by omega)
    by_cases z1 : q % 2 = 0
    · have b1 : Nat.beq (q % 2) 0 = true := by rw [z1]; rfl
      have es : ax_ts (n + 1) t q e = (ax_ts n t.1 (q / 2) e, t.2) := by
        show (bif Nat.beq (q % 2) 0 then (ax_ts n t.1 (q / 2) e, t.2) else (t.1, ax_ts n t.2 (q / 2) e)) = _
        rw [b1]; rfl
      rw [es]
      show (bif Nat.beq (q' % 2) 0 then ax_tg n (ax_ts n t.1 (q / 2) e) (q' / 2) else ax_tg n t.2 (q' / 2)) = if q' = q then some e else (bif Nat.beq (q' % 2) 0 then ax_tg n t.1 (q' / 2) else ax_tg n t.2 (q' / 2))
      by_cases z2 : q' % 2 = 0
      · have b2 : Nat.beq (q' % 2) 0 = true := by rw [z2]; rfl
        rw [b2]
        simp only [cond_true]
        rw [i1]
        by_cases z3 : q' = q
        · rw [if_pos z3, if_pos (by rw [z3])]
        · rw [if_neg z3, if_neg (by omega)]
      · have b2 : Nat.beq (q' % 2) 0 = false := by
          cases hb : Nat.beq (q' % 2) 0 with
          | false => rfl
          | true => exact absurd (Nat.eq_of_beq_eq_true hb) z2
        rw [b2]
        simp only [cond_false]
        rw [if_neg (by intro z; rw [z] at z2; exact z2 z1)]
    · have b1 : Nat.beq (q % 2) 0 = false := by
        cases hb : Nat.beq (q % 2) 0 with
        | false => rfl
        | true => exact absurd (Nat.eq_of_beq_eq_true hb) z1
      have es : ax_ts (n + 1) t q e = (t.1, ax_ts n t.2 (q / 2) e) := by
        show (bif Nat.beq (q % 2) 0 then (ax_ts n t.1 (q / 2) e, t.2) else (t.1, ax_ts n t.2 (q / 2) e)) = _
        rw [b1]; rfl
      rw [es]
      show (bif Nat.beq (q' % 2) 0 then ax_tg n t.1 (q' / 2) else ax_tg n (ax_ts n t.2 (q / 2) e) (q' / 2)) = if q' = q then some e else (bif Nat.beq (q' % 2) 0 then ax_tg n t.1 (q' / 2) else ax_tg n t.2 (q' / 2))
      by_cases z2 : q' % 2 = 0
      · have b2 : Nat.beq (q' % 2) 0 = true := by rw [z2]; rfl
        rw [b2]
        simp only [cond_true]
        rw [if_neg (by intro z; rw [z] at z2; exact z1 z2)]
      · have b2 : Nat.beq (q' % 2) 0 = false := by
          cases hb : Nat.beq (q' % 2) 0 with
          | false => rfl
          | true => exact absurd (Nat.eq_of_beq_eq_true hb) z2
        rw [b2]
        simp only [cond_false]
        rw [i2]
        by_cases z3 : q' = q
        · rw [if_pos z3, if_pos (by rw [z3])]
        · rw [if_neg z3, if_neg (by omega)]
theorem ax_mg_some {M : ax_M} {q : Nat} {a : ax_E} (h : ax_mg M q = some a) : q < M.1 ∧ ax_tg 8 M.2 q = some a := by
  unfold ax_mg at h
  cases hb : Nat.blt q M.1 with
  | false => rw [hb] at h; cases h
  | true =>
    rw [hb] at h
    exact ⟨Nat.le_of_ble_eq_true hb, h⟩
theorem ac_M_nth {σ : Nat → Int} {a : ax_E} {M : ax_M} {N : mx_M} {q : Nat} (h : ac_M σ M N) (hq : ax_mg M q = some a) : ∃ e, mx_nth N q = some e ∧ ac_E σ a e := by
  obtain ⟨h1, h2⟩ := ax_mg_some hq
  obtain ⟨a', e, e1, e2, e3⟩ := h.2.2 q h1
  rw [h2] at e1
  cases e1
  exact ⟨e, by rw [mx_nth_eq]; exact e2, e3⟩
theorem ac_M_set {σ : Nat → Int} {a : ax_E} {e : mx_E} (he : ac_E σ a e) {M : ax_M} {N : mx_M} {q : Nat} (hq : q < M.1) (h : ac_M σ M N) : ac_M σ (ax_ms M q a) (N.set q e) := by
  refine ⟨by rw [List.length_set]; exact h.1, h.2.1, fun q' hq' => ?_⟩
  have hq' : q' < M.1 := hq'
  have hl := h.2.1
  have key := ax_tg_ts 8 M.2 q q' a (by omega) (by omega)
  by_cases z : q' = q
  · rw [if_pos z] at key
    refine ⟨a, e, key, ?_, he⟩
    rw [z, List.getElem?_set_self (by rw [← h.1]; exact hq)]
  · rw [if_neg z] at key
    obtain ⟨a', e', e1, e2, e3⟩ := h.2.2 q' hq'
    exact ⟨a', e', key.trans e1, by rw [List.getElem?_set_ne (Ne.symm z)]; exact e2, e3⟩
theorem ac_M_app {σ : Nat → Int} {a : ax_E} {e : mx_E} (he : ac_E σ a e) {M : ax_M} {N : mx_M} (hl : M.1 < 256) (h : ac_M σ M N) : ac_M σ (ax_ma M a) (N ++ [e]) := by
  refine ⟨by rw [List.length_append, ← h.1]; rfl, hl, fun q' hq' => ?_⟩
  have hq' : q' < M.1 + 1 := hq'
  have key := ax_tg_ts 8 M.2 M.1 q' a (by omega) (by omega)
  by_cases z : q' = M.1
  · rw [if_pos z] at key
    refine ⟨a, e, key, ?_, he⟩
    rw [z, h.1]
    simp
  · rw [if_neg z] at key
    obtain ⟨a', e', e1, e2, e3⟩ := h.2.2 q' (by omega)
    exact ⟨a', e', key.trans e1, by rw [List.getElem?_append_left (by rw [← h.1]; omega)]; exact e2, e3⟩
theorem ac_Vs_nth {σ : Nat → Int} {a : ax_V} : ∀ {l : List ax_V} {r : List Value} {k : Nat}, ac_Vs σ l r → mx_nth l k = some a → ∃ v, mx_nth r k = some v ∧ ac_V σ a v
  | [], _, _, _, h => by simp [mx_nth] at h
  | b :: l, [], _, h, _ => h.elim
  | b :: l, v :: r, 0, h, hq => by
    have hq : some b = some a := hq
    cases hq
    exact ⟨v, rfl, h.1⟩
  | b :: l, v :: r, k + 1, h, hq => ac_Vs_nth (l := l) (r := r) (k := k) h.2 hq
theorem ac_Vs_set {σ : Nat → Int} {a : ax_V} {v : Value} (he : ac_V σ a v) : ∀ {l : List ax_V} {r : List Value} {k : Nat}, ac_Vs σ l r → ac_Vs σ (l.set k a) (r.set k v)
  | [], [], _, _ => trivial
  | [], _ :: _, _, h => h.elim
  | _ :: _, [], _, h => h.elim
  | b :: l, c :: r, 0, h => ⟨he, h.2⟩
  | b :: l, c :: r, k + 1, h => ⟨h.1, ac_Vs_set he h.2⟩
theorem ac_Vs_len {σ : Nat → Int} : ∀ {l : List ax_V} {r : List Value}, ac_Vs σ l r → l.length = r.length
  | [], [], _ => rfl
  | [], _ :: _, h => h.elim
  | _ :: _, [], h => h.elim
  | b :: l, c :: r, h => by rw [List.length_cons, List.length_cons, ac_Vs_len h.2]
theorem ac_Vs_emb {σ : Nat → Int} : ∀ l : List Value, ac_Vs σ (ax_emb l) l
  | [] => trivial
  | v :: l => ⟨rfl, ac_Vs_emb l⟩
theorem ac_Vs_app {σ : Nat → Int} : ∀ {l1 l2 : List ax_V} {r1 r2 : List Value}, ac_Vs σ l1 r1 → ac_Vs σ l2 r2 → ac_Vs σ (l1 ++ l2) (r1 ++ r2)
  | [], _, [], _, _, h => h
  | [], _, _ :: _, _, h, _ => h.elim
  | _ :: _, _, [], _, h, _ => h.elim
  | a :: l1, l2, v :: r1, r2, h, h2 => ⟨h.1, ac_Vs_app h.2 h2⟩
theorem ac_Vs_cat {σ : Nat → Int} : ∀ {l : List ax_V} {r : List Value}, ac_Vs σ l r → ax_cat l = mx_cat r
  | [], [], _ => rfl
  | [], _ :: _, h => h.elim
  | _ :: _, [], h => h.elim
  | b :: l, c :: r, h => by
    unfold ax_cat mx_cat
    rw [ac_Vs_cat h.2, ac_V_is2 h.1]
theorem ac_nrm {σ : Nat → Int} {B : ax_B} {a : ax_V} {v : Value} (hB : ac_B σ B) (h : ac_V σ a v) : ac_V σ (ax_nrm B a) v := by
  match a, h with
  | .inl w, h => exact h
  | .inr (.inr b), h => exact h
  | .inr (.inl (s, k)), h =>
    unfold ax_nrm
    simp only
    split
    · next lo hi hs =>
      cases he : lo == hi with
      | false => exact h
      | true =>
        have he := eq_of_beq he
        obtain ⟨x, rfl, hx⟩ := h
        have h2 := hB s (lo, hi) (by rw [← mx_nth_eq]; exact hs)
        have e : σ s = lo := by have := h2.1; have := h2.2; simp only at *; omega
        show Value.int x = .int (Int32.ofInt (lo + k))
        rw [← e, ← hx, Int32.ofInt_toInt]
    · exact h
theorem ax_kind_nrm {σ : Nat → Int} {B : ax_B} {a : ax_V} (h : ax_kind a = 0) : ax_kind (ax_nrm B a) = 0 := by
  match a, h with
  | .inl (.int x), _ => rfl
  | .inr (.inr true), _ => rfl
  | .inr (.inl (s, k)), _ =>
    unfold ax_nrm
    simp only
    split
    · next lo hi hs => cases lo == hi <;> rfl
    · rfl
theorem ac_top {σ : Nat → Int} : ∀ {n : Nat} {st : List ax_V} {l : List Value} {r : List ax_V} {st' : List Value}, ax_top n st = some (l, r) → ac_Vs σ st st' → ∃ r', st' = l ++ r' ∧ ac_Vs σ r r'
  | 0, st, l, r, st', h, hs => by
    cases h
    exact ⟨st', rfl, hs⟩
  | n + 1, [], l, r, st', h, hs => by cases h
  | n + 1, .inr x :: st, l, r, st', h, hs => by cases h
  | n + 1, .inl v :: st, l, r, [], h, hs => hs.elim
  | n + 1, .inl v :: st, l, r, w :: st', h, hs => by
    unfold ax_top at h
    split at h
    · next l2 r2 h2 =>
      cases h
      obtain ⟨r', e, hr⟩ := ac_top h2 hs.2
      have e1 : w = v := hs.1
      subst e1
      exact ⟨r', by rw [e]; rfl, hr⟩
    · cases h
/-! an operation on the stack alone sees no more than its operands -/
theorem mf_ii {f : Int32 → Int32 → Option Value} {pc : Nat} {l : List Value} {c' : mx_C} (h : mx_ii f (pc, [], l, []) = some c') (lv : mx_L) (r : List Value) (M : mx_M) : mx_ii f (pc, lv, l ++ r, M) = some (c'.1, lv, c'.2.2.1 ++ r, M) := by
  obtain ⟨x, y, v, st, e1, e2, rfl⟩ := mx_ii_inv h
  have e1 : l = .int y :: .int x :: st := e1
  subst e1
  show mx_ii f (pc, lv, .int y :: .int x :: (st ++ r), M) = _
  simp [mx_ii, e2]
theorem mf_ll {f : Int64 → Int64 → Option Value} {pc : Nat} {l : List Value} {c' : mx_C} (h : mx_ll f (pc, [], l, []) = some c') (lv : mx_L) (r : List Value) (M : mx_M) : mx_ll f (pc, lv, l ++ r, M) = some (c'.1, lv, c'.2.2.1 ++ r, M) := by
  obtain ⟨x, y, v, st, e1, e2, rfl⟩ := mx_ll_inv h
  have e1 : l = .long y :: .long x :: st := e1
  subst e1
  show mx_ll f (pc, lv, .long y :: .long x :: (st ++ r), M) = _
  simp [mx_ll, e2]
theorem mf_li {f : Int64 → Int32 → Value} {pc : Nat} {l : List Value} {c' : mx_C} (h : mx_li f (pc, [], l, []) = some c') (lv : mx_L) (r : List Value) (M : mx_M) : mx_li f (pc, lv, l ++ r, M) = some (c'.1, lv, c'.2.2.1 ++ r, M) := by
  obtain ⟨x, y, st, e1, rfl⟩ := mx_li_inv h
  have e1 : l = .int y :: .long x :: st := e1
  subst e1
  rfl
theorem mf_i1 {f : Int32 → Value} {pc : Nat} {l : List Value} {c' : mx_C} (h : mx_i1 f (pc, [], l, []) = some c') (lv : mx_L) (r : List Value) (M : mx_M) : mx_i1 f (pc, lv, l ++ r, M) = some (c'.1, lv, c'.2.2.1 ++ r, M) := by
  obtain ⟨x, st, e1, rfl⟩ := mx_i1_inv h
  have e1 : l = .int x :: st := e1
  subst e1
  rfl
theorem mf_l1 {f : Int64 → Value} {pc : Nat} {l : List Value} {c' : mx_C} (h : mx_l1 f (pc, [], l, []) = some c') (lv : mx_L) (r : List Value) (M : mx_M) : mx_l1 f (pc, lv, l ++ r, M) = some (c'.1, lv, c'.2.2.1 ++ r, M) := by
  obtain ⟨x, st, e1, rfl⟩ := mx_l1_inv h
  have e1 : l = .long x :: st := e1
  subst e1
  rfl
theorem mf_dup {pc : Nat} {l : List Value} {c' : mx_C} (h : mx_dup (pc, [], l, []) = some c') (lv : mx_L) (r : List Value) (M : mx_M) : mx_dup (pc, lv, l ++ r, M) = some (c'.1, lv, c'.2.2.1 ++ r, M) := by
  match l, h with
  | v :: st, h =>
    have h : (bif mx_is2 v then none else some (pc + 1, [], v :: v :: st, [])) = some c' := h
    show (bif mx_is2 v then none else some (pc + 1, lv, v :: v :: (st ++ r), M)) = _
    cases hv : mx_is2 v with
    | true => rw [hv] at h; cases h
    | false => rw [hv] at h; cases h; rfl
theorem mf_pop {pc : Nat} {l : List Value} {c' : mx_C} (h : mx_pop (pc, [], l, []) = some c') (lv : mx_L) (r : List Value) (M : mx_M) : mx_pop (pc, lv, l ++ r, M) = some (c'.1, lv, c'.2.2.1 ++ r, M) := by
  match l, h with
  | v :: st, h =>
    have h : (bif mx_is2 v then none else some (pc + 1, [], st, [])) = some c' := h
    show (bif mx_is2 v then none else some (pc + 1, lv, st ++ r, M)) = _
    cases hv : mx_is2 v with
    | true => rw [hv] at h; cases h
    | false => rw [hv] at h; cases h; rfl
theorem mf_dup2 {pc : Nat} {l : List Value} {c' : mx_C} (h : mx_dup2 (pc, [], l, []) = some c') (lv : mx_L) (r : List Value) (M : mx_M) : mx_dup2 (pc, lv, l ++ r, M) = some (c'.1, lv, c'.2.2.1 ++ r, M) := by
  match l, h with
  | [v], h => cases h
  | v :: w :: st, h =>
    have h : (bif mx_is2 v || mx_is2 w then none else some (pc + 1, [], v :: w :: v :: w :: st, [])) = some c' := h
    show (bif mx_is2 v || mx_is2 w then none else some (pc + 1, lv, v :: w :: v :: w :: (st ++ r), M)) = _
    cases hv : (mx_is2 v || mx_is2 w) with
    | true => rw [hv] at h; cases h
    | false => rw [hv] at h; cases h; rfl
theorem mf_op {SA SA' : mx_S} {SF : List mx_F} {DF : List (List Value)} {N : Nat} {i : mx_I} {pc : Nat} {l : List Value} {c' : mx_C} (h1 : 9 ≤ i.1) (h2 : i.1 ≤ 35) (h : mx_op SA SF DF N i (pc, [], l, []) = some c') (lv : mx_L) (r : List Value) (M : mx_M) : mx_op SA' SF DF N i (pc, lv, l ++ r, M) = some (c'.1, lv, c'.2.2.1 ++ r, M) := by
  obtain ⟨o, a, b, L⟩ := i
  have h1 : 9 ≤ o := h1
  have h2 : o ≤ 35 := h2
  match o, h1, h2, h with
  | 9, _, _, h => exact mf_ii (f := fun x y => some (.int (x + y))) h lv r M
  | 10, _, _, h => exact mf_ii (f := fun x y => some (.int (x - y))) h lv r M
  | 11, _, _, h => exact mf_ii (f := fun x y => some (.int (x * y))) h lv r M
  | 12, _, _, h => exact mf_ii (f := fun x y => some (.int (x &&& y))) h lv r M
  | 13, _, _, h => exact mf_ii (f := fun x y => some (.int (x ||| y))) h lv r M
  | 14, _, _, h => exact mf_ii (f := mx_div) h lv r M
  | 15, _, _, h => exact mf_ii (f := mx_rem) h lv r M
  | 16, _, _, h => exact mf_i1 (f := fun x => .int (-x)) h lv r M
  | 17, _, _, h => exact mf_ii (f := fun x y => some (.int (x <<< (y &&& 31)))) h lv r M
  | 18, _, _, h => exact mf_ii (f := fun x y => some (.int (x >>> (y &&& 31)))) h lv r M
  | 19, _, _, h => exact mf_ll (f := fun x y => some (.long (x + y))) h lv r M
  | 20, _, _, h => exact mf_ll (f := fun x y => some (.long (x - y))) h lv r M
  | 21, _, _, h => exact mf_ll (f := fun x y => some (.long (x * y))) h lv r M
  | 22, _, _, h => exact mf_ll (f := mx_ldiv) h lv r M
  | 23, _, _, h => exact mf_ll (f := fun x y => some (.long (x &&& y))) h lv r M
  | 24, _, _, h => exact mf_ll (f := fun x y => some (.long (x ||| y))) h lv r M
  | 25, _, _, h => exact mf_li (f := fun x y => .long (x <<< (y.toInt64 &&& 63))) h lv r M
  | 26, _, _, h => exact mf_li (f := fun x y => .long (x >>> (y.toInt64 &&& 63))) h lv r M
  | 27, _, _, h => exact mf_ll (f := fun x y => some (.int (lg_cmp x y))) h lv r M
  | 28, _, _, h => exact mf_i1 (f := fun x => .long x.toInt64) h lv r M
  | 29, _, _, h => exact mf_l1 (f := fun x => .int x.toInt32) h lv r M
  | 30, _, _, h => exact mf_i1 (f := fun x => .int x.toInt8.toInt32) h lv r M
  | 31, _, _, h => exact mf_i1 (f := fun x => .int x.toInt16.toInt32) h lv r M
  | 32, _, _, h => exact mf_i1 (f := fun x => .int (x.toUInt32 % 65536).toInt32) h lv r M
  | 33, _, _, h => exact mf_dup h lv r M
  | 34, _, _, h => exact mf_pop h lv r M
  | 35, _, _, h => exact mf_dup2 h lv r M
  | n + 36, _, h2, _ => exact absurd h2 (by omega)
