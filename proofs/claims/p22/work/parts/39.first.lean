/-! THE FIRST TEXT IS ALIKE IN BOTH -/
def tw_li (C : Nat → Int) : Nat → Nat → List Int
  | _, 0 => []
  | u, n + 1 => C u :: tw_li C (u + 1) n
theorem tw_li_len {C : Nat → Int} : ∀ {n u : Nat}, (tw_li C u n).length = n
  | 0, _ => rfl
  | n + 1, u => by
    show (tw_li C (u + 1) n).length + 1 = n + 1
    rw [tw_li_len]
theorem tw_li_sw {C : Nat → Int} : ∀ {n u : Nat}, tr_sw (tr_ec C) u (tw_li C u n)
  | 0, _ => trivial
  | _ + 1, _ => ⟨rfl, tw_li_sw⟩
def tw_itB (c a w : Int) : Bool := (sx_le 0 c && (a == 1 && w == c)) || ((sx_le (-262) c && (sx_le c (-257) && (a == 2 && w == -257 - c))) || ((c == -4 && a == 4) || ((c == -269 && a == 3) || ((c == -268 && a == 5) || ((c == -267 && a == 6) || ((c == -43 || (c == -44 || (c == -46 || (c == -61 || c == -62)))) && a == -1 - c))))))
theorem tw_itB_ok {c a w : Int} (h : tw_itB c a w = true) : tr_it c a w := by
  unfold tw_itB at h
  simp only [Bool.or_eq_true, Bool.and_eq_true, beq_iff_eq, sx_le_iff] at h
  unfold tr_it
  omega
def tw_swB (A W : Nat → Int) : Nat → List Int → Bool
  | _, [] => true
  | u, c :: l => tw_itB c (A u) (W u) && tw_swB A W (u + 1) l
theorem tw_swB_ok {A W : Nat → Int} : ∀ {l : List Int} {u : Nat}, tw_swB A W u l = true → tr_sw (tr_er A W) u l
  | [], _, _ => trivial
  | c :: l, u, h => by
    have h := (Bool.and_eq_true _ _).mp h
    exact ⟨tw_itB_ok h.1, tw_swB_ok h.2⟩
def tw_p (C ST EN A W PE : Nat → Int) (p : Nat) : Bool :=
  ((Nat.beq (tr_ht (tw_li C (ST p).toNat (EN p - ST p).toNat) 0) 1 && (sx_le 0 (ST p) && sx_le (ST p) (EN p))) && ((sx_le (EN p) (EN 3) && sx_le (EN p - ST p) 160) && (sx_le 0 (tr_lo PE 0 p) && (PE p == tr_lo PE 0 p + (EN p - ST p) && sx_le (PE p) 170)))) && tw_swB A W (tr_lo PE 0 p).toNat (tw_li C (ST p).toNat (EN p - ST p).toNat)
def tw_rel (C ST EN A W PE : Nat → Int) : Bool := (sx_le 0 (EN 3) && sx_le (EN 3) 160) && (tw_p C ST EN A W PE 0 && (tw_p C ST EN A W PE 1 && (tw_p C ST EN A W PE 2 && tw_p C ST EN A W PE 3)))
theorem tw_rel_ok {C ST EN A W PE : Nat → Int} (h : tw_rel C ST EN A W PE = true) : tr_rel C ST EN A W PE 1 := by
  unfold tw_rel at h
  simp only [Bool.and_eq_true] at h
  obtain ⟨⟨a1, a2⟩, b0, b1, b2, b3⟩ := h
  have e3 : (4 * (1 : Int) - 1).toNat = 3 := rfl
  have a1 := sx_le_iff.mp a1
  have a2 := sx_le_iff.mp a2
  refine ⟨Int.le_refl _, by rw [e3]; exact a1, by rw [e3]; omega, fun t p ht hp => ?_⟩
  have t0 : t = 0 := by omega
  subst t0
  have hb : tw_p C ST EN A W PE p = true := by
    match p, hp with
    | 0, _ => exact b0
    | 1, _ => exact b1
    | 2, _ => exact b2
    | 3, _ => exact b3
  unfold tw_p at hb
  simp only [Bool.and_eq_true, beq_iff_eq, sx_le_iff] at hb
  obtain ⟨⟨⟨c1, c2, c3⟩, ⟨c4, c5⟩, c6, c7, c8⟩, c9⟩ := hb
  have c1 := Nat.eq_of_beq_eq_true c1
  rw [e3]
  simp only [Nat.mul_zero, Nat.zero_add]
  refine ⟨tw_li C (ST p).toNat (EN p - ST p).toNat, c1, c2, ?_, c4, ?_, tw_li_sw, c6, ?_, c8, tw_swB_ok c9⟩
  · rw [tw_li_len]; omega
  · rw [tw_li_len]; omega
  · rw [tw_li_len]; omega
