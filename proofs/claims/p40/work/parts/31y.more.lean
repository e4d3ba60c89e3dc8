/-! MORE THAT THE PROOF SAYS OF ROWS: two are alike; the best of a row; whether something stands in rows -/
/-- of the first n: the last one of p's that is from d at the latest, and the latest of these; -1 without one -/
def tg_bs (P F : Nat → Int) (p d : Int) : Nat → Int
  | 0 => -1
  | n + 1 => if P n = p ∧ F n ≤ d ∧ (tg_bs P F p d n < 0 ∨ F (tg_bs P F p d n).toNat ≤ F n) then (n : Int) else tg_bs P F p d n
def tg_at (C : Nat → Int) (b : Int) : Int := if b < 0 then -1 else C b.toNat
/-- 1 if x and y stand side by side among the first n -/
def tg_ex (A B : Nat → Int) (x y : Int) : Nat → Int
  | 0 => 0
  | n + 1 => if A n = x ∧ B n = y then 1 else tg_ex A B x y n
/-- 1 if c stands in one of the two among the first n -/
def tg_em (A B : Nat → Int) (c : Int) : Nat → Int
  | 0 => 0
  | n + 1 => if A n = c ∨ B n = c then 1 else tg_em A B c n
/-! results told by cells -/
def tg_ro (C Y : Nat → Int) (b cnt today games : Int) : Bool := (decide (0 ≤ C b.toNat) && decide (C b.toNat < games)) && ((decide (0 ≤ C (b + 1).toNat) && decide (C (b + 1).toNat ≤ 30)) && ((decide (0 ≤ C (b + 2).toNat) && decide (C (b + 2).toNat ≤ 30)) && (decide (Y (C b.toNat).toNat ≤ today) && decide (cnt ≤ 119))))
def tg_rs (C Y : Nat → Int) (z b today games : Int) : Nat → Int → Int → Int → Int × Int
  | 0, _, came, cnt => (came, cnt)
  | m + 1, p, came, cnt => if p < 0 ∨ z < p + 3 then (-12, cnt) else bif tg_ro C Y (b + p) cnt today games then tg_rs C Y z b today games m (p + 3) (came + 1) (cnt + 1) else tg_rs C Y z b today games m (p + 3) came cnt
theorem tg_rs_cg {C C' Y : Nat → Int} {z b today games : Int} (hb : 0 ≤ b) (h : ∀ j : Nat, b ≤ j → (j : Int) < b + z → C j = C' j) : ∀ (m : Nat) (p came cnt : Int), tg_rs C Y z b today games m p came cnt = tg_rs C' Y z b today games m p came cnt
  | 0, _, _, _ => rfl
  | m + 1, p, came, cnt => by
    unfold tg_rs
    by_cases hp : p < 0 ∨ z < p + 3
    · rw [if_pos hp, if_pos hp]
    · rw [if_neg hp, if_neg hp]
      have e0 := h (b + p).toNat (by omega) (by omega)
      have e1 := h (b + p + 1).toNat (by omega) (by omega)
      have e2 := h (b + p + 2).toNat (by omega) (by omega)
      have er : tg_ro C Y (b + p) cnt today games = tg_ro C' Y (b + p) cnt today games := by
        unfold tg_ro
        rw [e0, e1, e2]
      rw [er, tg_rs_cg hb h m, tg_rs_cg hb h m]
def sx_TGn : Nat → List (Nat → Int) → List Int → Prop := fun k as es => match k, as, es with
  | 1007, [a, b], [] => a = b
  | 1008, [], [x, y] => x = y
  | 1010, [P, F], [n, p, d, b] => 0 ≤ n ∧ b = tg_bs P F p d n.toNat
  | 1011, [P, C, F], [n, p, d, f, l] => 0 ≤ n ∧ f = tg_at C (tg_bs P F p d n.toNat) ∧ l = tg_at F (tg_bs P F p d n.toNat)
  | 1012, [P, C, F], [n, p, d, f] => f = tg_at C (tg_bs P F p d n.toNat)
  | 1014, [A, B], [n, x, y, r] => 0 ≤ n ∧ r = tg_ex A B x y n.toNat
  | 1015, [A, B], [n, c, r] => r = tg_em A B c n.toNat
  | 1020, [S, Z, M, Y], [] => ∀ s : Nat, s < 4 → S s = M s + 1 ∧ (0 ≤ M s → Z s = Y s)
  | 1021, [C, N, M], [] => ∀ s : Nat, s < 4 → 0 ≤ M s → ∀ i : Nat, i < 40 → C (40 * s + i) = N (40 * s + i)
  | 1022, [A, B], [lo, hi] => ∀ j : Nat, B j = if lo ≤ j ∧ (j : Int) < hi then 0 else A j
  | 1023, [A, C, B], [sp, dp, n] => ∀ j : Nat, B j = if dp ≤ j ∧ (j : Int) < dp + n then A (sp + (j - dp)).toNat else C j
  | 1024, [P, C], [sp, k] => ∀ t : Nat, (t : Int) < k → P t = C (sp + t).toNat
  | 1030, [C, Y, Z], [m, p, came, cnt, s, today, games, r, c] => 0 ≤ m ∧ (r, c) = tg_rs C Y (Z s.toNat) (40 * s) today games m.toNat p came cnt
  | k, as, es => sx_TGr k as es
theorem tg_bs_lt {P F : Nat → Int} {p d : Int} : ∀ n : Nat, -1 ≤ tg_bs P F p d n ∧ tg_bs P F p d n < n
  | 0 => by
    show -1 ≤ (-1 : Int) ∧ (-1 : Int) < ((0 : Nat) : Int)
    omega
  | n + 1 => by
    have ih := tg_bs_lt (P := P) (F := F) (p := p) (d := d) n
    unfold tg_bs
    split
    · omega
    · omega
theorem tg_ex_1 {A B : Nat → Int} {x y : Int} {i : Nat} (h1 : A i = x) (h2 : B i = y) : ∀ {n : Nat}, i < n → tg_ex A B x y n = 1
  | 0, h => absurd h (Nat.not_lt_zero i)
  | n + 1, h => by
    unfold tg_ex
    by_cases z : i = n
    · subst z
      rw [if_pos ⟨h1, h2⟩]
    · split
      · rfl
      · exact tg_ex_1 h1 h2 (by omega)
theorem tg_em_1 {A B : Nat → Int} {c : Int} {i : Nat} (h1 : A i = c ∨ B i = c) : ∀ {n : Nat}, i < n → tg_em A B c n = 1
  | 0, h => absurd h (Nat.not_lt_zero i)
  | n + 1, h => by
    unfold tg_em
    by_cases z : i = n
    · subst z
      rw [if_pos h1]
    · split
      · rfl
      · exact tg_em_1 h1 (by omega)
theorem tg_em_0 {A B : Nat → Int} {c : Int} : ∀ {n : Nat}, (∀ i : Nat, i < n → ¬ A i = c ∧ ¬ B i = c) → tg_em A B c n = 0
  | 0, _ => rfl
  | n + 1, h => by
    unfold tg_em
    have h1 := h n (by omega)
    rw [if_neg (fun z => z.elim h1.1 h1.2)]
    exact tg_em_0 fun i hi => h i (by omega)
