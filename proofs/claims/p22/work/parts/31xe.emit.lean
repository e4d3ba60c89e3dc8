/-! TEXTS: what is emitted, what stands in rows, what a text says (the proof's own words) -/
def tr_EF (T V : Nat → Int) (nx : Nat → Nat) (rec : Int → Int → Int → Nat → Nat → List Int → Prop) (w j o : Int) (k a : Nat) (L : List Int) : Prop :=
  (w = 5 ∧ T k = 2 ∧ a = nx k ∧ L = [V k]) ∨
  (w = 5 ∧ 256 ≤ T k ∧ T k ≤ 261 ∧ a = nx k ∧ L = [-1 - T k]) ∨
  (w = 5 ∧ o ≤ 4 ∧ T k = 40 ∧ ∃ b, rec 0 0 (o + 1) (nx k) b L ∧ T b = 41 ∧ a = nx b) ∨
  (w = 5 ∧ o ≤ 4 ∧ T k = 45 ∧ ∃ L1, rec 5 0 (o + 1) (nx k) a L1 ∧ L = L1 ++ [-4]) ∨
  (10 ≤ w ∧ w ≤ 14 ∧ tr_jn w j (T k) = false ∧ a = k ∧ L = []) ∨
  (10 ≤ w ∧ w ≤ 14 ∧ tr_jn w j (T k) = true ∧ ∃ b L1 L2, rec (w - 9) 0 o (nx k) b L1 ∧ rec w (if w = 12 then j + 1 else 0) o b a L2 ∧ L = L1 ++ (-1 - T k) :: L2) ∨
  (w = 2 ∧ T k = 268 ∧ o ≤ 4 ∧ ∃ L1, rec 2 0 (o + 1) (nx k) a L1 ∧ L = L1 ++ [-269]) ∨
  (0 ≤ w ∧ w ≤ 4 ∧ ¬ (w = 2 ∧ T k = 268) ∧ ∃ b L1 L2, rec (w + 1) 0 o k b L1 ∧ rec (w + 10) 0 o b a L2 ∧ L = L1 ++ L2)
/-- what a level, a loop emits from token k on, which it ends at a -/
def tr_em (T V : Nat → Int) (nx : Nat → Nat) : Nat → Int → Int → Int → Nat → Nat → List Int → Prop
  | 0 => fun _ _ _ _ _ _ => False
  | m + 1 => tr_EF T V nx (tr_em T V nx m)
/-- the number of the digits from f on -/
def tr_nb (A : Nat → Int) (f : Nat) : Nat → Int
  | 0 => 0
  | n + 1 => sx_fn 10 (sx_fn 9 (sx_fn 11 (tr_nb A f n) 10) (A (f + n))) 48
/-- a number's value -/
def tr_vl (A : Nat → Int) (n f : Nat) : Int := tr_nb A f (tr_ut A n f - f)
/-- items that stand from u on -/
def tr_sw (E : Int → Nat → Prop) : Nat → List Int → Prop
  | _, [] => True
  | u, c :: l => E c u ∧ tr_sw E (u + 1) l
def tr_ec (C : Nat → Int) (c : Int) (i : Nat) : Prop := C i = c
/-- the reference's step for an item -/
def tr_it (c a w : Int) : Prop := (0 ≤ c ∧ a = 1 ∧ w = c) ∨ (-262 ≤ c ∧ c ≤ -257 ∧ a = 2 ∧ w = -257 - c) ∨ (c = -4 ∧ a = 4) ∨ (c = -269 ∧ a = 3) ∨ (c = -268 ∧ a = 5) ∨ (c = -267 ∧ a = 6) ∨ ((c = -43 ∨ c = -44 ∨ c = -46 ∨ c = -61 ∨ c = -62) ∧ a = -1 - c)
def tr_er (A W : Nat → Int) (c : Int) (i : Nat) : Prop := tr_it c (A i) (W i)
def tr_ems (T V : Nat → Int) (nx : Nat → Nat) (E : Int → Nat → Prop) (w j o f r f2 u0 u1 : Int) : Prop := r = 1 → 0 ≤ f ∧ 0 ≤ f2 ∧ 0 ≤ u0 ∧ ∃ m L, tr_em T V nx m w (tr_nj w j) o f.toNat f2.toNat L ∧ u1 = u0 + (L.length : Int) ∧ tr_sw E u0.toNat L
/-- parts of a text, c of them, from part p on, that stand where st says -/
def tr_tx (T V : Nat → Int) (nx : Nat → Nat) (st : Int → Nat → Nat → Prop) (E : Int → Nat → Prop) : Nat → Int → Nat → Nat → Nat → Prop
  | 0, _, _, u, ue => ue = u
  | c + 1, p, f, u, ue => ∃ m b L, T f = 262 + p ∧ tr_em T V nx m 0 0 0 (nx f) b L ∧ T b = 59 ∧ st p u (u + L.length) ∧ tr_sw E u L ∧ tr_tx T V nx st E c (p + 1) (nx b) (u + L.length) ue
def tr_sC (ST EN : Nat → Int) (S : Nat) (p : Int) (u v : Nat) : Prop := ST (4 * S + p.toNat) = (u : Int) ∧ EN (4 * S + p.toNat) = (v : Int)
def tr_sR (PE : Nat → Int) (S : Nat) (p : Int) (_ v : Nat) : Prop := PE (4 * S + p.toNat) = (v : Int)
def tr_sh (A W : Nat → Int) (S : Nat) (c : Int) (i : Nat) : Prop := tr_er A W c (170 * S + i)
/-- how many numbers lie on the pile -/
def tr_h1 (c : Int) (d : Nat) : Nat := if 0 ≤ c ∨ (-262 ≤ c ∧ c ≤ -257) then d + 1 else if c = -4 ∨ c = -269 then max d 1 else max (d - 1) 1
def tr_ht : List Int → Nat → Nat
  | [], d => d
  | c :: l, d => tr_ht l (tr_h1 c d)
def tr_lo (PE : Nat → Int) (t p : Nat) : Int := if p = 0 then 0 else PE (4 * t + p - 1)
/-- all texts below S are alike -/
def tr_rel (C ST EN A W PE : Nat → Int) (S : Int) : Prop := 1 ≤ S ∧ 0 ≤ EN (4 * S - 1).toNat ∧ EN (4 * S - 1).toNat ≤ 160 * S ∧ ∀ t p : Nat, (t : Int) < S → p < 4 → ∃ L : List Int, tr_ht L 0 = 1 ∧ 0 ≤ ST (4 * t + p) ∧ EN (4 * t + p) = ST (4 * t + p) + (L.length : Int) ∧ EN (4 * t + p) ≤ EN (4 * S - 1).toNat ∧ L.length ≤ 160 ∧ tr_sw (tr_ec C) (ST (4 * t + p)).toNat L ∧ 0 ≤ tr_lo PE t p ∧ PE (4 * t + p) = tr_lo PE t p + (L.length : Int) ∧ PE (4 * t + p) ≤ 170 ∧ tr_sw (tr_er A W) (170 * t + (tr_lo PE t p).toNat) L
/-! what a text says -/
def tr_hd (l : List Int) : Int := match l with
  | [] => 0
  | c :: _ => c
def tr_tl (l : List Int) : List Int := match l with
  | [] => []
  | _ :: l => l
def tr_op (t a b : Int) : Int := if t = 43 then sx_fn 9 a b else if t = 45 then sx_fn 10 a b else if t = 42 then sx_fn 11 a b else if t = 60 then (if a < b then 1 else 0) else if t = 61 then (if a = b then 1 else 0) else if t = 267 then (if ¬ a = 0 ∧ ¬ b = 0 then 1 else 0) else if t = 266 then (if ¬ a = 0 ∨ ¬ b = 0 then 1 else 0) else 0
def tr_ob (t a b : Int) : Int := if t = 43 ∨ t = 45 ∨ t = 42 ∨ t = 60 ∨ t = 61 then tr_op t a b else if t = 5 then tr_op 267 a b else tr_op 266 a b
def tr_no (y : Int) : Int := if y = 0 then 1 else 0
def tr_ev1 (nm : Int → Int) (c : Int) (st : List Int) : List Int :=
  if 0 ≤ c then c :: st else if -262 ≤ c ∧ c ≤ -257 then nm (-257 - c) :: st else if c = -4 then sx_fn 16 (tr_hd st) 0 :: tr_tl st else if c = -269 then tr_no (tr_hd st) :: tr_tl st else tr_op (-1 - c) (tr_hd (tr_tl st)) (tr_hd st) :: tr_tl (tr_tl st)
def tr_ev2 (nm : Int → Int) (a w : Int) (st : List Int) : List Int :=
  if a = 1 then w :: st else if a = 2 then nm w :: st else if a = 4 then sx_fn 16 (tr_hd st) 0 :: tr_tl st else if a = 3 then tr_no (tr_hd st) :: tr_tl st else tr_ob a (tr_hd (tr_tl st)) (tr_hd st) :: tr_tl (tr_tl st)
def tr_rf (stp : Nat → List Int → List Int) : Nat → Nat → List Int → List Int
  | _, 0, st => st
  | u, n + 1, st => tr_rf stp (u + 1) n (stp u st)
def tr_nr (F : Nat → Int) (i : Int) : Int := F i.toNat
def tr_stC (F C : Nat → Int) (i : Nat) (st : List Int) : List Int := tr_ev1 (tr_nr F) (C i) st
def tr_stR (F A W : Nat → Int) (i : Nat) (st : List Int) : List Int := tr_ev2 (tr_nr F) (A i) (W i) st
/-- a pile in a row -/
def tr_pi (K : Nat → Int) : Nat → List Int → Prop
  | u, [] => u = 0
  | u, c :: l => ∃ v, u = v + 1 ∧ K v = c ∧ tr_pi K v l
/-- what part p of text t leaves -/
def tr_sy (F A W PE : Nat → Int) (t p : Nat) : List Int := tr_rf (tr_stR F A W) (170 * t + (tr_lo PE t p).toNat) (PE (4 * t + p) - tr_lo PE t p).toNat []
def tr_ct (P : Nat → Int) (x : Int) : Nat → Int
  | 0 => 0
  | n + 1 => tr_ct P x n + (if P n = x then 1 else 0)
def tr_nf (F : Nat → Int) (n kd : Int) (j : Nat) : Int := if j = 5 then 0 else if j = 4 then kd else if j = 3 then n else if j < 3 then 0 else F j
def tr_cl (x : Int) : Int := if x < 0 then 0 else if 5 < x then 5 else x
def sx_TGe : Nat → List (Nat → Int) → List Int → Prop := fun k as es => match k, as, es with
  | 1042, [C], [f, i, v] => 0 ≤ f ∧ f ≤ i ∧ v = tr_nb C f.toNat (i - f).toNat
  | 1043, [R], [f, u, v] => 0 ≤ f ∧ f ≤ u ∧ v = tr_nb R f.toNat (if 5 ≤ u - f then 5 else (u - f).toNat)
  | 1044, [R], [n, f, t, v] => t = 2 → v = tr_vl R n.toNat f.toNat
  | 1062, [T, V, C], [w, j, o, f, r, f2, u0, u1] => tr_ems T V (fun i => i + 1) (tr_ec C) w j o f r f2 u0 u1
  | 1063, [R, A, W], [n, w, j, o, f, r, f2, u0, u1] => tr_ems (tr_kd R n.toNat) (tr_vl R n.toNat) (tr_nx R n.toNat) (tr_er A W) w j o f r f2 u0 u1
  | 1081, [C, ST, EN, A, W, PE], [S] => tr_rel C ST EN A W PE S
  | 1082, [C, C1, ST, EN, E0], [n, S] => 0 ≤ S ∧ 0 ≤ E0 (4 * S - 1).toNat ∧ ∃ ue : Nat, (ue : Int) ≤ E0 (4 * S - 1).toNat + 160 ∧ tr_tx (tr_kd C n.toNat) (tr_vl C n.toNat) (tr_nx C n.toNat) (tr_sC ST EN S.toNat) (tr_ec C1) 4 0 (tr_e 0 C n.toNat 0) (E0 (4 * S - 1).toNat).toNat ue
  | 1083, [R, A, W, PE], [n, S] => 0 ≤ S ∧ ∃ le : Nat, tr_tx (tr_kd R n.toNat) (tr_vl R n.toNat) (tr_nx R n.toNat) (tr_sR PE S.toNat) (tr_sh A W S.toNat) 4 0 (tr_e 0 R n.toNat 0) 0 le
  | 1084, [a, b], [k] => ∀ i : Nat, (i : Int) < k → b i = a i
  | 1085, [a, b, e], [S] => ∀ i : Nat, (i : Int) < e (4 * S - 1).toNat → b i = a i
  | 1086, [R, A, W, PE], [n, p, f, S, l, le] => 0 ≤ p ∧ p ≤ 4 ∧ 0 ≤ f ∧ 0 ≤ S ∧ 0 ≤ l ∧ 0 ≤ le ∧ tr_tx (tr_kd R n.toNat) (tr_vl R n.toNat) (tr_nx R n.toNat) (tr_sR PE S.toNat) (tr_sh A W S.toNat) (4 - p).toNat p f.toNat l.toNat le.toNat
  | 1088, [T, V, C, ST, EN], [p, f, S, u, ue] => 0 ≤ p ∧ p ≤ 4 ∧ 0 ≤ f ∧ 0 ≤ S ∧ 0 ≤ u ∧ 0 ≤ ue ∧ tr_tx T V (fun i => i + 1) (tr_sC ST EN S.toNat) (tr_ec C) (4 - p).toNat p f.toNat u.toNat ue.toNat
  | 1089, [e], [S] => 0 ≤ e (4 * S - 1).toNat ∧ e (4 * S - 1).toNat ≤ 160 * S
  | 1091, [C, F, K], [s, i, u] => 0 ≤ s ∧ s ≤ i ∧ 0 ≤ u ∧ tr_pi K u.toNat (tr_rf (tr_stC F C) s.toNat (i - s).toNat [])
  | 1092, [], [t, a, b, x] => x = tr_op t a b
  | 1093, [C, F], [s, e, x] => 0 ≤ s ∧ s ≤ e ∧ x = tr_hd (tr_rf (tr_stC F C) s.toNat (e - s).toNat [])
  | 1095, [C, ST, EN, F], [t, p, x] => x = tr_hd (tr_rf (tr_stC F C) (ST (4 * t + p).toNat).toNat (EN (4 * t + p).toNat - ST (4 * t + p).toNat).toNat [])
  | 1096, [A, W, PE, F], [t, p, x] => 0 ≤ t ∧ 1 ≤ p ∧ ((tr_sy F A W PE t.toNat p.toNat).length = 1 → x = tr_hd (tr_sy F A W PE t.toNat p.toNat))
  | 1098, [C, T, V], [n, m] => ∀ k : Nat, (k : Int) < m → T k = 2 → V k = tr_vl C n.toNat (tr_pc C n.toNat k)
  | 1099, [ST, EN], [S] => ∀ i : Nat, (i : Int) < 4 * S → 0 ≤ ST i ∧ ST i ≤ EN i ∧ EN i - ST i ≤ 160 ∧ EN i ≤ 960
  | 1101, [A, W, PE, F, K], [t, p, k, n] => 0 ≤ t ∧ 1 ≤ p ∧ 0 ≤ n ∧ 0 ≤ tr_lo PE t.toNat p.toNat ∧ 170 * t + tr_lo PE t.toNat p.toNat ≤ k ∧ k ≤ 170 * t + PE (4 * t + p).toNat ∧ tr_pi K n.toNat (tr_rf (tr_stR F A W) (170 * t + tr_lo PE t.toNat p.toNat).toNat (k - (170 * t + tr_lo PE t.toNat p.toNat)).toNat [])
  | 1102, [PE], [S] => ∀ t p : Nat, (t : Int) < S → 1 ≤ p → p < 4 → 0 ≤ PE (4 * t + p - 1) ∧ PE (4 * t + p - 1) ≤ PE (4 * t + p)
  | 1104, [], [t, a, b, x] => x = tr_ob t a b
  | 1105, [P, G, K, Y, RT, RF, A, W, PE], [m, c, x] => 0 ≤ c ∧ ∃ F : Nat → Int, (tr_sy (tr_nf F (tr_ct P (P c.toNat) (c.toNat + 1)) (K c.toNat)) A W PE (tr_at RT 0 (tr_bt RF (Y (G c.toNat).toNat) m.toNat)).toNat 3).length = 1 → x = tr_cl (tr_hd (tr_sy (tr_nf F (tr_ct P (P c.toNat) (c.toNat + 1)) (K c.toNat)) A W PE (tr_at RT 0 (tr_bt RF (Y (G c.toNat).toNat) m.toNat)).toNat 3))
  | 1107, [P], [c, o, n] => 0 ≤ c ∧ 0 ≤ o ∧ n = tr_ct P (P c.toNat) o.toNat
  | k, as, es => sx_TGr k as es
