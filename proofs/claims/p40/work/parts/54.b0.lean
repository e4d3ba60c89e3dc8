/-! MEMORIES THAT ARE ALIKE; CALLS WHOSE END IS KNOWN -/
def ae_V (a b : ax_V) : Bool := match a, b with
  | .inl (.int x), .inl (.int y) => x == y
  | .inl (.long x), .inl (.long y) => x == y
  | .inl (.ref x), .inl (.ref y) => Nat.beq x y
  | .inl .null, .inl .null => true
  | _, _ => false
def ae_Vs : List ax_V → List ax_V → Bool
  | [], [] => true
  | a :: l, b :: r => ae_V a b && ae_Vs l r
  | _, _ => false
def ae_fn (f g : Nat → Int32) : Nat → Bool
  | 0 => true
  | n + 1 => f n == g n && ae_fn f g n
def ae_fl (f g : Nat → Int64) : Nat → Bool
  | 0 => true
  | n + 1 => f n == g n && ae_fl f g n
def ae_A (x y : vp_A) : Bool := Nat.beq x.1 y.1 && (match x.2, y.2 with
  | .inl f, .inl g => ae_fn f g x.1
  | .inr (.inl f), .inr (.inl g) => ae_fl f g x.1
  | _, _ => false)
def ae_E (a b : ax_E) : Bool := match a, b with
  | .inl p, .inl q => Nat.beq p.1 q.1 && ae_Vs p.2 q.2
  | .inr (.inl p), .inr (.inl q) => Nat.beq p.1 q.1 && ae_A p.2 q.2
  | _, _ => false
def ae_Q (a b : Option ax_E) : Bool := match a, b with
  | some a, some b => ae_E a b
  | _, _ => false
def ae_Ms (M N : ax_M) : Nat → Bool
  | 0 => true
  | n + 1 => ae_Q (ax_tg 8 M.2 n) (ax_tg 8 N.2 n) && ae_Ms M N n
def ae_M (M N : ax_M) : Bool := Nat.beq M.1 N.1 && ae_Ms M N M.1
def ae_lit (n : Nat) (l : List Int) : vp_A := (n, .inl fun i => Int32.ofInt (l.getD i 0))
def ax_bld (M : ax_M) (l : List ax_E) : ax_M := l.foldl ax_ma M
abbrev ax_Or : Type := List (Nat × List ax_V × ax_M × ax_M)
def ae_find (k : Nat) (as : List ax_V) (M : ax_M) : ax_Or → Option ax_M
  | [] => none
  | e :: r => bif Nat.beq e.1 k && (ae_Vs as e.2.1 && ae_M M e.2.2.1) then some e.2.2.2 else ae_find k as M r
def ax_orc (O : ax_Or) (call : Nat → List ax_V → ax_M → ax_B → Option (List ax_O)) (k : Nat) (as : List ax_V) (M : ax_M) (B : ax_B) : Option (List ax_O) := match ae_find k as M O with
  | some N => some [(none, N, B)]
  | none => call k as M B
def ax_chk (P : ax_P) (e : Nat × List ax_V × ax_M × ax_M) : Bool := match ax_call mx_SAx P [] 7 5000 200 e.1 e.2.1 e.2.2.1 [] with
  | some [(none, M, _)] => ae_M M e.2.2.2
  | _ => false
theorem ae_V_eq {a b : ax_V} (h : ae_V a b = true) : a = b := by
  unfold ae_V at h
  split at h
  · rw [eq_of_beq h]
  · rw [eq_of_beq h]
  · rw [Nat.eq_of_beq_eq_true h]
  · rfl
  · cases h
theorem ae_Vs_eq : ∀ {a b : List ax_V}, ae_Vs a b = true → a = b
  | [], [], _ => rfl
  | [], _ :: _, h => by cases h
  | _ :: _, [], h => by cases h
  | a :: l, b :: r, h => by
    unfold ae_Vs at h
    rw [Bool.and_eq_true] at h
    rw [ae_V_eq h.1, ae_Vs_eq h.2]
theorem ae_fn_eq {f g : Nat → Int32} : ∀ {n : Nat}, ae_fn f g n = true → ∀ j, j < n → f j = g j
  | 0, _, j, hj => absurd hj (Nat.not_lt_zero j)
  | n + 1, h, j, hj => by
    unfold ae_fn at h
    rw [Bool.and_eq_true] at h
    by_cases z : j = n
    · rw [z]; exact eq_of_beq h.1
    · exact ae_fn_eq h.2 j (by omega)
theorem ae_fl_eq {f g : Nat → Int64} : ∀ {n : Nat}, ae_fl f g n = true → ∀ j, j < n → f j = g j
  | 0, _, j, hj => absurd hj (Nat.not_lt_zero j)
  | n + 1, h, j, hj => by
    unfold ae_fl at h
    rw [Bool.and_eq_true] at h
    by_cases z : j = n
    · rw [z]; exact eq_of_beq h.1
    · exact ae_fl_eq h.2 j (by omega)
theorem ae_A_ag {x x' y : vp_A} (h : ae_A x x' = true) (hy : ac_ag x y) : ac_ag x' y := by
  obtain ⟨n, f⟩ := x
  obtain ⟨n', f'⟩ := x'
  unfold ae_A at h
  rw [Bool.and_eq_true] at h
  obtain ⟨h1, h2⟩ := h
  have h1 : n = n' := Nat.eq_of_beq_eq_true h1
  subst h1
  simp only at h2
  split at h2
  · next f g =>
    obtain ⟨k, rfl, e⟩ := ac_ag_int hy
    exact ⟨rfl, fun j hj => (ae_fn_eq h2 j hj).symm.trans (e j hj)⟩
  · next f g =>
    obtain ⟨k, rfl, e⟩ := ac_ag_long hy
    exact ⟨rfl, fun j hj => (ae_fl_eq h2 j hj).symm.trans (e j hj)⟩
  · cases h2
theorem ae_E_sound {σ : Nat → Int} {a b : ax_E} {e : mx_E} (h : ae_E a b = true) (he : ac_E σ a e) : ac_E σ b e := by
  unfold ae_E at h
  split at h
  · next p q =>
    rw [Bool.and_eq_true] at h
    have h1 := Nat.eq_of_beq_eq_true h.1
    have h2 := ae_Vs_eq h.2
    obtain ⟨p1, p2⟩ := p
    obtain ⟨q1, q2⟩ := q
    have h1 : p1 = q1 := h1
    have h2 : p2 = q2 := h2
    subst h1
    subst h2
    exact he
  · next p q =>
    rw [Bool.and_eq_true] at h
    have h1 := Nat.eq_of_beq_eq_true h.1
    obtain ⟨p1, p2⟩ := p
    obtain ⟨q1, q2⟩ := q
    have h1 : p1 = q1 := h1
    subst h1
    obtain ⟨y, rfl, e2⟩ := he
    exact ⟨y, rfl, ae_A_ag h.2 e2⟩
  · cases h
theorem ae_Ms_at {M N : ax_M} : ∀ {n : Nat}, ae_Ms M N n = true → ∀ q, q < n → ae_Q (ax_tg 8 M.2 q) (ax_tg 8 N.2 q) = true
  | 0, _, q, hq => absurd hq (Nat.not_lt_zero q)
  | n + 1, h, q, hq => by
    unfold ae_Ms at h
    rw [Bool.and_eq_true] at h
    by_cases z : q = n
    · rw [z]; exact h.1
    · exact ae_Ms_at h.2 q (by omega)
theorem ae_M_sound {σ : Nat → Int} {M N : ax_M} {K : mx_M} (h : ae_M M N = true) (hM : ac_M σ M K) : ac_M σ N K := by
  unfold ae_M at h
  rw [Bool.and_eq_true] at h
  have h1 := Nat.eq_of_beq_eq_true h.1
  refine ⟨h1 ▸ hM.1, h1 ▸ hM.2.1, fun q hq => ?_⟩
  have hq : q < M.1 := by rw [h1]; exact hq
  obtain ⟨a, e, e1, e2, e3⟩ := hM.2.2 q hq
  have h3 := ae_Ms_at h.2 q hq
  rw [e1] at h3
  unfold ae_Q at h3
  split at h3
  · next a' b ha hb =>
    cases ha
    exact ⟨b, e, hb, e2, ae_E_sound h3 e3⟩
  · cases h3
/-- the known ends are right -/
def ac_Or (σ : Nat → Int) (SA' : mx_S) (d : Nat) (O : ax_Or) : Prop := ∀ e ∈ O, ∀ (as' : List Value) (N : mx_M), ac_Vs σ e.2.1 as' → ac_M σ e.2.2.1 N → ∃ N', mx_Ev SA' mx_code d e.1 as' N none N' ∧ ac_M σ e.2.2.2 N'
theorem ae_find_some {k : Nat} {as : List ax_V} {M N : ax_M} : ∀ {O : ax_Or}, ae_find k as M O = some N → ∃ e ∈ O, e.1 = k ∧ as = e.2.1 ∧ ae_M M e.2.2.1 = true ∧ N = e.2.2.2
  | [], h => by cases h
  | e :: r, h => by
    unfold ae_find at h
    cases hb : (Nat.beq e.1 k && (ae_Vs as e.2.1 && ae_M M e.2.2.1)) with
    | true =>
      rw [hb] at h
      cases h
      rw [Bool.and_eq_true, Bool.and_eq_true] at hb
      exact ⟨e, List.mem_cons_self, Nat.eq_of_beq_eq_true hb.1, ae_Vs_eq hb.2.1, hb.2.2, rfl⟩
    | false =>
      rw [hb] at h
      obtain ⟨e', h1, h2⟩ := ae_find_some (O := r) h
      exact ⟨e', List.mem_cons_of_mem _ h1, h2⟩
theorem ax_orc_sound {σ : Nat → Int} {SA' : mx_S} {d : Nat} {O : ax_Or} {call : Nat → List ax_V → ax_M → ax_B → Option (List ax_O)} (hO : ac_Or σ SA' d O)
    (hcall : ∀ k as as' M N B os, call k as M B = some os → ac_Vs σ as as' → ac_M σ M N → ac_B σ B → ac_Os σ os (mx_Ev SA' mx_code d k as' N)) :
    ∀ k as as' M N B os, ax_orc O call k as M B = some os → ac_Vs σ as as' → ac_M σ M N → ac_B σ B → ac_Os σ os (mx_Ev SA' mx_code d k as' N) := by
  intro k as as' M N B os h ha hM hB
  unfold ax_orc at h
  split at h
  · next N2 hN =>
    cases h
    obtain ⟨e, e1, rfl, rfl, e4, rfl⟩ := ae_find_some hN
    obtain ⟨N', f1, f2⟩ := hO e e1 as' N ha (ae_M_sound e4 hM)
    exact ⟨_, List.mem_singleton.mpr rfl, hB, none, N', f1, trivial, f2⟩
  · exact hcall k as as' M N B os h ha hM hB
theorem ac_B_nil {σ : Nat → Int} : ac_B σ [] := fun s p h => by simp at h
theorem ac_D_nil {σ : Nat → Int} {n0 : Nat} : ac_D σ [] n0 := fun o s t y h => by simp [ax_der] at h
theorem ax_chk_sound {σ : Nat → Int} {SA' : mx_S} {P : ax_P} {e : Nat × List ax_V × ax_M × ax_M} (hS : ac_S σ mx_SAx SA' P) (h : ax_chk P e = true) (as' : List Value) (N : mx_M) (ha : ac_Vs σ e.2.1 as') (hM : ac_M σ e.2.2.1 N) : ∃ N', mx_Ev SA' mx_code 200 e.1 as' N none N' ∧ ac_M σ e.2.2.2 N' := by
  unfold ax_chk at h
  split at h
  · next M B hM2 =>
    obtain ⟨o, e1, -, r, N', e2, e3, e4⟩ := ax_call_sound hS ac_D_nil 200 _ _ _ _ _ _ _ hM2 ha hM ac_B_nil
    rw [List.mem_singleton.mp e1] at e3 e4
    cases r with
    | some v => exact e3.elim
    | none => exact ⟨N', e2, ae_M_sound h e4⟩
  · cases h
/-- how many slots a memory has -/
def ax_szE : ax_E → Nat
  | .inl p => p.2.length
  | .inr (.inl p) => p.2.1
  | .inr (.inr p) => p.2
def ax_szs (M : ax_M) : Nat → Nat
  | 0 => 0
  | n + 1 => ax_szs M n + (match ax_tg 8 M.2 n with
    | some e => ax_szE e
    | none => 0)
theorem ax_szE_eq {σ : Nat → Int} {a : ax_E} {e : mx_E} (h : ac_E σ a e) : mx_szE e = ax_szE a := by
  match a, h with
  | .inl (ci, fs), h =>
    obtain ⟨gs, rfl, h2⟩ := h
    exact (ac_Vs_len h2).symm
  | .inr (.inl (t, x)), h =>
    obtain ⟨y, rfl, h2⟩ := h
    exact h2.1.symm
  | .inr (.inr (t, n)), h =>
    obtain ⟨y, rfl, h2, -⟩ := h
    exact h2
theorem ax_szs_take {σ : Nat → Int} {M : ax_M} {N : mx_M} (hM : ac_M σ M N) : ∀ n, n ≤ M.1 → mx_sz (N.take n) = ax_szs M n
  | 0, _ => by simp [mx_sz, ax_szs]
  | n + 1, h => by
    obtain ⟨a, e, e1, e2, e3⟩ := hM.2.2 n h
    have hl : n < N.length := (List.getElem?_eq_some_iff.mp e2).1
    have ht : N.take (n + 1) = N.take n ++ [e] := by
      rw [List.take_succ, e2]
      rfl
    rw [ht, mx_sz_app, ax_szs_take hM n (by omega), ax_szE_eq e3]
    show ax_szs M n + ax_szE a = ax_szs M n + (match ax_tg 8 M.2 n with
      | some e => ax_szE e
      | none => 0)
    rw [e1]
theorem ax_szs_eq {σ : Nat → Int} {M : ax_M} {N : mx_M} (hM : ac_M σ M N) : mx_sz N = ax_szs M M.1 := by
  rw [← ax_szs_take hM M.1 (Nat.le_refl _), hM.1, List.take_length]
/-- a run that answers 1 at every end, with no more slots than are allowed -/
def ax_small (n : Nat) (M : ax_M) : Bool := Nat.ble (ax_szs M M.1) n
def ax_yes1 (n : Nat) (o : ax_O) : Bool := match o.1 with
  | some (.inl (.int x)) => x == 1 && ax_small n o.2.1
  | _ => false
def ax_yes (n : Nat) (os : List ax_O) : Bool := os.all (ax_yes1 n)
theorem ax_yes_at {n : Nat} {os : List ax_O} (h : ax_yes n os = true) (o : ax_O) (ho : o ∈ os) : o.1 = some (.inl (.int 1)) ∧ ax_szs o.2.1 o.2.1.1 ≤ n := by
  have h1 := List.all_eq_true.mp h o ho
  unfold ax_yes1 at h1
  split at h1
  · next x hx =>
    rw [Bool.and_eq_true] at h1
    exact ⟨by rw [hx, eq_of_beq h1.1], Nat.le_of_ble_eq_true h1.2⟩
  · cases h1
def ax_law (P : ax_P) (DT : ax_T) (O : ax_Or) (B : ax_B) : Bool := match ax_run mx_SAx P DT 7 (ax_orc O (ax_call mx_SAx P DT 7 5000 200)) mt_L 5000 (0, [(0, .inl (.ref P.1))], [], (0, ax_te 8), B) with
  | some os => ax_yes 1000000 os
  | none => false
theorem ax_law_sound {σ : Nat → Int} {SA' : mx_S} {P : ax_P} {DT : ax_T} {O : ax_Or} {B : ax_B} (hS : ac_S σ mx_SAx SA' P) (hD : ac_D σ DT 7) (hO : ac_Or σ SA' 200 O) (hB : ac_B σ B) (h : ax_law P DT O B = true) : ∃ N m, mx_run (mx_Ev SA' mx_code 200) (mx_op SA' mx_SF mx_DF 14) mt_L m (0, [(0, .ref P.1)], [], []) (some (.int 1)) N ∧ N.length ≤ 256 ∧ mx_sz N ≤ 1000000 := by
  unfold ax_law at h
  split at h
  · next os hos =>
    obtain ⟨o, e1, -, r, N, ⟨m, e2⟩, e3, e4⟩ := ax_run_sound hS hD (ax_orc_sound hO (ax_call_sound hS hD 200)) 5000 _ (0, [(0, .ref P.1)], [], []) os hos hB ⟨rfl, ⟨⟨rfl, rfl⟩, trivial⟩, trivial, rfl, Nat.zero_le _, fun q hq => absurd hq (Nat.not_lt_zero q)⟩
    obtain ⟨hy, hz⟩ := ax_yes_at h o e1
    rw [hy] at e3
    cases r with
    | none => exact e3.elim
    | some v =>
      have e3 : v = .int 1 := e3
      subst e3
      exact ⟨N, m, e2, by rw [← e4.1]; exact e4.2.1, by rw [ax_szs_eq e4]; exact hz⟩
  · cases h
