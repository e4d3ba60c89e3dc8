/-! FROM THE LAW'S START TO ITS LOOP -/
theorem sv_Vs {σ : Nat → Int} : ∀ l : List Value, ac_Vs σ (l.map Sum.inl) l
  | [] => trivial
  | _ :: l => ⟨rfl, sv_Vs l⟩
def sv_f0 : List Value := match mx_nth mx_DF 11 with
  | some l => l
  | none => []
def sv_f1 : List Value := match mx_nth mx_DF 12 with
  | some l => l
  | none => []
theorem sv_d0 : mx_nth mx_DF 11 = some sv_f0 := rfl
theorem sv_d1 : mx_nth mx_DF 12 = some sv_f1 := rfl
theorem sv_M0 : as_M0 = ax_ma (0, ax_te 8) (.inl (11, sv_f0.map Sum.inl)) := rfl
theorem sv_M2 : as_M2 = ax_ma as_M1 (.inl (12, sv_f1.map Sum.inl)) := rfl
theorem sv_n1 : as_M1.1 = 129 := by decide +kernel
theorem sv_new {SA : mx_S} {pc ci n : Nat} {lv : mx_L} {st : List Value} {M : mx_M} {fs : List Value} (hd : mx_nth mx_DF ci = some fs) (hl : M.length = n) (hn : n < 999) : mr_o SA (61, ci, 0, []) (pc, lv, st, M) = some (pc + 3, lv, .ref n :: st, M ++ [.inl (ci, fs)]) := by
  show (match mx_nth mx_DF ci with
    | some fs => mx_new ci fs (pc, lv, st, M)
    | none => none) = _
  rw [hd]
  show (bif Nat.blt M.length 999 then some (pc + 3, lv, Value.ref M.length :: st, M ++ [.inl (ci, fs)]) else none) = _
  rw [hl, Nat.blt_eq.mpr hn]
  rfl
theorem sv_go {SA : mx_S} {σ : Nat → Int} (hS : ac_S σ mx_SAx SA at_P) : ∃ N, ac_M σ as_M3 N ∧ ∀ (r : Option Value) (M' : mx_M), (∃ n, sx_rn SA 200 1000 n (18, [(3, .int 0), (2, .ref 129), (1, .ref 0), (0, .ref 1300)], [], N) r M') → ∃ n, sx_rn SA 200 1000 n (0, [(0, .ref 1300)], [], []) r M' := by
  have a0 : ac_M σ as_M0 [.inl (11, sv_f0)] := by
    rw [sv_M0]
    have h0 : ac_E σ (.inl (11, sv_f0.map Sum.inl)) (.inl (11, sv_f0)) := ⟨sv_f0, rfl, sv_Vs _⟩
    have hn : ac_M σ (0, ax_te 8) [] := ⟨rfl, Nat.zero_le _, fun q hq => absurd hq (Nat.not_lt_zero q)⟩
    exact ac_M_app h0 (by show 0 < 256; omega) hn
  obtain ⟨N1, h1, a1⟩ := ax_chk_sound (e := at_O1) hS at_c1 [.ref 0] [.inl (11, sv_f0)] ⟨rfl, trivial⟩ a0
  have l1 : N1.length = 129 := a1.1.symm.trans sv_n1
  have a1 : ac_M σ as_M1 N1 := a1
  have a2 : ac_M σ as_M2 (N1 ++ [(Sum.inl (12, sv_f1) : mx_E)]) := by
    rw [sv_M2]
    have h0 : ac_E σ (.inl (12, sv_f1.map Sum.inl)) (.inl (12, sv_f1)) := ⟨sv_f1, rfl, sv_Vs _⟩
    exact ac_M_app h0 (by rw [sv_n1]; omega) a1
  have a2' : ac_M σ at_O2.2.2.1 (N1 ++ [(Sum.inl (12, sv_f1) : mx_E)]) := a2
  obtain ⟨N2, h2, a3⟩ := ax_chk_sound (e := at_O2) hS at_c2 [.ref 129] (N1 ++ [(Sum.inl (12, sv_f1) : mx_E)]) ⟨rfl, trivial⟩ a2'
  refine ⟨N2, a3, fun r M' h => ?_⟩
  refine mr_op (c' := (3, [(0, .ref 1300)], [.ref 0], [.inl (11, sv_f0)])) (sv_new (SA := SA) (M := []) sv_d0 rfl (by omega)) ?_
  refine mr_op (c' := (4, [(0, .ref 1300)], [.ref 0, .ref 0], [.inl (11, sv_f0)])) rfl ?_
  refine mr_call (i := (70, 118, 1, [98])) (as' := [.ref 0]) (rest := [.ref 0]) rfl rfl rfl rfl (by decide) rfl h1 ?_
  refine mr_op (c' := (8, [(1, .ref 0), (0, .ref 1300)], [], N1)) rfl ?_
  refine mr_op (c' := (11, [(1, .ref 0), (0, .ref 1300)], [.ref 129], N1 ++ [(Sum.inl (12, sv_f1) : mx_E)])) (sv_new (SA := SA) sv_d1 l1 (by omega)) ?_
  refine mr_op (c' := (12, [(1, .ref 0), (0, .ref 1300)], [.ref 129, .ref 129], N1 ++ [(Sum.inl (12, sv_f1) : mx_E)])) rfl ?_
  refine mr_call (i := (70, 181, 1, [98])) (as' := [.ref 129]) (rest := [.ref 129]) rfl rfl rfl rfl (by decide) rfl h2 ?_
  refine mr_op (c' := (16, [(2, .ref 129), (1, .ref 0), (0, .ref 1300)], [], N2)) rfl ?_
  refine mr_op (c' := (17, [(2, .ref 129), (1, .ref 0), (0, .ref 1300)], [.int 0], N2)) rfl ?_
  refine mr_op (c' := (18, [(3, .int 0), (2, .ref 129), (1, .ref 0), (0, .ref 1300)], [], N2)) rfl ?_
  exact h
