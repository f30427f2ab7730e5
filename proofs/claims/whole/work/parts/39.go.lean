/-! ===== the pure part: go, repeat ===== -/
theorem to_cond (x : Int32) : x.toInt = if 2 * x.toBitVec.toNat < 2 ^ 32 then (x.toBitVec.toNat : Int) else (x.toBitVec.toNat : Int) - 2 ^ 32 := BitVec.toInt_eq_toNat_cond x.toBitVec
theorem sched1 (x s : Int32) (K : Nat) (hK : K ≤ 27) (h1 : ((s.toUInt32 &&& Int32.toUInt32 31).toBitVec % 32).toNat = K) (h2 : ((s &&& 31).toBitVec.smod 32).toNat = K) (hdiv : ∀ (a b : Nat) (i j : Int), a < 2 ^ 32 → b < 2 ^ 32 → (i = if 2 * a < 2 ^ 32 then (a : Int) else (a : Int) - 2 ^ 32) → (j = if 2 * b < 2 ^ 32 then (b : Int) else (b : Int) - 2 ^ 32) → j = i / (2 ^ K : Nat) → b % 8 = a / 2 ^ K % 8) : ∃ e, e < 8 ∧ ((Int32.toUInt32 x >>> (Int32.toUInt32 s &&& Int32.toUInt32 31)).toInt32 &&& 7) = nI e ∧ ((x >>> (s &&& 31)) &&& 7) = nI e := by
  refine ⟨x.toBitVec.toNat / 2 ^ K % 8, Nat.mod_lt _ (by decide), ?_, ?_⟩
  · rw [pk_and _ 3 (by decide), pk_ushr x s K h1]
  · rw [pk_and _ 3 (by decide)]
    congr 1
    have hs := pk_shr x (s &&& 31) K h2
    rw [Int.shiftRight_eq_div_pow] at hs
    exact hdiv _ _ _ _ x.toBitVec.isLt (x >>> (s &&& 31)).toBitVec.isLt (to_cond x) (to_cond _) hs
theorem sched (x : Int32) (k : Nat) (hk : k ≤ 9) : ∃ e, e < 8 ∧ ((Int32.toUInt32 x >>> (Int32.toUInt32 (3 * nI k) &&& Int32.toUInt32 31)).toInt32 &&& 7) = nI e ∧ ((x >>> ((3 * nI k) &&& 31)) &&& 7) = nI e := by
  have hs : k = 0 ∨ k = 1 ∨ k = 2 ∨ k = 3 ∨ k = 4 ∨ k = 5 ∨ k = 6 ∨ k = 7 ∨ k = 8 ∨ k = 9 := by omega
  rcases hs with rfl | rfl | rfl | rfl | rfl | rfl | rfl | rfl | rfl | rfl
  · exact sched1 x (3 * nI 0) 0 (by decide) (by decide) (by decide) (fun a b i j _ _ h1 h2 h3 => by simp at h3; split at h1 <;> split at h2 <;> omega)
  · exact sched1 x (3 * nI 1) 3 (by decide) (by decide) (by decide) (fun a b i j _ _ h1 h2 h3 => by simp at h3; split at h1 <;> split at h2 <;> omega)
  · exact sched1 x (3 * nI 2) 6 (by decide) (by decide) (by decide) (fun a b i j _ _ h1 h2 h3 => by simp at h3; split at h1 <;> split at h2 <;> omega)
  · exact sched1 x (3 * nI 3) 9 (by decide) (by decide) (by decide) (fun a b i j _ _ h1 h2 h3 => by simp at h3; split at h1 <;> split at h2 <;> omega)
  · exact sched1 x (3 * nI 4) 12 (by decide) (by decide) (by decide) (fun a b i j _ _ h1 h2 h3 => by simp at h3; split at h1 <;> split at h2 <;> omega)
  · exact sched1 x (3 * nI 5) 15 (by decide) (by decide) (by decide) (fun a b i j _ _ h1 h2 h3 => by simp at h3; split at h1 <;> split at h2 <;> omega)
  · exact sched1 x (3 * nI 6) 18 (by decide) (by decide) (by decide) (fun a b i j _ _ h1 h2 h3 => by simp at h3; split at h1 <;> split at h2 <;> omega)
  · exact sched1 x (3 * nI 7) 21 (by decide) (by decide) (by decide) (fun a b i j _ _ h1 h2 h3 => by simp at h3; split at h1 <;> split at h2 <;> omega)
  · exact sched1 x (3 * nI 8) 24 (by decide) (by decide) (by decide) (fun a b i j _ _ h1 h2 h3 => by simp at h3; split at h1 <;> split at h2 <;> omega)
  · exact sched1 x (3 * nI 9) 27 (by decide) (by decide) (by decide) (fun a b i j _ _ h1 h2 h3 => by simp at h3; split at h1 <;> split at h2 <;> omega)
theorem go_lp {n c : Nat} {x : Int32} {src : QS} (hc : c ≤ 10) : ∀ (d k N B : Nat) (y : Int32) (r mem mu0 bu0 ou0 mu1 bu1 ou1 col : QS), k + d = c → d < N → B + d < 2 ^ 30 → RAll n B r src mem mu0 bu0 ou0 mu1 bu1 ou1 col → ∃ (a : Int32) (mem' mu0' bu0' ou0' mu1' bu1' ou1' col' R : QS), qfix qf_Qs_go_F17 N (x, nI c, y, nI k, mem, mu0, bu0, ou0, mu1, bu1, ou1, col) = some (a, mem', mu0', bu0', ou0', mu1', bu1', ou1', col') ∧ qfix qf_Ref_go_F17 N (x, nI c, y, nI k, r) = some (a, R) ∧ RAll n (B + d) R src mem' mu0' bu0' ou0' mu1' bu1' ou1' col' := by
  intro d
  induction d with
  | zero =>
    intro k N B y r mem mu0 bu0 ou0 mu1 bu1 ou1 col hk hN hB h
    obtain ⟨N, rfl⟩ : ∃ M, N = M + 1 := ⟨N - 1, by omega⟩
    obtain rfl : k = c := by omega
    refine ⟨y, mem, mu0, bu0, ou0, mu1, bu1, ou1, col, r, ?_, ?_, h⟩
    · show qf_Qs_go_B17 (qfix qf_Qs_go_F17 N) x (nI k) y (nI k) mem mu0 bu0 ou0 mu1 bu1 ou1 col = _
      unfold qf_Qs_go_B17
      rw [if_pos (nI_le (Nat.le_refl _) (by omega))]
    · show qf_Ref_go_B17 (qfix qf_Ref_go_F17 N) x (nI k) y (nI k) r = _
      unfold qf_Ref_go_B17
      rw [if_pos (nI_le (Nat.le_refl _) (by omega))]
  | succ d ih =>
    intro k N B y r mem mu0 bu0 ou0 mu1 bu1 ou1 col hk hN hB h
    obtain ⟨N, rfl⟩ : ∃ M, N = M + 1 := ⟨N - 1, by omega⟩
    obtain ⟨e, he, e1, e2⟩ := sched x k (by omega)
    obtain ⟨a, mem', mu0', bu0', ou0', mu1', bu1', ou1', col', R, ha, q1, q2, q3⟩ := entry_both (by omega) he h
    obtain ⟨a2, m2, u2, b2, o2, u3, b3, o3, c2, R2, z1, z2, z3⟩ := ih (k + 1) N (B + 1) (if a = 0 then y else y + 1) R mem' mu0' bu0' ou0' mu1' bu1' ou1' col' (by omega) (by omega) (by omega) q3
    refine ⟨a2, m2, u2, b2, o2, u3, b3, o3, c2, R2, ?_, ?_, by rw [show B + (d + 1) = B + 1 + d by omega]; exact z3⟩
    · rw [← z1]
      show qf_Qs_go_B17 (qfix qf_Qs_go_F17 N) x (nI c) y (nI k) mem mu0 bu0 ou0 mu1 bu1 ou1 col = _
      unfold qf_Qs_go_B17
      rw [if_neg (nI_ge (by omega) (by omega)), e1, q1, Option.bind_some, nI_1]
      by_cases h0 : a = 0
      · rw [if_pos h0, if_pos h0]
      · rw [if_neg h0, if_neg h0]
    · rw [← z2]
      show qf_Ref_go_B17 (qfix qf_Ref_go_F17 N) x (nI c) y (nI k) r = _
      unfold qf_Ref_go_B17
      rw [if_neg (nI_ge (by omega) (by omega)), e2, q2, Option.bind_some, nI_1]
      by_cases h0 : a = 0
      · rw [if_pos h0, if_pos h0]
      · rw [if_neg h0, if_neg h0]
theorem rep_lp {n c e : Nat} {src : QS} (hc : c ≤ 60) (he : e < 8) : ∀ (d k N B : Nat) (y : Int32) (r mem mu0 bu0 ou0 mu1 bu1 ou1 col : QS), k + d = c → d < N → B + d < 2 ^ 30 → RAll n B r src mem mu0 bu0 ou0 mu1 bu1 ou1 col → ∃ (a : Int32) (mem' mu0' bu0' ou0' mu1' bu1' ou1' col' R : QS), qfix qf_Qs_repeat_F27 N (nI e, nI c, y, nI k, mem, mu0, bu0, ou0, mu1, bu1, ou1, col) = some (a, mem', mu0', bu0', ou0', mu1', bu1', ou1', col') ∧ qfix qf_Ref_repeat_F27 N (nI e, nI c, y, nI k, r) = some (a, R) ∧ RAll n (B + d) R src mem' mu0' bu0' ou0' mu1' bu1' ou1' col' := by
  intro d
  induction d with
  | zero =>
    intro k N B y r mem mu0 bu0 ou0 mu1 bu1 ou1 col hk hN hB h
    obtain ⟨N, rfl⟩ : ∃ M, N = M + 1 := ⟨N - 1, by omega⟩
    obtain rfl : k = c := by omega
    refine ⟨y, mem, mu0, bu0, ou0, mu1, bu1, ou1, col, r, ?_, ?_, h⟩
    · show qf_Qs_repeat_B27 (qfix qf_Qs_repeat_F27 N) (nI e) (nI k) y (nI k) mem mu0 bu0 ou0 mu1 bu1 ou1 col = _
      unfold qf_Qs_repeat_B27
      rw [if_pos (nI_le (Nat.le_refl _) (by omega))]
    · show qf_Ref_repeat_B27 (qfix qf_Ref_repeat_F27 N) (nI e) (nI k) y (nI k) r = _
      unfold qf_Ref_repeat_B27
      rw [if_pos (nI_le (Nat.le_refl _) (by omega))]
  | succ d ih =>
    intro k N B y r mem mu0 bu0 ou0 mu1 bu1 ou1 col hk hN hB h
    obtain ⟨N, rfl⟩ : ∃ M, N = M + 1 := ⟨N - 1, by omega⟩
    obtain ⟨a, mem', mu0', bu0', ou0', mu1', bu1', ou1', col', R, ha, q1, q2, q3⟩ := entry_both (by omega) he h
    obtain ⟨a2, m2, u2, b2, o2, u3, b3, o3, c2, R2, z1, z2, z3⟩ := ih (k + 1) N (B + 1) (if a = 0 then y else y + 1) R mem' mu0' bu0' ou0' mu1' bu1' ou1' col' (by omega) (by omega) (by omega) q3
    refine ⟨a2, m2, u2, b2, o2, u3, b3, o3, c2, R2, ?_, ?_, by rw [show B + (d + 1) = B + 1 + d by omega]; exact z3⟩
    · rw [← z1]
      show qf_Qs_repeat_B27 (qfix qf_Qs_repeat_F27 N) (nI e) (nI c) y (nI k) mem mu0 bu0 ou0 mu1 bu1 ou1 col = _
      unfold qf_Qs_repeat_B27
      rw [if_neg (nI_ge (by omega) (by omega)), q1, Option.bind_some, nI_1]
      by_cases h0 : a = 0
      · rw [if_pos h0, if_pos h0]
      · rw [if_neg h0, if_neg h0]
    · rw [← z2]
      show qf_Ref_repeat_B27 (qfix qf_Ref_repeat_F27 N) (nI e) (nI c) y (nI k) r = _
      unfold qf_Ref_repeat_B27
      rw [if_neg (nI_ge (by omega) (by omega)), q2, Option.bind_some, nI_1]
      by_cases h0 : a = 0
      · rw [if_pos h0, if_pos h0]
      · rw [if_neg h0, if_neg h0]
