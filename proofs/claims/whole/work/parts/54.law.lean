/-! ===== the pure part: the law's loop ===== -/
theorem nar_idem (z : Int32) : vp_nar .char (vp_nar .char z) = vp_nar .char z := by
  rw [vp_nar_char z, vp_nar_char]
  simp
  apply congrArg
  apply UInt32.toNat_inj.mp
  rw [UInt32.toNat_mod, UInt32.toNat_mod]
  exact Nat.mod_mod _ _
theorem law_s (L : Nat) (xs : Nat → Int32) (N : Nat) (x : Int32) (s0 s2 s3 s5 s6 s7 s8 s9 s10 s11 : QS) : qfix (qf_Law_F28 L xs) (N + 1) (x, s0, s2, s3, s5, s6, s7, s8, s9, s10, s11) = qf_Law_B28 L xs (qfix (qf_Law_F28 L xs) N) x s0 s2 s3 s5 s6 s7 s8 s9 s10 s11 := rfl
theorem law_end {L i : Nat} (hL : L ≤ 2049) (hi : i ≤ 3000) (h : L < i + 4) : Int32.ofNat L - 4 < nI i := by
  rw [Int32.lt_iff_toInt_lt, nI_toInt (by omega)]
  have e : (Int32.ofNat L - 4).toInt = (L : Int) - 4 := pk_sub_toInt (a := L) (b := 4) (by omega) (by decide)
  rw [e]; omega
theorem law_on {L i : Nat} (hL : L ≤ 2049) (h : i + 4 ≤ L) : ¬ Int32.ofNat L - 4 < nI i := by
  rw [Int32.lt_iff_toInt_lt, nI_toInt (by omega)]
  have e : (Int32.ofNat L - 4).toInt = (L : Int) - 4 := pk_sub_toInt (a := L) (b := 4) (by omega) (by decide)
  rw [e]; omega
theorem rng_ok {L j : Nat} (hL : L ≤ 2049) (h : j < L) : (nI j < 0 ∨ L ≤ Int32.toNatClampNeg (nI j)) = False := eq_false (nI_in h (by omega))
theorem law_lp {L : Nat} {xs : Nat → Int32} (hL : L ≤ 2049) : ∀ (d i N n B : Nat) (r src mem mu0 bu0 ou0 mu1 bu1 ou1 col : QS), L < i + 4 * (d + 1) → i ≤ 3000 → d < N → B + 60 * (d + 1) < 2 ^ 30 → RAll n B r src mem mu0 bu0 ou0 mu1 bu1 ou1 col → qfix (qf_Law_F28 L xs) N (nI i, r, src, mem, mu0, bu0, ou0, mu1, bu1, ou1, col) = some 1 := by
  intro d
  induction d with
  | zero =>
    intro i N n B r src mem mu0 bu0 ou0 mu1 bu1 ou1 col h1 h2 h3 h4 h5
    obtain ⟨N, rfl⟩ : ∃ M, N = M + 1 := ⟨N - 1, by omega⟩
    rw [law_s]
    unfold qf_Law_B28
    rw [if_pos (law_end hL h2 (by omega))]
  | succ d ih =>
    intro i N n B r src mem mu0 bu0 ou0 mu1 bu1 ou1 col h1 h2 h3 h4 h
    obtain ⟨N, rfl⟩ : ∃ M, N = M + 1 := ⟨N - 1, by omega⟩
    by_cases hend : L < i + 4
    · rw [law_s]
      unfold qf_Law_B28
      rw [if_pos (law_end hL h2 hend)]
    · have go0 : ∀ (n C : Nat) (r src mem mu0 bu0 ou0 mu1 bu1 ou1 col : QS), C ≤ B + 60 → RAll n C r src mem mu0 bu0 ou0 mu1 bu1 ou1 col → qfix (qf_Law_F28 L xs) N (nI (i + 4), r, src, mem, mu0, bu0, ou0, mu1, bu1, ou1, col) = some 1 := fun n C r src mem mu0 bu0 ou0 mu1 bu1 ou1 col hC hR => ih (i + 4) N n C r src mem mu0 bu0 ou0 mu1 bu1 ou1 col (by omega) (by omega) (by omega) (by omega) hR
      have same := go0 n B r src mem mu0 bu0 ou0 mu1 bu1 ou1 col (by omega) h
      rw [law_s]
      generalize qfix (qf_Law_F28 L xs) N = K at go0 same ⊢
      unfold qf_Law_B28
      simp only [if_neg (law_on hL (show i + 4 ≤ L by omega)), nI_1, nad2, nad3, nad4, rng_ok hL (show i < L by omega), rng_ok hL (show i + 1 < L by omega), rng_ok hL (show i + 2 < L by omega), rng_ok hL (show i + 3 < L by omega), if_false]
      generalize xs (nI i).toNatClampNeg &&& 31 = tag
      generalize xs (nI (i + 1)).toNatClampNeg = x
      generalize xs (nI (i + 2)).toNatClampNeg = y
      generalize xs (nI (i + 3)).toNatClampNeg = z
      by_cases t0 : tag = 0
      · obtain ⟨a, src', R, q1, q2, q3⟩ := write_both (vp_nar .char x) (nar_idem x) h
        rw [if_pos t0, q1, Option.bind_some, q2, Option.bind_some]
        show (if a = a then K (nI (i + 4), R, src', mem, mu0, bu0, ou0, mu1, bu1, ou1, col) else _) = _
        rw [if_pos rfl]
        exact go0 n B R src' mem mu0 bu0 ou0 mu1 bu1 ou1 col (by omega) q3
      rw [if_neg t0]
      by_cases t1 : tag = 1
      · obtain ⟨a, src', mu0', mu1', R, q1, q2, q3⟩ := load_both x h
        rw [if_pos t1, q1, Option.bind_some, q2, Option.bind_some]
        show (if a = a then K (nI (i + 4), R, src', mem, mu0', bu0, ou0, mu1', bu1, ou1, col) else _) = _
        rw [if_pos rfl]
        exact go0 n B R src' mem mu0' bu0 ou0 mu1' bu1 ou1 col (by omega) q3
      rw [if_neg t1]
      by_cases t2 : tag = 2
      · obtain ⟨a, mem', mu0', bu0', ou0', mu1', bu1', ou1', col', R, q1, q2, q3⟩ := go_both x y (show B + 60 < 2 ^ 30 by omega) h
        rw [if_pos t2, q1, Option.bind_some, q2, Option.bind_some]
        show (if a = a then K (nI (i + 4), R, src, mem', mu0', bu0', ou0', mu1', bu1', ou1', col') else _) = _
        rw [if_pos rfl]
        exact go0 n (B + 60) R src mem' mu0' bu0' ou0' mu1' bu1' ou1' col' (by omega) q3
      rw [if_neg t2]
      by_cases t3 : tag = 3
      · obtain ⟨a, mem', mu0', bu0', ou0', mu1', bu1', ou1', col', R, q1, q2, q3⟩ := repeat_both x y (show B + 60 < 2 ^ 30 by omega) h
        rw [if_pos t3, q1, Option.bind_some, q2, Option.bind_some]
        show (if a = a then K (nI (i + 4), R, src, mem', mu0', bu0', ou0', mu1', bu1', ou1', col') else _) = _
        rw [if_pos rfl]
        exact go0 n (B + 60) R src mem' mu0' bu0' ou0' mu1' bu1' ou1' col' (by omega) q3
      rw [if_neg t3]
      by_cases t4 : tag = 4
      · obtain ⟨a, q1, q2⟩ := code_both x y h
        rw [if_pos t4, q1, Option.bind_some, q2, Option.bind_some, if_pos rfl]
        exact same
      rw [if_neg t4]
      by_cases t5 : tag = 5
      · obtain ⟨a, q1, q2⟩ := position_both x h
        rw [if_pos t5, q1, Option.bind_some, q2, Option.bind_some, if_pos rfl]
        exact same
      rw [if_neg t5]
      by_cases t6 : tag = 6
      · obtain ⟨a, q1, q2⟩ := variable_both x y h
        rw [if_pos t6, q1, Option.bind_some, q2, Option.bind_some, if_pos rfl]
        exact same
      rw [if_neg t6]
      by_cases t7 : tag = 7
      · obtain ⟨a, q1, q2⟩ := status_both x h
        rw [if_pos t7, q1, Option.bind_some, q2, Option.bind_some, if_pos rfl]
        exact same
      rw [if_neg t7]
      by_cases t8 : tag = 8
      · obtain ⟨a, q1, q2⟩ := buffered_both x h
        rw [if_pos t8, q1, Option.bind_some, q2, Option.bind_some, if_pos rfl]
        exact same
      rw [if_neg t8]
      by_cases t9 : tag = 9
      · obtain ⟨a, q1, q2⟩ := stalls_both x h
        rw [if_pos t9, q1, Option.bind_some, q2, Option.bind_some, if_pos rfl]
        exact same
      rw [if_neg t9]
      by_cases t10 : tag = 10
      · obtain ⟨a, q1, q2⟩ := outputs_both x h
        rw [if_pos t10, q1, Option.bind_some, q2, Option.bind_some, if_pos rfl]
        exact same
      rw [if_neg t10]
      by_cases t11 : tag = 11
      · obtain ⟨a, q1, q2⟩ := output_both x y (show B < 2 ^ 30 by omega) h
        rw [if_pos t11, q1, Option.bind_some, q2, Option.bind_some, if_pos rfl]
        exact same
      rw [if_neg t11]
      by_cases t12 : tag = 12
      · obtain ⟨a, q1, q2⟩ := colour_both x h
        rw [if_pos t12, q1, Option.bind_some, q2, Option.bind_some, if_pos rfl]
        exact same
      rw [if_neg t12]
      by_cases t13 : tag = 13
      · obtain ⟨a, q1, q2⟩ := field_both x y h
        rw [if_pos t13, q1, Option.bind_some, q2, Option.bind_some, if_pos rfl]
        exact same
      rw [if_neg t13]
      by_cases t14 : tag = 14
      · obtain ⟨a, q1, q2⟩ := seen_both x y z h
        rw [if_pos t14, q1, Option.bind_some, q2, Option.bind_some, if_pos rfl]
        exact same
      rw [if_neg t14]
      by_cases t15 : tag = 15
      · obtain ⟨a, q1, q2⟩ := phase_both h
        rw [if_pos t15, q1, Option.bind_some, q2, Option.bind_some, if_pos rfl]
        exact same
      rw [if_neg t15]
      by_cases t16 : tag = 16
      · obtain ⟨a, q1, q2⟩ := cycles_both h
        rw [if_pos t16, q1, Option.bind_some, q2, Option.bind_some, if_pos rfl]
        exact same
      rw [if_neg t16]
      by_cases t17 : tag = 17
      · obtain ⟨a, q1, q2⟩ := free_both h
        rw [if_pos t17, q1, Option.bind_some, q2, Option.bind_some, if_pos rfl]
        exact same
      rw [if_neg t17]
      by_cases t18 : tag = 18
      · obtain ⟨a, R, q1, q2, q3⟩ := reached_both h
        rw [if_pos t18, q1, Option.bind_some, q2, Option.bind_some]
        show (if a = a then K (nI (i + 4), R, src, mem, mu0, bu0, ou0, mu1, bu1, ou1, col) else _) = _
        rw [if_pos rfl]
        exact go0 n B R src mem mu0 bu0 ou0 mu1 bu1 ou1 col (by omega) q3
      rw [if_neg t18]
      by_cases t19 : tag = 19
      · obtain ⟨a, R, q1, q2, q3⟩ := reaches_both x h
        rw [if_pos t19, q1, Option.bind_some, q2, Option.bind_some]
        show (if a = a then K (nI (i + 4), R, src, mem, mu0, bu0, ou0, mu1, bu1, ou1, col) else _) = _
        rw [if_pos rfl]
        exact go0 n B R src mem mu0 bu0 ou0 mu1 bu1 ou1 col (by omega) q3
      rw [if_neg t19]
      exact same
theorem qcell0 (L : Nat) (xs : Nat → Int32) (hL : L ≤ 2049) : ∃ x, qcell L xs 0 = some x := by
  unfold qcell
  by_cases h : Int32.ofNat L ≤ 0
  · exact ⟨0, by rw [if_pos h]⟩
  · have h0 : 0 < L := by
      cases L with
      | zero => exact absurd (by decide) h
      | succ L => omega
    refine ⟨xs (0 : Int32).toNatClampNeg, ?_⟩
    rw [if_neg h]
    have : ¬ ((0 : Int32) < 0 ∨ L ≤ (0 : Int32).toNatClampNeg) := by
      rw [show (0 : Int32).toNatClampNeg = 0 from rfl]
      intro h9
      rcases h9 with h9 | h9
      · exact absurd h9 (by decide)
      · omega
    rw [if_neg this]
theorem q_pure0 (L : Nat) (xs : Nat → Int32) (hL : L ≤ 2049) : qf_Law_law L xs = some 1 := by
  obtain ⟨x, hx⟩ := qcell0 L xs hL
  obtain ⟨n, r, src, mem, mu0, bu0, ou0, mu1, bu1, ou1, col, q1, q2, q3⟩ := init_both x
  unfold qf_Law_law
  rw [hx, Option.bind_some, q1, Option.bind_some, Option.bind_some, q2, Option.bind_some]
  exact law_lp hL 512 1 qN n 0 r src mem mu0 bu0 ou0 mu1 bu1 ou1 col (by omega) (by decide) (by unfold qN; omega) (by decide) q3
