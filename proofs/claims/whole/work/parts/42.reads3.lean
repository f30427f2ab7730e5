/-! ===== the pure part: code, variable, output, free ===== -/
theorem code1 {n m : Nat} {mu r : QS} (hm : m < 2) (hU : RMut n m mu (r 10) (r 11) (r 12) (r 13) (r 14) (r 15) (r 16) (r 17) (r 18)) (hq : qf_Ref_isMutator (nI m) = some 1) (y : Int32) : ∃ a, qf_Mut_instructionAt y mu = some a ∧ qf_Ref_code (nI m) y r = some a := by
  obtain ⟨⟨cnt, pos, a1, a2, a3, a4, a5, a6, a7⟩, _⟩ := hU
  unfold qf_Mut_instructionAt qf_Ref_code
  rw [hq, Option.bind_some, if_neg (show ¬ (1 : Int32) = 0 by decide), ck hm (by decide), nI_clamp (show m < 2 ^ 31 by omega), a3, a4]
  rcases pk_ix y (n := cnt) (by omega) with h | h | ⟨j, hj, rfl⟩
  · exact ⟨-1, by rw [if_pos h], by rw [if_pos h]⟩
  · have hn : ¬ y < nI cnt := fun hl => by
      have e1 := Int32.lt_iff_toInt_lt.mp hl
      have e2 := Int32.le_iff_toInt_le.mp h
      omega
    refine ⟨-1, by rw [if_pos h, ite_self], ?_⟩
    rw [if_neg hn, ite_self]
  · obtain ⟨kd, p, q, t, hV, b1, b2, b3, b4, b5⟩ := a7 j hj
    refine ⟨mu 0 j, ?_, ?_⟩
    · rw [if_neg (nI_pos (by omega)), if_neg (nI_ge hj (by omega)), ck (by omega) (by decide), nI_clamp (by omega)]
    · rw [if_neg (nI_pos (by omega)), if_pos (nI_lt hj (by omega)), n40m, nI_add, ck (by omega) (by decide), ck (by omega) (by decide), ck (by omega) (by decide), ck (by omega) (by decide), nI_clamp (by omega), b2, b3, b4, b5, n16m, n64m, n256m, nI_add, nI_add, nI_add, b1]
theorem code_both {n B : Nat} {r src mem mu0 bu0 ou0 mu1 bu1 ou1 col : QS} (x y : Int32) (h : RAll n B r src mem mu0 bu0 ou0 mu1 bu1 ou1 col) : ∃ a, qf_Qs_code x y mu0 mu1 = some a ∧ qf_Ref_code x y r = some a := by
  obtain ⟨h1, h2, h3, h4, h5, h6, h7, h8, h9, h10, h11⟩ := h
  rcases mut_cases x with rfl | rfl | ⟨e1, e2⟩
  · obtain ⟨a, q1, q2⟩ := code1 (m := 0) (by omega) h5 mr0 y
    exact ⟨a, by unfold qf_Qs_code; rw [mq0, Option.bind_some, if_neg (by decide), if_pos (show nI 0 = 0 from rfl), q1]; rfl, q2⟩
  · obtain ⟨a, q1, q2⟩ := code1 (m := 1) (by omega) h8 mr1 y
    exact ⟨a, by unfold qf_Qs_code; rw [mq1, Option.bind_some, if_neg (by decide), if_neg (show ¬ nI 1 = 0 by decide), if_pos (show nI 1 = 1 from rfl), q1]; rfl, q2⟩
  · exact ⟨-1, by unfold qf_Qs_code; rw [e1]; rfl, by unfold qf_Ref_code; rw [e2]; rfl⟩
theorem var1 {n m : Nat} {mu r : QS} (hm : m < 2) (hV : RVar n m (mu 3) (mu 4) (r 16)) (hq : qf_Ref_isMutator (nI m) = some 1) (y : Int32) : ∃ a, qf_Mut_variableAt y mu = some a ∧ qf_Ref_variable (nI m) y r = some a := by
  unfold qf_Mut_variableAt qf_Ref_variable
  rw [hq, Option.bind_some, if_neg (show ¬ (1 : Int32) = 0 by decide)]
  rcases pk_ix y (n := 7) (by decide) with h | h | ⟨j, hj, rfl⟩
  · exact ⟨-1, by rw [if_pos h], by rw [if_pos h]⟩
  · have h7 : (7 : Int32) ≤ y := h
    have e2 := Int32.le_iff_toInt_le.mp h7
    have e3 : (7 : Int32).toInt = 7 := by decide
    have e4 : (6 : Int32).toInt = 6 := by decide
    have hn : ¬ y < 7 := fun hl => by have e1 := Int32.lt_iff_toInt_lt.mp hl; omega
    have h6 : (6 : Int32) < y := Int32.lt_iff_toInt_lt.mpr (by omega)
    exact ⟨-1, by rw [if_neg hn, ite_self], by rw [if_pos h6, ite_self]⟩
  · rw [if_neg (nI_pos (by omega)), if_neg (nI_pos (by omega)), if_pos (show nI j < 7 from nI_lt (a := j) (b := 7) hj (by decide)), if_neg (show ¬ (6 : Int32) < nI j from nI_nlt (a := 6) (b := j) (by omega) (by decide)), n7m, nI_add, ck (show 7 * m + j < 14 by omega) (by decide), nI_clamp (show 7 * m + j < 2 ^ 31 by omega)]
    by_cases h4 : j < 4
    · refine ⟨mu 3 j, ?_, by rw [(hV.1 j h4).1]⟩
      rw [if_neg (show ¬ (4 : Int32) ≤ nI j from nI_ge (a := j) (b := 4) h4 (by decide)), ck h4 (by decide), nI_clamp (by omega)]
    · refine ⟨mu 4 (j - 4), ?_, ?_⟩
      · rw [if_pos (show (4 : Int32) ≤ nI j from nI_le (a := 4) (b := j) (by omega) (by omega)), show nI j - 4 = nI (j - 4) from pk_sub (a := j) (b := 4) (by omega), ck (show j - 4 < 3 by omega) (by decide), nI_clamp (by omega)]
      · have := hV.2 (j - 4) (by omega)
        rw [show 7 * m + 4 + (j - 4) = 7 * m + j by omega] at this
        rw [this]
theorem variable_both {n B : Nat} {r src mem mu0 bu0 ou0 mu1 bu1 ou1 col : QS} (x y : Int32) (h : RAll n B r src mem mu0 bu0 ou0 mu1 bu1 ou1 col) : ∃ a, qf_Qs_variable x y mu0 mu1 = some a ∧ qf_Ref_variable x y r = some a := by
  obtain ⟨h1, h2, h3, h4, h5, h6, h7, h8, h9, h10, h11⟩ := h
  rcases mut_cases x with rfl | rfl | ⟨e1, e2⟩
  · obtain ⟨a, q1, q2⟩ := var1 (m := 0) (by omega) h5.2.1 mr0 y
    exact ⟨a, by unfold qf_Qs_variable; rw [mq0, Option.bind_some, if_neg (by decide), if_pos (show nI 0 = 0 from rfl), q1]; rfl, q2⟩
  · obtain ⟨a, q1, q2⟩ := var1 (m := 1) (by omega) h8.2.1 mr1 y
    exact ⟨a, by unfold qf_Qs_variable; rw [mq1, Option.bind_some, if_neg (by decide), if_neg (show ¬ nI 1 = 0 by decide), if_pos (show nI 1 = 1 from rfl), q1]; rfl, q2⟩
  · exact ⟨-1, by unfold qf_Qs_variable; rw [e1]; rfl, by unfold qf_Ref_variable; rw [e2]; rfl⟩
theorem out1 {B m : Nat} {ou r : QS} (hB : B < 2 ^ 30) (hm : m < 2) (hO : ROut B m ou (r 23) (r 24)) (hq : qf_Ref_isMutator (nI m) = some 1) (y : Int32) : ∃ a, qf_Out_latest y ou = some a ∧ qf_Ref_output (nI m) y r = some a := by
  obtain ⟨w, a1, a2, a3, a4⟩ := hO
  unfold qf_Out_latest qf_Ref_output
  rw [hq, Option.bind_some, if_neg (show ¬ (1 : Int32) = 0 by decide), ck hm (by decide), ck hm (by decide), nI_clamp (show m < 2 ^ 31 by omega), a2, a3]
  rcases pk_ix y (n := 16) (by decide) with h | h | ⟨j, hj, rfl⟩
  · exact ⟨0, by rw [if_pos h], by rw [if_pos h]⟩
  · have h16 : (16 : Int32) ≤ y := h
    have e2 := Int32.le_iff_toInt_le.mp h16
    have e3 : (16 : Int32).toInt = 16 := by decide
    have e4 : (15 : Int32).toInt = 15 := by decide
    have h15 : (15 : Int32) < y := Int32.lt_iff_toInt_lt.mpr (by omega)
    exact ⟨0, by rw [if_pos h16, ite_self], by rw [if_pos h15, ite_self]⟩
  · rw [if_neg (nI_pos (by omega)), if_neg (nI_pos (by omega)), if_neg (show ¬ (16 : Int32) ≤ nI j from nI_ge (a := j) (b := 16) hj (by decide)), if_neg (show ¬ (15 : Int32) < nI j from nI_nlt (a := 15) (b := j) (by omega) (by decide))]
    by_cases hjw : j < w
    · have e1 : nI w - 1 - nI j = nI (w - 1 - j) := by
        rw [show nI w - 1 = nI (w - 1) from pk_sub (a := w) (b := 1) (by omega), pk_sub (by omega)]
      have e2 : qf_Out_placeOf (nI (w - 1 - j)) = some (nI ((w - 1 - j) % 16)) := place_of (by omega)
      have e3 : nI (w - 1 - j) &&& 15 = nI ((w - 1 - j) % 16) := pk_andN (by omega) 4 (by decide)
      refine ⟨ou 0 ((w - 1 - j) % 16), ?_, ?_⟩
      · rw [if_pos (nI_lt hjw (by omega)), e1, e2, Option.bind_some, ck (by omega) (by decide), nI_clamp (by omega)]
      · rw [if_pos (nI_lt hjw (by omega)), e1, e3, n16m, nI_add, ck (by omega) (by decide), nI_clamp (by omega), a4 _ (by omega)]
    · refine ⟨0, ?_, ?_⟩
      · rw [if_neg (nI_nlt (by omega) (by omega))]
      · rw [if_neg (nI_nlt (by omega) (by omega))]
theorem output_both {n B : Nat} {r src mem mu0 bu0 ou0 mu1 bu1 ou1 col : QS} (x y : Int32) (hB : B < 2 ^ 30) (h : RAll n B r src mem mu0 bu0 ou0 mu1 bu1 ou1 col) : ∃ a, qf_Qs_output x y mu0 ou0 mu1 ou1 = some a ∧ qf_Ref_output x y r = some a := by
  obtain ⟨h1, h2, h3, h4, h5, h6, h7, h8, h9, h10, h11⟩ := h
  rcases mut_cases x with rfl | rfl | ⟨e1, e2⟩
  · obtain ⟨a, q1, q2⟩ := out1 (m := 0) hB (by omega) h7 mr0 y
    exact ⟨a, by unfold qf_Qs_output; rw [mq0, Option.bind_some, if_neg (by decide), if_pos (show nI 0 = 0 from rfl), q1]; rfl, q2⟩
  · obtain ⟨a, q1, q2⟩ := out1 (m := 1) hB (by omega) h10 mr1 y
    exact ⟨a, by unfold qf_Qs_output; rw [mq1, Option.bind_some, if_neg (by decide), if_neg (show ¬ nI 1 = 0 by decide), if_pos (show nI 1 = 1 from rfl), q1]; rfl, q2⟩
  · exact ⟨0, by unfold qf_Qs_output; rw [e1]; rfl, by unfold qf_Ref_output; rw [e2]; rfl⟩
theorem free_lp {n : Nat} {mem r : QS} (hn : n ≤ 11) (hM : RMem n mem (r 0) (r 25) (r 26)) : ∀ (d i N : Nat) (y : Int32), i + d = n → d < N → ∃ a, qfix qf_Mem_countOf_F4 N (0, y, nI i, mem) = some a ∧ qfix qf_Ref_free_F4 N (y, nI i, r) = some a := by
  intro d
  induction d with
  | zero =>
    intro i N y hi hN
    obtain ⟨N, rfl⟩ : ∃ M, N = M + 1 := ⟨N - 1, by omega⟩
    refine ⟨y, ?_, ?_⟩
    · show qf_Mem_countOf_B4 (qfix qf_Mem_countOf_F4 N) 0 y (nI i) mem = _
      unfold qf_Mem_countOf_B4
      rw [hM.1, if_pos (nI_le (by omega) (by omega))]
    · show qf_Ref_free_B4 (qfix qf_Ref_free_F4 N) y (nI i) r = _
      unfold qf_Ref_free_B4
      rw [hM.2.1, if_pos (nI_le (by omega) (by omega))]
  | succ d ih =>
    intro i N y hi hN
    obtain ⟨N, rfl⟩ : ∃ M, N = M + 1 := ⟨N - 1, by omega⟩
    obtain ⟨a, q1, q2⟩ := ih (i + 1) N (if mem 1 i = 0 then y + 1 else y) (by omega) (by omega)
    refine ⟨a, ?_, ?_⟩
    · rw [← q1]
      show qf_Mem_countOf_B4 (qfix qf_Mem_countOf_F4 N) 0 y (nI i) mem = _
      unfold qf_Mem_countOf_B4
      rw [ck1 hn hM.1 (by omega), hM.1, if_neg (nI_ge (by omega) (by omega)), nI_clamp (by omega), nI_1]
      by_cases h : mem 1 i = 0
      · rw [if_pos h, if_pos h]
      · rw [if_neg h, if_neg h]
    · rw [← q2]
      show qf_Ref_free_B4 (qfix qf_Ref_free_F4 N) y (nI i) r = _
      unfold qf_Ref_free_B4
      rw [hM.2.1, if_neg (nI_ge (by omega) (by omega)), ck (by omega) (by decide), nI_clamp (by omega), nI_1, hM.2.2.1 i (by omega)]
      by_cases h : mem 1 i = 0
      · rw [if_pos h, if_pos h]
      · rw [if_neg h, if_neg h]
theorem free_both {n B : Nat} {r src mem mu0 bu0 ou0 mu1 bu1 ou1 col : QS} (h : RAll n B r src mem mu0 bu0 ou0 mu1 bu1 ou1 col) : ∃ a, qf_Qs_free mem = some a ∧ qf_Ref_free r = some a := by
  obtain ⟨h1, h2, h3, h4, _⟩ := h
  obtain ⟨a, q1, q2⟩ := free_lp h2 h4 n 0 qN 0 (by omega) (by unfold qN; omega)
  refine ⟨a, ?_, q2⟩
  unfold qf_Qs_free qf_Mem_countOf
  refine Eq.trans (congrArg (fun z => Option.bind z _) q1) ?_
  rfl
