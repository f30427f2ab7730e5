/-! ===== the pure part: load, both sides ===== -/
theorem read_both {t : Nat} {src r : QS} (ht : t ≤ 60) (h : RTx t src r) : ∃ a src' r' cnt, qf_Src_translate src = some (a, src') ∧ qf_Ref_read r = some (a, r') ∧ (a = 0 ∨ a = 1) ∧ src' 3 0 = nI cnt ∧ r' 7 0 = nI cnt ∧ (∀ j, j < cnt → REnt cnt src' r' j) ∧ cnt ≤ 40 ∧ ∀ g, (g < 3 ∨ 10 ≤ g) → r' g = r g := by
  obtain ⟨src1, es⟩ : ∃ s, s = qp (qp src 3 (fun _ => 0)) 5 (fun _ => 0) := ⟨_, rfl⟩
  obtain ⟨r1, er⟩ : ∃ s, s = qp (qp r 7 (fun _ => 0)) 9 (fun _ => 0) := ⟨_, rfl⟩
  have sg : ∀ g, g ≠ 3 → g ≠ 5 → src1 g = src g := fun g a b => by rw [es, qp_ne _ _ b, qp_ne _ _ a]
  have rg : ∀ g, g ≠ 7 → g ≠ 9 → r1 g = r g := fun g a b => by rw [er, qp_ne _ _ b, qp_ne _ _ a]
  obtain ⟨a, src', r', cnt, dep, e1, e2, e3, e4, e5, e6, e7⟩ := text_lp ht t 0 0 0 qN qN src1 r1 (by omega) (by unfold qN; omega) (by unfold qN; omega) (RTx_to h (sg 0 (by decide) (by decide)) (sg 1 (by decide) (by decide)) (rg 1 (by decide) (by decide)) (rg 2 (by decide) (by decide))) ⟨by rw [es, qp_ne _ _ (by decide), qp_eq]; rfl, by rw [er, qp_ne _ _ (by decide), qp_eq]; rfl, by rw [es, qp_eq]; rfl, by rw [er, qp_eq]; rfl, by decide, fun j hj => by omega, fun _ => 0, fun d hd => by omega, fun d e _ he => by omega⟩ (by omega)
  refine ⟨a, src', r', cnt, ?_, ?_, e3, e5.1, e5.2.1, e5.2.2.2.2.2.1, e6, fun g hg => by rw [e7 g hg, rg g (by omega) (by omega)]⟩
  · unfold qf_Src_translate
    rw [← es, ← nI_0]; exact e1
  · unfold qf_Ref_read
    rw [← er, ← nI_0]; exact e2
theorem cp_lp {m cnt : Nat} (hm : m < 2) (hc : cnt ≤ 40) (y : Int32) : ∀ (d i N : Nat) (r : QS), i + d = cnt → d < N → r 7 0 = nI cnt → ∃ r', qfix qf_Ref_load_F58 N (nI m, y, nI i, r) = some (y, r') ∧ (∀ g, (g < 11 ∨ 15 ≤ g) → r' g = r g) ∧ (∀ j, (j < 40 * m + i ∨ 40 * m + cnt ≤ j) → r' 11 j = r 11 j ∧ r' 12 j = r 12 j ∧ r' 13 j = r 13 j ∧ r' 14 j = r 14 j) ∧ ∀ k, i ≤ k → k < cnt → r' 11 (40 * m + k) = r 3 k ∧ r' 12 (40 * m + k) = r 4 k ∧ r' 13 (40 * m + k) = r 5 k ∧ r' 14 (40 * m + k) = r 6 k := by
  intro d
  induction d with
  | zero =>
    intro i N r hi hN h7
    obtain ⟨N, rfl⟩ : ∃ M, N = M + 1 := ⟨N - 1, by omega⟩
    refine ⟨r, ?_, fun _ _ => rfl, fun _ _ => ⟨rfl, rfl, rfl, rfl⟩, fun k a b => by omega⟩
    show qf_Ref_load_B58 (qfix qf_Ref_load_F58 N) (nI m) y (nI i) r = _
    unfold qf_Ref_load_B58
    rw [h7, if_pos (nI_le (by omega) (by omega))]
  | succ d ih =>
    intro i N r hi hN h7
    obtain ⟨N, rfl⟩ : ∃ M, N = M + 1 := ⟨N - 1, by omega⟩
    obtain ⟨r1, er⟩ : ∃ s, s = qp (qp (qp (qp r 11 (upd (r 11) (40 * m + i) (r 3 i))) 12 (upd (r 12) (40 * m + i) (r 4 i))) 13 (upd (r 13) (40 * m + i) (r 5 i))) 14 (upd (r 14) (40 * m + i) (r 6 i)) := ⟨_, rfl⟩
    have rg : ∀ g, (g < 11 ∨ 15 ≤ g) → r1 g = r g := fun g hg => by rw [er, qp_ne _ _ (by omega), qp_ne _ _ (by omega), qp_ne _ _ (by omega), qp_ne _ _ (by omega)]
    have r11 : r1 11 = upd (r 11) (40 * m + i) (r 3 i) := by rw [er, qp_ne _ _ (by decide), qp_ne _ _ (by decide), qp_ne _ _ (by decide), qp_eq]
    have r12 : r1 12 = upd (r 12) (40 * m + i) (r 4 i) := by rw [er, qp_ne _ _ (by decide), qp_ne _ _ (by decide), qp_eq]
    have r13 : r1 13 = upd (r 13) (40 * m + i) (r 5 i) := by rw [er, qp_ne _ _ (by decide), qp_eq]
    have r14 : r1 14 = upd (r 14) (40 * m + i) (r 6 i) := by rw [er, qp_eq]
    obtain ⟨r', e1, e2, e3, e4⟩ := ih (i + 1) N r1 (by omega) (by omega) (by rw [rg 7 (by omega)]; exact h7)
    refine ⟨r', ?_, fun g hg => by rw [e2 g hg, rg g hg], fun j hj => ?_, fun k a b => ?_⟩
    · refine Eq.trans ?_ e1
      show qf_Ref_load_B58 (qfix qf_Ref_load_F58 N) (nI m) y (nI i) r = _
      unfold qf_Ref_load_B58
      have c1 : i < 40 := by omega
      have c2 : 40 * m + i < 80 := by omega
      rw [h7, if_neg (nI_ge (by omega) (by omega)), n40m, nI_add, ck c1 (by decide), ck c2 (by decide), ck c1 (by decide), ck c2 (by decide), ck c1 (by decide), ck c2 (by decide), ck c1 (by decide), ck c2 (by decide), nI_clamp (show i < 2 ^ 31 by omega), nI_clamp (show 40 * m + i < 2 ^ 31 by omega), nI_1, ← er]
    · have hne : j ≠ 40 * m + i := by omega
      obtain ⟨a1, a2, a3, a4⟩ := e3 j (by omega)
      rw [r11, up_ne _ _ hne] at a1
      rw [r12, up_ne _ _ hne] at a2
      rw [r13, up_ne _ _ hne] at a3
      rw [r14, up_ne _ _ hne] at a4
      exact ⟨a1, a2, a3, a4⟩
    · by_cases e : k = i
      · obtain ⟨a1, a2, a3, a4⟩ := e3 (40 * m + k) (by omega)
        rw [a1, a2, a3, a4, r11, r12, r13, r14, e, up_eq, up_eq, up_eq, up_eq]
        exact ⟨rfl, rfl, rfl, rfl⟩
      · obtain ⟨a1, a2, a3, a4⟩ := e4 k (by omega) b
        rw [a1, a2, a3, a4, rg 3 (by omega), rg 4 (by omega), rg 5 (by omega), rg 6 (by omega)]
        exact ⟨rfl, rfl, rfl, rfl⟩
theorem RMut_new {n m cnt : Nat} {mu mu' src' r r' R : QS} (hc : cnt ≤ 40) (h : RMut n m mu (r 10) (r 11) (r 12) (r 13) (r 14) (r 15) (r 16) (r 17) (r 18)) (hm1 : mu' 1 0 = nI cnt) (hm2 : mu' 2 0 = nI 0) (hm0 : ∀ k, k < cnt → mu' 0 k = src' 2 k) (hm3 : mu' 3 = mu 3) (hm4 : mu' 4 = mu 4) (hm5 : mu' 5 = mu 5) (hm6 : mu' 6 = mu 6) (hE : ∀ j, j < cnt → REnt cnt src' r' j) (h10 : R 10 m = nI cnt) (h15 : R 15 m = nI 0) (hk : ∀ k, k < cnt → R 11 (40 * m + k) = r' 3 k ∧ R 12 (40 * m + k) = r' 4 k ∧ R 13 (40 * m + k) = r' 5 k ∧ R 14 (40 * m + k) = r' 6 k) (h16 : R 16 = r 16) (h17 : R 17 = r 17) (h18 : R 18 = r 18) : RMut n m mu' (R 10) (R 11) (R 12) (R 13) (R 14) (R 15) (R 16) (R 17) (R 18) := by
  obtain ⟨-, q2, q3, q4⟩ := h
  rw [h16, h17, h18]
  refine ⟨⟨cnt, 0, hc, by omega, hm1, h10, hm2, h15, fun k hk' => ?_⟩, by rw [hm3, hm4]; exact q2, by rw [hm5]; exact q3, by rw [hm6]; exact q4⟩
  obtain ⟨kd, p, q, x, c1, c2, c3, c4, c5, c6⟩ := hE k hk'
  obtain ⟨d1, d2, d3, d4⟩ := hk k hk'
  exact ⟨kd, p, q, x, c1, by rw [hm0 k hk']; exact c2, by rw [d1]; exact c3, by rw [d2]; exact c4, by rw [d3]; exact c5, by rw [d4]; exact c6⟩
theorem RMut_oth {n m : Nat} {mu r R : QS} (h : RMut n m mu (r 10) (r 11) (r 12) (r 13) (r 14) (r 15) (r 16) (r 17) (r 18)) (h10 : R 10 m = r 10 m) (h15 : R 15 m = r 15 m) (hk : ∀ k, k < 40 → R 11 (40 * m + k) = r 11 (40 * m + k) ∧ R 12 (40 * m + k) = r 12 (40 * m + k) ∧ R 13 (40 * m + k) = r 13 (40 * m + k) ∧ R 14 (40 * m + k) = r 14 (40 * m + k)) (h16 : R 16 = r 16) (h17 : R 17 = r 17) (h18 : R 18 = r 18) : RMut n m mu (R 10) (R 11) (R 12) (R 13) (R 14) (R 15) (R 16) (R 17) (R 18) := by
  obtain ⟨⟨cnt, pos, a1, a2, a3, a4, a5, a6, a7⟩, q2, q3, q4⟩ := h
  rw [h16, h17, h18]
  refine ⟨⟨cnt, pos, a1, a2, a3, by rw [h10]; exact a4, a5, by rw [h15]; exact a6, fun k hk' => ?_⟩, q2, q3, q4⟩
  obtain ⟨kd, p, q, x, c1, c2, c3, c4, c5, c6⟩ := a7 k hk'
  obtain ⟨d1, d2, d3, d4⟩ := hk k (by omega)
  exact ⟨kd, p, q, x, c1, c2, by rw [d1]; exact c3, by rw [d2]; exact c4, by rw [d3]; exact c5, by rw [d4]; exact c6⟩
/-- the state after a refused load: only the text has gone -/
theorem RAll_empty {n B : Nat} {r r' src src' mem mu0 bu0 ou0 mu1 bu1 ou1 col : QS} (h : RAll n B r src mem mu0 bu0 ou0 mu1 bu1 ou1 col) (hs : src' 1 0 = nI 0) (h2 : r' 2 0 = nI 0) (hg : ∀ g, (g = 0 ∨ 10 ≤ g) → r' g = r g) : RAll n B r' src' mem mu0 bu0 ou0 mu1 bu1 ou1 col := by
  obtain ⟨h1, h3, -, h4⟩ := h
  refine ⟨h1, h3, ⟨0, by omega, hs, h2, fun j hj => by omega⟩, ?_⟩
  rw [hg 0 (by omega), hg 10 (by omega), hg 11 (by omega), hg 12 (by omega), hg 13 (by omega), hg 14 (by omega), hg 15 (by omega), hg 16 (by omega), hg 17 (by omega), hg 18 (by omega), hg 19 (by omega), hg 20 (by omega), hg 21 (by omega), hg 22 (by omega), hg 23 (by omega), hg 24 (by omega), hg 25 (by omega), hg 26 (by omega), hg 27 (by omega), hg 28 (by omega), hg 29 (by omega), hg 30 (by omega)]
  exact h4
theorem inst_cl {cnt : Nat} {mu s : QS} (hc : cnt ≤ 40) : ∃ mu', qf_Mut_install (nI cnt) mu s = some mu' ∧ mu' 1 0 = nI cnt ∧ mu' 2 0 = nI 0 ∧ (∀ k, k < cnt → mu' 0 k = s 0 k) ∧ mu' 3 = mu 3 ∧ mu' 4 = mu 4 ∧ mu' 5 = mu 5 ∧ mu' 6 = mu 6 := by
  have hcond : ¬ ((0 : Int32) < 0 ∨ (0 : Int32) < 0 ∨ nI cnt < 0 ∨ ¬ (Int32.toNatClampNeg 0 + Int32.toNatClampNeg (nI cnt) ≤ 60) ∨ ¬ (Int32.toNatClampNeg 0 + Int32.toNatClampNeg (nI cnt) ≤ 60)) := by
    rw [nI_clamp (by omega), show Int32.toNatClampNeg 0 = 0 from rfl]
    intro h
    rcases h with h | h | h | h | h
    · exact absurd h (by decide)
    · exact absurd h (by decide)
    · exact nI_pos (by omega) h
    · omega
    · omega
  refine ⟨_, by unfold qf_Mut_install; rw [if_neg hcond], ?_, ?_, fun k hk => ?_, ?_, ?_, ?_, ?_⟩
  · rw [qp_ne _ _ (by decide), qp_ne _ _ (by decide), qp_eq]
  · rw [qp_ne _ _ (by decide), qp_eq]; rfl
  · rw [qp_eq]
    unfold va_cpy
    rw [nI_clamp (by omega), show Int32.toNatClampNeg 0 = 0 from rfl, if_pos (by omega)]
    exact congrArg (s 0) (by omega)
  · rw [qp_ne _ _ (by decide), qp_ne _ _ (by decide), qp_ne _ _ (by decide)]
  · rw [qp_ne _ _ (by decide), qp_ne _ _ (by decide), qp_ne _ _ (by decide)]
  · rw [qp_ne _ _ (by decide), qp_ne _ _ (by decide), qp_ne _ _ (by decide)]
  · rw [qp_ne _ _ (by decide), qp_ne _ _ (by decide), qp_ne _ _ (by decide)]
theorem ref_inst {m cnt : Nat} {r' : QS} (hm : m < 2) (hc : cnt ≤ 40) (h7 : r' 7 0 = nI cnt) : ∃ R, qf_Ref_load_j27 (nI m) (r' 7 0) r' = some (nI cnt, R) ∧ R 2 0 = nI 0 ∧ R 10 m = nI cnt ∧ R 15 m = nI 0 ∧ (∀ j, j ≠ m → R 10 j = r' 10 j ∧ R 15 j = r' 15 j) ∧ (∀ g, (g = 0 ∨ 16 ≤ g) → R g = r' g) ∧ (∀ j, (j < 40 * m ∨ 40 * m + cnt ≤ j) → R 11 j = r' 11 j ∧ R 12 j = r' 12 j ∧ R 13 j = r' 13 j ∧ R 14 j = r' 14 j) ∧ ∀ k, k < cnt → R 11 (40 * m + k) = r' 3 k ∧ R 12 (40 * m + k) = r' 4 k ∧ R 13 (40 * m + k) = r' 5 k ∧ R 14 (40 * m + k) = r' 6 k := by
  obtain ⟨r1, er⟩ : ∃ s, s = qp (qp (qp r' 2 (fun _ => 0)) 10 (upd (r' 10) m (nI cnt))) 15 (upd (r' 15) m 0) := ⟨_, rfl⟩
  have rg : ∀ g, g ≠ 2 → g ≠ 10 → g ≠ 15 → r1 g = r' g := fun g a b c => by rw [er, qp_ne _ _ c, qp_ne _ _ b, qp_ne _ _ a]
  have r15 : r1 15 = upd (r' 15) m 0 := by rw [er, qp_eq]
  have r10 : r1 10 = upd (r' 10) m (nI cnt) := by rw [er, qp_ne _ _ (by decide), qp_eq]
  have r2 : r1 2 = fun _ => 0 := by rw [er, qp_ne _ _ (by decide), qp_ne _ _ (by decide), qp_eq]
  obtain ⟨R, e1, e2, e3, e4⟩ := cp_lp hm hc (nI cnt) cnt 0 qN r1 (by omega) (by unfold qN; omega) (by rw [rg 7 (by decide) (by decide) (by decide)]; exact h7)
  refine ⟨R, ?_, ?_, ?_, ?_, fun j hj => ⟨?_, ?_⟩, fun g hg => ?_, fun j hj => ?_, fun k hk => ?_⟩
  · unfold qf_Ref_load_j27
    rw [h7, if_pos (show (0 : Int32) ≤ nI cnt from nI_le (a := 0) (by omega) (by omega)), ck hm (by decide), ck hm (by decide), nI_clamp (show m < 2 ^ 31 by omega), ← er, ← nI_0]
    exact e1
  · rw [e2 2 (by omega), r2]; rfl
  · rw [e2 10 (by omega), r10, up_eq]
  · rw [e2 15 (by omega), r15, up_eq]; rfl
  · rw [e2 10 (by omega), r10, up_ne _ _ hj]
  · rw [e2 15 (by omega), r15, up_ne _ _ hj]
  · rw [e2 g (by omega), rg g (by omega) (by omega) (by omega)]
  · obtain ⟨a1, a2, a3, a4⟩ := e3 j (by omega)
    rw [rg 11 (by decide) (by decide) (by decide)] at a1
    rw [rg 12 (by decide) (by decide) (by decide)] at a2
    rw [rg 13 (by decide) (by decide) (by decide)] at a3
    rw [rg 14 (by decide) (by decide) (by decide)] at a4
    exact ⟨a1, a2, a3, a4⟩
  · obtain ⟨a1, a2, a3, a4⟩ := e4 k (by omega) hk
    rw [rg 3 (by decide) (by decide) (by decide)] at a1
    rw [rg 4 (by decide) (by decide) (by decide)] at a2
    rw [rg 5 (by decide) (by decide) (by decide)] at a3
    rw [rg 6 (by decide) (by decide) (by decide)] at a4
    exact ⟨a1, a2, a3, a4⟩
theorem load_both {n B : Nat} {r src mem mu0 bu0 ou0 mu1 bu1 ou1 col : QS} (x : Int32) (h : RAll n B r src mem mu0 bu0 ou0 mu1 bu1 ou1 col) : ∃ a src' mu0' mu1' R, qf_Qs_load x src mu0 mu1 = some (a, src', mu0', mu1') ∧ qf_Ref_load x r = some (a, R) ∧ RAll n B R src' mem mu0' bu0 ou0 mu1' bu1 ou1 col := by
  have hall := h
  obtain ⟨h1, h2, ⟨t, ht, s1, s2, s3⟩, h4, h5, h6, h7, h8, h9, h10, h11⟩ := h
  obtain ⟨a, src', r', cnt, e1, e2, ha, c1, c2, c3, c4, c5⟩ := read_both ht ⟨s1, s2, s3⟩
  obtain ⟨S, eS⟩ : ∃ s, s = qp src' 1 (fun _ => 0) := ⟨_, rfl⟩
  have S1 : S 1 0 = nI 0 := by rw [eS, qp_eq]; rfl
  have S2 : S 2 = src' 2 := by rw [eS, qp_ne _ _ (by decide)]
  have S3 : S 3 0 = nI cnt := by rw [eS, qp_ne _ _ (by decide)]; exact c1
  have hem : qf_Src_empty src' = some S := by unfold qf_Src_empty; rw [← eS]
  have hq : qf_Qs_load x src mu0 mu1 = ((qf_Qs_isMutator x).bind fun q3 => (if q3 = 0 then (some ((-1), S, mu0, mu1)) else (if a = 0 then (some ((-2), S, mu0, mu1)) else (if x = 0 then ((qf_Mut_install (nI cnt) mu0 (fun _ => (src' 2))).bind fun q6 => (some (nI cnt, S, q6, mu1))) else (if x = 1 then ((qf_Mut_install (nI cnt) mu1 (fun _ => (src' 2))).bind fun q7 => (some (nI cnt, S, mu0, q7))) else none))))) := by
    unfold qf_Qs_load
    rw [e1, Option.bind_some]
    show (qf_Src_empty src').bind _ = _
    rw [hem, Option.bind_some, S3, S2]
  by_cases hx : x = 0 ∨ x = 1
  · have hi : qf_Qs_isMutator x = some 1 := by rcases hx with rfl | rfl <;> rfl
    have hi' : qf_Ref_isMutator x = some 1 := by rcases hx with rfl | rfl <;> rfl
    have hr : qf_Ref_load x r = if a = 0 then qf_Ref_load_j27 x (-2) r' else qf_Ref_load_j27 x (r' 7 0) r' := by
      unfold qf_Ref_load
      rw [hi', Option.bind_some, if_neg (by decide), e2, Option.bind_some]
    rw [hi, Option.bind_some, if_neg (by decide)] at hq
    rcases ha with rfl | rfl
    · rw [if_pos rfl] at hq hr
      refine ⟨-2, S, mu0, mu1, qp r' 2 (fun _ => 0), hq, ?_, RAll_empty hall S1 (by rw [qp_eq]; rfl) (fun g hg => by rw [qp_ne _ _ (by omega)]; exact c5 g (by omega))⟩
      rw [hr]
      unfold qf_Ref_load_j27
      rw [if_neg (by decide)]
    · rw [if_neg (by decide)] at hq hr
      rcases hx with rfl | rfl
      · obtain ⟨mu', f1, f2, f3, f4, f5, f6, f7, f8⟩ := inst_cl (mu := mu0) (s := fun _ => src' 2) c4
        obtain ⟨R, g1, g2, g3, g4, g5, g6, g7, g8⟩ := ref_inst (m := 0) (by decide) c4 c2
        have k16 : ∀ g, 16 ≤ g → R g = r g := fun g hg => by rw [g6 g (by omega), c5 g (by omega)]
        have k0 : R 0 = r 0 := by rw [g6 0 (by omega), c5 0 (by omega)]
        refine ⟨nI cnt, S, mu', mu1, R, ?_, ?_, h1, h2, ⟨0, by omega, S1, g2, fun j hj => by omega⟩, ?_, ?_, ?_, ?_, ?_, ?_, ?_, ?_⟩
        · rw [hq, if_pos rfl, f1, Option.bind_some]
        · rw [hr]; exact g1
        · rw [k0, k16 25 (by decide), k16 26 (by decide)]; exact h4
        · exact RMut_new c4 h5 f2 f3 f4 f5 f6 f7 f8 c3 g3 g4 g8 (k16 16 (by decide)) (k16 17 (by decide)) (k16 18 (by decide))
        · rw [k16 19 (by decide), k16 20 (by decide), k16 21 (by decide), k16 22 (by decide)]; exact h6
        · rw [k16 23 (by decide), k16 24 (by decide)]; exact h7
        · refine RMut_oth h8 ?_ ?_ (fun k hk => ?_) (k16 16 (by decide)) (k16 17 (by decide)) (k16 18 (by decide))
          · rw [(g5 1 (by decide)).1, c5 10 (by omega)]
          · rw [(g5 1 (by decide)).2, c5 15 (by omega)]
          · obtain ⟨y1, y2, y3, y4⟩ := g7 (40 * 1 + k) (by omega)
            rw [c5 11 (by omega)] at y1
            rw [c5 12 (by omega)] at y2
            rw [c5 13 (by omega)] at y3
            rw [c5 14 (by omega)] at y4
            exact ⟨y1, y2, y3, y4⟩
        · rw [k16 19 (by decide), k16 20 (by decide), k16 21 (by decide), k16 22 (by decide)]; exact h9
        · rw [k16 23 (by decide), k16 24 (by decide)]; exact h10
        · rw [k16 27 (by decide), k16 28 (by decide), k16 29 (by decide), k16 30 (by decide)]; exact h11
      · obtain ⟨mu', f1, f2, f3, f4, f5, f6, f7, f8⟩ := inst_cl (mu := mu1) (s := fun _ => src' 2) c4
        obtain ⟨R, g1, g2, g3, g4, g5, g6, g7, g8⟩ := ref_inst (m := 1) (by decide) c4 c2
        have k16 : ∀ g, 16 ≤ g → R g = r g := fun g hg => by rw [g6 g (by omega), c5 g (by omega)]
        have k0 : R 0 = r 0 := by rw [g6 0 (by omega), c5 0 (by omega)]
        refine ⟨nI cnt, S, mu0, mu', R, ?_, ?_, h1, h2, ⟨0, by omega, S1, g2, fun j hj => by omega⟩, ?_, ?_, ?_, ?_, ?_, ?_, ?_, ?_⟩
        · rw [hq, if_neg (by decide), if_pos rfl, f1, Option.bind_some]
        · rw [hr]; exact g1
        · rw [k0, k16 25 (by decide), k16 26 (by decide)]; exact h4
        · refine RMut_oth h5 ?_ ?_ (fun k hk => ?_) (k16 16 (by decide)) (k16 17 (by decide)) (k16 18 (by decide))
          · rw [(g5 0 (by decide)).1, c5 10 (by omega)]
          · rw [(g5 0 (by decide)).2, c5 15 (by omega)]
          · obtain ⟨y1, y2, y3, y4⟩ := g7 (40 * 0 + k) (by omega)
            rw [c5 11 (by omega)] at y1
            rw [c5 12 (by omega)] at y2
            rw [c5 13 (by omega)] at y3
            rw [c5 14 (by omega)] at y4
            exact ⟨y1, y2, y3, y4⟩
        · rw [k16 19 (by decide), k16 20 (by decide), k16 21 (by decide), k16 22 (by decide)]; exact h6
        · rw [k16 23 (by decide), k16 24 (by decide)]; exact h7
        · exact RMut_new c4 h8 f2 f3 f4 f5 f6 f7 f8 c3 g3 g4 g8 (k16 16 (by decide)) (k16 17 (by decide)) (k16 18 (by decide))
        · rw [k16 19 (by decide), k16 20 (by decide), k16 21 (by decide), k16 22 (by decide)]; exact h9
        · rw [k16 23 (by decide), k16 24 (by decide)]; exact h10
        · rw [k16 27 (by decide), k16 28 (by decide), k16 29 (by decide), k16 30 (by decide)]; exact h11
  · have h0 : ¬ x = 0 := fun e => hx (Or.inl e)
    have h1' : ¬ x = 1 := fun e => hx (Or.inr e)
    have hi : qf_Qs_isMutator x = some 0 := by
      unfold qf_Qs_isMutator
      rcases pk_ix x (n := 2) (by decide) with h3 | h3 | ⟨j, hj, e⟩
      · rw [if_pos h3]
      · by_cases h4 : x < 0
        · rw [if_pos h4]
        · rw [if_neg h4, if_pos (show (2 : Int32) ≤ x from h3)]
      · exfalso
        have hj' : j = 0 ∨ j = 1 := by omega
        rcases hj' with rfl | rfl
        · exact h0 e
        · exact h1' e
    have hi' : qf_Ref_isMutator x = some 0 := by unfold qf_Ref_isMutator; rw [if_neg h0, if_neg h1']
    rw [hi, Option.bind_some, if_pos rfl] at hq
    refine ⟨-1, S, mu0, mu1, qp r 2 (fun _ => 0), hq, ?_, RAll_empty hall S1 (by rw [qp_eq]; rfl) (fun g hg => by rw [qp_ne _ _ (by omega)])⟩
    unfold qf_Ref_load
    rw [hi', Option.bind_some, if_pos rfl]
    unfold qf_Ref_load_j27
    rw [if_neg (by decide)]
