/-! ===== the pure part: reached, reaches, both sides ===== -/
theorem f23s (N : Nat) (x : Int32) (S : QS) : qfix qf_Ref_reach_F23 (N + 1) (x, S) = if 2 ≤ x then qfix qf_Ref_reach_F128 qN (0, S) else qfix (qf_Ref_reach_F30 (qfix qf_Ref_reach_F23 N)) qN (x, 0, S) := rfl
theorem roots_ref {n b0 b1 M : Nat} {r mu0 bu0 mu1 bu1 : QS} (hM : qN = M + 3) (hn : n ≤ 11) (hH : RH 0 r) (hv0 : ∀ k, k < 4 → r 16 (7 * 0 + k) = mu0 3 k ∧ Ptr n (mu0 3 k)) (hv1 : ∀ k, k < 4 → r 16 (7 * 1 + k) = mu1 3 k ∧ Ptr n (mu1 3 k)) (h3 : b0 ≤ 3) (h3' : b1 ≤ 3) (h19 : r 19 0 = nI b0) (h19' : r 19 1 = nI b1) (hb : ∀ k, k < b0 → ∃ c f, c < n ∧ f < 3 ∧ bu0 0 k = nI c ∧ r 20 (3 * 0 + k) = nI c ∧ bu0 1 k = nI f ∧ r 21 (3 * 0 + k) = nI f ∧ r 22 (3 * 0 + k) = bu0 2 k ∧ (f < 2 → Ptr n (bu0 2 k))) (hb' : ∀ k, k < b1 → ∃ c f, c < n ∧ f < 3 ∧ bu1 0 k = nI c ∧ r 20 (3 * 1 + k) = nI c ∧ bu1 1 k = nI f ∧ r 21 (3 * 1 + k) = nI f ∧ r 22 (3 * 1 + k) = bu1 2 k ∧ (f < 2 → Ptr n (bu1 2 k))) : ∃ r', qfix qf_Ref_reach_F23 qN (nI 0, r) = qfix qf_Ref_reach_F128 qN (nI 0, r') ∧ RH (orF (stW bu1) (orF (vaW mu1) (orF (stW bu0) (orF (vaW mu0) 0 4) b0) 4) b1) r' ∧ ∀ g, g ≠ 31 → r' g = r g := by
  obtain ⟨r1, a1, a2, a3⟩ := var_ref (m := 0) (w := 0) (mu := mu0) hn (by decide) (qfix qf_Ref_reach_F23 (M + 2)) 4 0 qN r (by omega) (by unfold qN; omega) hv0 hH
  obtain ⟨r2, c1, c2, c3⟩ := st_ref (m := 0) (b := b0) (bu := bu0) hn (by decide) h3 (qfix qf_Ref_reach_F23 (M + 2)) b0 0 qN r1 (by omega) (by unfold qN; omega) (by rw [a3 19 (by decide)]; exact h19) (by rw [a3 20 (by decide), a3 21 (by decide), a3 22 (by decide)]; exact hb) a2
  have k2 : ∀ g, g ≠ 31 → r2 g = r g := fun g hg => by rw [c3 g hg, a3 g hg]
  obtain ⟨r3, d1, d2, d3⟩ := var_ref (m := 1) (mu := mu1) hn (by decide) (qfix qf_Ref_reach_F23 (M + 1)) 4 0 qN r2 (by omega) (by unfold qN; omega) (by rw [k2 16 (by decide)]; exact hv1) c2
  have k3 : ∀ g, g ≠ 31 → r3 g = r g := fun g hg => by rw [d3 g hg, k2 g hg]
  obtain ⟨r4, e1, e2, e3⟩ := st_ref (m := 1) (b := b1) (bu := bu1) hn (by decide) h3' (qfix qf_Ref_reach_F23 (M + 1)) b1 0 qN r3 (by omega) (by unfold qN; omega) (by rw [k3 19 (by decide)]; exact h19') (by rw [k3 20 (by decide), k3 21 (by decide), k3 22 (by decide)]; exact hb') d2
  refine ⟨r4, ?_, e2, fun g hg => by rw [e3 g hg, k3 g hg]⟩
  have s0 : qfix qf_Ref_reach_F23 qN (nI 0, r) = qfix qf_Ref_reach_F23 (M + 3) (nI 0, r) := congrArg (fun z => qfix qf_Ref_reach_F23 z (nI 0, r)) hM
  have s1 : qfix qf_Ref_reach_F23 (M + 3) (nI 0, r) = qfix (qf_Ref_reach_F30 (qfix qf_Ref_reach_F23 (M + 2))) qN (nI 0, nI 0, r) := by
    rw [f23s, if_neg (by decide), nI_0]
  have s2 : qfix qf_Ref_reach_F23 (M + 2) (nI (0 + 1), r2) = qfix (qf_Ref_reach_F30 (qfix qf_Ref_reach_F23 (M + 1))) qN (nI 1, nI 0, r2) := by
    rw [f23s, if_neg (by decide), nI_0]
  have s3 : qfix qf_Ref_reach_F23 (M + 1) (nI (1 + 1), r4) = qfix qf_Ref_reach_F128 qN (nI 0, r4) := by
    rw [f23s, if_pos (by decide), nI_0]
  exact s0.trans (s1.trans (a1.trans (c1.trans (s2.trans (d1.trans (e1.trans s3))))))
theorem clo_in {n : Nat} {mem : QS} (hn : n ≤ 11) (hm : mem 0 0 = nI n) (hp : ∀ c, c < n → ∀ f, f < 2 → Ptr n (mem 2 (3 * c + f))) (K : (Int32 × Int32 × QS) → Option Int32) (K' : (Int32 × QS) → Option QS) (x y : Int32) : ∀ (d i N N' w : Nat) (r : QS), i + d = n → d < N → d < N' → w < 2 ^ n → RH w r → r 0 0 = nI n → (∀ j, j < 3 * n → r 26 j = mem 2 j) → ∃ w' r', qfix (qf_Mem_closure_F15 K) N (nI w, x, nI i, mem) = K (nI w', x + 1, mem) ∧ qfix (qf_Ref_reach_F138 K') N' (y, nI i, r) = K' (y + 1, r') ∧ w' < 2 ^ n ∧ RH w' r' ∧ ∀ g, g ≠ 31 → r' g = r g := by
  intro d
  induction d with
  | zero =>
    intro i N N' w r hi hN hN' hw hH h0 h26
    obtain ⟨N, rfl⟩ : ∃ M, N = M + 1 := ⟨N - 1, by omega⟩
    obtain ⟨N', rfl⟩ : ∃ M, N' = M + 1 := ⟨N' - 1, by omega⟩
    refine ⟨w, r, ?_, ?_, hw, hH, fun _ _ => rfl⟩
    · show qf_Mem_closure_B15 K (qfix (qf_Mem_closure_F15 K) N) (nI w) x (nI i) mem = _
      unfold qf_Mem_closure_B15
      rw [hm, if_pos (nI_le (by omega) (by omega))]
    · show qf_Ref_reach_B138 K' (qfix (qf_Ref_reach_F138 K') N') y (nI i) r = _
      unfold qf_Ref_reach_B138
      rw [h0, if_pos (nI_le (by omega) (by omega))]
  | succ d ih =>
    intro i N N' w r hi hN hN' hw hH h0 h26
    obtain ⟨N, rfl⟩ : ∃ M, N = M + 1 := ⟨N - 1, by omega⟩
    obtain ⟨N', rfl⟩ : ∃ M, N' = M + 1 := ⟨N' - 1, by omega⟩
    by_cases hb : w.testBit i = true
    · have p0 := hp i (by omega) 0 (by decide)
      have p1 := hp i (by omega) 1 (by decide)
      obtain ⟨r1, a1, a2, a3⟩ := hold_ref hn p0 hH
      obtain ⟨r2, b1, b2, b3⟩ := hold_ref hn p1 a2
      have hall : ∀ g, g ≠ 31 → r2 g = r g := fun g hg => by rw [b3 g hg, a3 g hg]
      have l0 := bitF_lt hn p0
      have l1 := bitF_lt hn p1
      obtain ⟨w', r', c1, c2, c3, c4, c5⟩ := ih (i + 1) N N' (w ||| (bitF (mem 2 (3 * i + 0)) ||| bitF (mem 2 (3 * i + 1)))) r2 (by omega) (by omega) (by omega) (or_lt hw (or_lt l0 l1)) (by rw [← Nat.or_assoc]; exact b2) (by rw [hall 0 (by decide)]; exact h0) (by rw [hall 26 (by decide)]; exact h26)
      refine ⟨w', r', ?_, ?_, c3, c4, fun g hg => by rw [c5 g hg, hall g hg]⟩
      · refine Eq.trans ?_ c1
        show qf_Mem_closure_B15 K (qfix (qf_Mem_closure_F15 K) N) (nI w) x (nI i) mem = _
        unfold qf_Mem_closure_B15
        rw [hm, if_neg (nI_ge (by omega) (by omega)), if_pos ((bit_test (by omega) (l11 hn hw)).mpr hb)]
        show (qf_Mem_read (nI i) (nI 0) mem).bind (fun q1 => (qf_Qs_setOf q1).bind fun q2 => (qf_Mem_read (nI i) (nI 1) mem).bind fun q3 => (qf_Qs_setOf q3).bind fun q4 => qfix (qf_Mem_closure_F15 K) N (nI w ||| (q2 ||| q4), x, nI i + 1, mem)) = _
        rw [pm_read hn hm (by omega) (by omega), Option.bind_some, set_of hn p0, Option.bind_some, pm_read hn hm (by omega) (by omega), Option.bind_some, set_of hn p1, Option.bind_some, nI_or (l11 hn l0) (l11 hn l1), nI_or (l11 hn hw) (l11 hn (or_lt l0 l1)), nI_1]
      · refine Eq.trans ?_ c2
        show qf_Ref_reach_B138 K' (qfix (qf_Ref_reach_F138 K') N') y (nI i) r = _
        unfold qf_Ref_reach_B138
        have e0 : r 26 (3 * i) = mem 2 (3 * i + 0) := h26 (3 * i) (by omega)
        have e1 : r1 26 (3 * i + 1) = mem 2 (3 * i + 1) := by rw [a3 26 (by decide)]; exact h26 _ (by omega)
        rw [h0, if_neg (nI_ge (by omega) (by omega)), ck (by omega) (by decide), nI_clamp (show i < 2 ^ 31 by omega), hH i (by omega), if_pos hb, if_neg (show ¬ (1 : Int32) = 0 by decide), n3m, ck (by omega) (by decide), nI_clamp (show 3 * i < 2 ^ 31 by omega), e0, a1, Option.bind_some, nI_1, nI_1, ck (by omega) (by decide), nI_clamp (show 3 * i + 1 < 2 ^ 31 by omega), e1, b1, Option.bind_some]
    · obtain ⟨w', r', c1, c2, c3, c4, c5⟩ := ih (i + 1) N N' w r (by omega) (by omega) (by omega) hw hH h0 h26
      refine ⟨w', r', ?_, ?_, c3, c4, c5⟩
      · refine Eq.trans ?_ c1
        show qf_Mem_closure_B15 K (qfix (qf_Mem_closure_F15 K) N) (nI w) x (nI i) mem = _
        unfold qf_Mem_closure_B15
        rw [hm, if_neg (nI_ge (by omega) (by omega)), if_neg (fun h => hb ((bit_test (by omega) (l11 hn hw)).mp h)), nI_1]
      · refine Eq.trans ?_ c2
        show qf_Ref_reach_B138 K' (qfix (qf_Ref_reach_F138 K') N') y (nI i) r = _
        unfold qf_Ref_reach_B138
        rw [h0, if_neg (nI_ge (by omega) (by omega)), ck (by omega) (by decide), nI_clamp (show i < 2 ^ 31 by omega), hH i (by omega), if_neg hb, if_pos rfl, nI_1]
theorem clo4s (N : Nat) (w x : Int32) (S : QS) : qfix qf_Mem_closure_F4 (N + 1) (w, x, S) = if (S 0 0) ≤ x then some w else qfix (qf_Mem_closure_F15 (qfix qf_Mem_closure_F4 N)) qN (w, x, 0, S) := rfl
theorem ref128s (N : Nat) (x : Int32) (S : QS) : qfix qf_Ref_reach_F128 (N + 1) (x, S) = if (S 0 0) ≤ x then some S else qfix (qf_Ref_reach_F138 (qfix qf_Ref_reach_F128 N)) qN (x, 0, S) := rfl
theorem clo_out {n : Nat} {mem : QS} (hn : n ≤ 11) (hm : mem 0 0 = nI n) (hp : ∀ c, c < n → ∀ f, f < 2 → Ptr n (mem 2 (3 * c + f))) : ∀ (d i N N' w : Nat) (r : QS), i + d = n → d < N → d < N' → w < 2 ^ n → RH w r → r 0 0 = nI n → (∀ j, j < 3 * n → r 26 j = mem 2 j) → ∃ w' r', qfix qf_Mem_closure_F4 N (nI w, nI i, mem) = some (nI w') ∧ qfix qf_Ref_reach_F128 N' (nI i, r) = some r' ∧ w' < 2 ^ n ∧ RH w' r' ∧ ∀ g, g ≠ 31 → r' g = r g := by
  intro d
  induction d with
  | zero =>
    intro i N N' w r hi hN hN' hw hH h0 h26
    obtain ⟨N, rfl⟩ : ∃ M, N = M + 1 := ⟨N - 1, by omega⟩
    obtain ⟨N', rfl⟩ : ∃ M, N' = M + 1 := ⟨N' - 1, by omega⟩
    refine ⟨w, r, ?_, ?_, hw, hH, fun _ _ => rfl⟩
    · rw [clo4s, hm, if_pos (nI_le (by omega) (by omega))]
    · rw [ref128s, h0, if_pos (nI_le (by omega) (by omega))]
  | succ d ih =>
    intro i N N' w r hi hN hN' hw hH h0 h26
    obtain ⟨N, rfl⟩ : ∃ M, N = M + 1 := ⟨N - 1, by omega⟩
    obtain ⟨N', rfl⟩ : ∃ M, N' = M + 1 := ⟨N' - 1, by omega⟩
    obtain ⟨w1, r1, a1, a2, a3, a4, a5⟩ := clo_in hn hm hp (qfix qf_Mem_closure_F4 N) (qfix qf_Ref_reach_F128 N') (nI i) (nI i) n 0 qN qN w r (by omega) (by unfold qN; omega) (by unfold qN; omega) hw hH h0 h26
    obtain ⟨w', r', c1, c2, c3, c4, c5⟩ := ih (i + 1) N N' w1 r1 (by omega) (by omega) (by omega) a3 a4 (by rw [a5 0 (by decide)]; exact h0) (by rw [a5 26 (by decide)]; exact h26)
    refine ⟨w', r', ?_, ?_, c3, c4, fun g hg => by rw [c5 g hg, a5 g hg]⟩
    · refine Eq.trans ?_ (a1.trans (Eq.trans ?_ c1))
      · rw [clo4s, hm, if_neg (nI_ge (by omega) (by omega)), nI_0]
      · rw [nI_1]
    · refine Eq.trans ?_ (a2.trans (Eq.trans ?_ c2))
      · rw [ref128s, h0, if_neg (nI_ge (by omega) (by omega)), nI_0]
      · rw [nI_1]
theorem rset4s (N : Nat) (w x : Int32) (a b c d e : QS) : qfix qf_Qs_reachedSet_F4 (N + 1) (w, x, a, b, c, d, e) = if 2 ≤ x then ((qf_Mem_closure w a).bind fun q1 => (some q1)) else (if x = 0 then ((qf_Mut_rootSet b c).bind fun q4 => (qfix qf_Qs_reachedSet_F4 N ((w ||| q4), (x + 1), a, b, c, d, e))) else (if x = 1 then ((qf_Mut_rootSet d e).bind fun q5 => (qfix qf_Qs_reachedSet_F4 N ((w ||| q5), (x + 1), a, b, c, d, e))) else none)) := rfl
theorem or_roots (a b c d : Nat → Nat) (i j : Nat) : orF d (orF c (orF b (orF a 0 4) i) 4) j = (0 ||| orF a (orF b 0 i) 4) ||| orF c (orF d 0 j) 4 := by
  rw [orF_base d, orF_base c, orF_base b, orF_base a (orF b 0 i), orF_base c (orF d 0 j), Nat.zero_or]
  apply Nat.eq_of_testBit_eq
  intro k
  simp only [Nat.testBit_or]
  cases (orF a 0 4).testBit k <;> cases (orF b 0 i).testBit k <;> cases (orF c 0 4).testBit k <;> cases (orF d 0 j).testBit k <;> rfl
theorem RAll_31 {n B : Nat} {r r' src mem mu0 bu0 ou0 mu1 bu1 ou1 col : QS} (h : RAll n B r src mem mu0 bu0 ou0 mu1 bu1 ou1 col) (hg : ∀ g, g ≠ 31 → r' g = r g) : RAll n B r' src mem mu0 bu0 ou0 mu1 bu1 ou1 col := by
  unfold RAll at h ⊢
  rw [hg 0 (by decide), hg 1 (by decide), hg 2 (by decide), hg 10 (by decide), hg 11 (by decide), hg 12 (by decide), hg 13 (by decide), hg 14 (by decide), hg 15 (by decide), hg 16 (by decide), hg 17 (by decide), hg 18 (by decide), hg 19 (by decide), hg 20 (by decide), hg 21 (by decide), hg 22 (by decide), hg 23 (by decide), hg 24 (by decide), hg 25 (by decide), hg 26 (by decide), hg 27 (by decide), hg 28 (by decide), hg 29 (by decide), hg 30 (by decide)]
  exact h
theorem set_both {n B : Nat} {r src mem mu0 bu0 ou0 mu1 bu1 ou1 col : QS} (h : RAll n B r src mem mu0 bu0 ou0 mu1 bu1 ou1 col) : ∃ w r', qf_Qs_reachedSet mem mu0 bu0 mu1 bu1 = some (nI w) ∧ qf_Ref_reach r = some r' ∧ w < 2 ^ n ∧ RH w r' ∧ ∀ g, g ≠ 31 → r' g = r g := by
  obtain ⟨h1, h2, h3, h4, hM0, ⟨b0, x1, x2, x3, x4⟩, -, hM1, ⟨b1, y1, y2, y3, y4⟩, -, -⟩ := h
  obtain ⟨M, hM⟩ : ∃ M, qN = M + 3 := ⟨997, rfl⟩
  obtain ⟨z1, z2⟩ := mut_root (r19 := r 19) h2 hM0 x1 x2 x4
  obtain ⟨z3, z4⟩ := mut_root (r19 := r 19) h2 hM1 y1 y2 y4
  obtain ⟨r1, a1, a2, a3⟩ := clear_ref 11 0 qN r (by omega) (by unfold qN; omega) (fun c hc => by omega)
  obtain ⟨r2, c1, c2, c3⟩ := roots_ref (n := n) (b0 := b0) (b1 := b1) (r := r1) (mu0 := mu0) (bu0 := bu0) (mu1 := mu1) (bu1 := bu1) hM h2 a2 (by rw [a3 16 (by decide)]; exact hM0.2.1.1) (by rw [a3 16 (by decide)]; exact hM1.2.1.1) x1 y1 (by rw [a3 19 (by decide)]; exact x3) (by rw [a3 19 (by decide)]; exact y3) (by rw [a3 20 (by decide), a3 21 (by decide), a3 22 (by decide)]; exact x4) (by rw [a3 20 (by decide), a3 21 (by decide), a3 22 (by decide)]; exact y4)
  rw [or_roots] at c2
  have hw : (0 ||| orF (vaW mu0) (orF (stW bu0) 0 b0) 4) ||| orF (vaW mu1) (orF (stW bu1) 0 b1) 4 < 2 ^ n := or_lt (or_lt (Nat.two_pow_pos n) z2) z4
  have k2 : ∀ g, g ≠ 31 → r2 g = r g := fun g hg => by rw [c3 g hg, a3 g hg]
  obtain ⟨w', r', d1, d2, d3, d4, d5⟩ := clo_out h2 h4.1 h4.2.2.2.2 n 0 qN qN _ r2 (by omega) (by unfold qN; omega) (by unfold qN; omega) hw c2 (by rw [k2 0 (by decide)]; exact h4.2.1) (by rw [k2 26 (by decide)]; exact h4.2.2.2.1)
  refine ⟨w', r', ?_, ?_, d3, d4, fun g hg => by rw [d5 g hg, k2 g hg]⟩
  · have s0 : qf_Qs_reachedSet mem mu0 bu0 mu1 bu1 = qfix qf_Qs_reachedSet_F4 (M + 3) (nI 0, nI 0, mem, mu0, bu0, mu1, bu1) := by
      unfold qf_Qs_reachedSet
      rw [hM, nI_0]
    rw [s0, rset4s, if_neg (by decide), if_pos (by decide), z1, Option.bind_some, nI_or (by decide) (l11 h2 z2), nI_1, rset4s, if_neg (by decide), if_neg (by decide), if_pos (by decide), z3, Option.bind_some, nI_or (l11 h2 (or_lt (Nat.two_pow_pos n) z2)) (l11 h2 z4), nI_1, rset4s, if_pos (by decide)]
    have d1' : qf_Mem_closure (nI (0 ||| orF (vaW mu0) (orF (stW bu0) 0 b0) 4 ||| orF (vaW mu1) (orF (stW bu1) 0 b1) 4)) mem = some (nI w') := by
      unfold qf_Mem_closure
      rw [← nI_0]; exact d1
    rw [d1', Option.bind_some]
  · unfold qf_Ref_reach
    rw [← nI_0, a1, c1, d2]
theorem cnt_ref {n w : Nat} {r : QS} (hn : n ≤ 11) (hH : RH w r) (h0 : r 0 0 = nI n) : ∀ d i N, i + d = n → d < N → qfix qf_Ref_reached_F8 N (nI (bcN w i), nI i, r) = some (nI (bcN w n), r) := by
  intro d
  induction d with
  | zero =>
    intro i N hi hN
    obtain ⟨N, rfl⟩ : ∃ M, N = M + 1 := ⟨N - 1, by omega⟩
    obtain rfl : i = n := by omega
    show qf_Ref_reached_B8 (qfix qf_Ref_reached_F8 N) (nI (bcN w i)) (nI i) r = _
    unfold qf_Ref_reached_B8
    rw [h0, if_pos (nI_le (Nat.le_refl _) (by omega))]
  | succ d ih =>
    intro i N hi hN
    obtain ⟨N, rfl⟩ : ∃ M, N = M + 1 := ⟨N - 1, by omega⟩
    refine Eq.trans ?_ (ih (i + 1) N (by omega) (by omega))
    show qf_Ref_reached_B8 (qfix qf_Ref_reached_F8 N) (nI (bcN w i)) (nI i) r = qfix qf_Ref_reached_F8 N (nI (bcN w i + (if w.testBit i then 1 else 0)), nI (i + 1), r)
    unfold qf_Ref_reached_B8
    rw [h0, if_neg (nI_ge (by omega) (by omega)), ck (by omega) (by decide), nI_clamp (show i < 2 ^ 31 by omega), hH i (by omega), nI_1, nI_1]
    by_cases hb : w.testBit i = true
    · rw [if_pos hb, if_pos hb, if_neg (by decide)]
    · rw [if_neg hb, if_neg hb, if_pos rfl]; rfl
theorem reached_both {n B : Nat} {r src mem mu0 bu0 ou0 mu1 bu1 ou1 col : QS} (h : RAll n B r src mem mu0 bu0 ou0 mu1 bu1 ou1 col) : ∃ a r', qf_Qs_reached mem mu0 bu0 mu1 bu1 = some a ∧ qf_Ref_reached r = some (a, r') ∧ RAll n B r' src mem mu0 bu0 ou0 mu1 bu1 ou1 col := by
  obtain ⟨w, r', e1, e2, hw, hH, hg⟩ := set_both h
  refine ⟨nI (bcN w n), r', ?_, ?_, RAll_31 h hg⟩
  · unfold qf_Qs_reached
    rw [e1, Option.bind_some, bc_count h.2.1 hw, Option.bind_some]
  · unfold qf_Ref_reached
    rw [e2, Option.bind_some]
    exact cnt_ref h.2.1 hH (by rw [hg 0 (by decide)]; exact h.2.2.2.1.2.1) n 0 qN (by omega) (by have := h.2.1; unfold qN; omega)
theorem reaches_both {n B : Nat} {r src mem mu0 bu0 ou0 mu1 bu1 ou1 col : QS} (x : Int32) (h : RAll n B r src mem mu0 bu0 ou0 mu1 bu1 ou1 col) : ∃ a r', qf_Qs_reaches x mem mu0 bu0 mu1 bu1 = some a ∧ qf_Ref_reaches x r = some (a, r') ∧ RAll n B r' src mem mu0 bu0 ou0 mu1 bu1 ou1 col := by
  obtain ⟨w, r', e1, e2, hw, hH, hg⟩ := set_both h
  have hn := h.2.1
  have hm := h.2.2.2.1.1
  have h0 : r' 0 0 = nI n := by rw [hg 0 (by decide)]; exact h.2.2.2.1.2.1
  have hR := RAll_31 h hg
  unfold qf_Qs_reaches qf_Ref_reaches qf_Mem_isCell qf_Ref_isCell
  rw [e2, Option.bind_some, hm, h0]
  by_cases hx : x < 0
  · refine ⟨0, r', ?_, ?_, hR⟩
    · rw [if_pos hx, Option.bind_some, if_pos rfl]
    · rw [if_pos hx, Option.bind_some, if_pos rfl]
  · rw [if_neg hx]
    by_cases hy : nI n ≤ x
    · refine ⟨0, r', ?_, ?_, hR⟩
      · rw [if_pos hy, Option.bind_some, if_pos rfl]
      · rw [if_pos hy, Option.bind_some, if_pos rfl]
    · rcases pk_ix x (n := n) (by omega) with h8 | h8 | ⟨c, hc, rfl⟩
      · exact absurd h8 hx
      · exact absurd h8 hy
      · rw [if_neg hy, Option.bind_some, Option.bind_some, if_neg (show ¬ (1 : Int32) = 0 by decide), if_neg (show ¬ (1 : Int32) = 0 by decide), e1, Option.bind_some, ck (by omega) (by decide), nI_clamp (show c < 2 ^ 31 by omega), hH c (by omega)]
        by_cases hb : w.testBit c = true
        · refine ⟨1, r', ?_, ?_, hR⟩
          · rw [if_pos ((bit_test (by omega) (l11 hn hw)).mpr hb)]
          · rw [if_pos hb, if_neg (show ¬ (1 : Int32) = 0 by decide)]
        · refine ⟨0, r', ?_, ?_, hR⟩
          · rw [if_neg (fun h => hb ((bit_test (by omega) (l11 hn hw)).mp h))]
          · rw [if_neg hb, if_pos rfl]
