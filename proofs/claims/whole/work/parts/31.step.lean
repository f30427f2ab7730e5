/-! ===== the pure part: a step of the collector ===== -/
def whF (x : Int32) : Int32 := if x = 0 then 0 else 1
theorem white_lp {n : Nat} {mem : QS} (hn : n ≤ 11) (hm : mem 0 0 = nI n) : ∀ (d i N : Nat) (S : QS), i + d = n → d < N → S 0 = mem 0 → S 2 = mem 2 → (∀ c, S 1 c = if c < i then whF (mem 1 c) else mem 1 c) → ∃ S', qfix qf_Mem_whitenUsed_F2 N (nI i, S) = some S' ∧ S' 0 = mem 0 ∧ S' 2 = mem 2 ∧ ∀ c, c < n → S' 1 c = whF (mem 1 c) := by
  intro d
  induction d with
  | zero =>
    intro i N S hi hN h0 h2 h1
    obtain ⟨N, rfl⟩ : ∃ M, N = M + 1 := ⟨N - 1, by omega⟩
    refine ⟨S, ?_, h0, h2, fun c hc => by rw [h1 c, if_pos (by omega)]⟩
    show qf_Mem_whitenUsed_B2 (qfix qf_Mem_whitenUsed_F2 N) (nI i) S = _
    unfold qf_Mem_whitenUsed_B2
    rw [h0, hm, if_pos (nI_le (by omega) (by omega))]
  | succ d ih =>
    intro i N S hi hN h0 h2 h1
    obtain ⟨N, rfl⟩ : ∃ M, N = M + 1 := ⟨N - 1, by omega⟩
    have hs : S 0 0 = nI n := by rw [h0]; exact hm
    have hi1 : S 1 i = mem 1 i := by rw [h1 i, if_neg (by omega)]
    by_cases hz : mem 1 i = 0
    · obtain ⟨S', e, r⟩ := ih (i + 1) N S (by omega) (by omega) h0 h2 (fun c => by
        rw [h1 c]
        by_cases hc : c = i
        · subst hc
          rw [if_neg (by omega), if_pos (by omega)]
          unfold whF
          rw [if_pos hz, hz]
        · by_cases hl : c < i
          · rw [if_pos hl, if_pos (by omega)]
          · rw [if_neg hl, if_neg (by omega)])
      refine ⟨S', ?_, r⟩
      rw [← e]
      show qf_Mem_whitenUsed_B2 (qfix qf_Mem_whitenUsed_F2 N) (nI i) S = _
      unfold qf_Mem_whitenUsed_B2
      rw [ck1 hn hs (by omega), hs, if_neg (nI_ge (by omega) (by omega)), nI_clamp (show i < 2 ^ 31 by omega), if_pos (hi1.trans hz), nI_1]
    · obtain ⟨S', e, r⟩ := ih (i + 1) N (qp S 1 (upd (S 1) i 1)) (by omega) (by omega) h0 h2 (fun c => by
        show upd (S 1) i 1 c = _
        by_cases hc : c = i
        · subst hc
          rw [up_eq, if_pos (by omega)]
          unfold whF
          rw [if_neg hz]
        · rw [up_ne _ _ hc, h1 c]
          by_cases hl : c < i
          · rw [if_pos hl, if_pos (by omega)]
          · rw [if_neg hl, if_neg (by omega)])
      refine ⟨S', ?_, r⟩
      rw [← e]
      show qf_Mem_whitenUsed_B2 (qfix qf_Mem_whitenUsed_F2 N) (nI i) S = _
      unfold qf_Mem_whitenUsed_B2
      rw [ck1 hn hs (by omega), ck1 hn hs (by omega), hs, if_neg (nI_ge (by omega) (by omega)), nI_clamp (show i < 2 ^ 31 by omega), if_neg (by rw [hi1]; exact hz), nI_1]
theorem rwhite_lp {n : Nat} {r : QS} (hn : n ≤ 11) (hm : r 0 0 = nI n) : ∀ (d i N : Nat) (S : QS), i + d = n → d < N → (∀ g, g ≠ 25 → S g = r g) → (∀ c, S 25 c = if c < i then whF (r 25 c) else r 25 c) → ∃ S', qfix qf_Ref_collect_F95 N (nI i, S) = some (1, qp S' 27 (fun _ => 1)) ∧ (∀ g, g ≠ 25 → S' g = r g) ∧ ∀ c, c < n → S' 25 c = whF (r 25 c) := by
  intro d
  induction d with
  | zero =>
    intro i N S hi hN hg h1
    obtain ⟨N, rfl⟩ : ∃ M, N = M + 1 := ⟨N - 1, by omega⟩
    refine ⟨S, ?_, hg, fun c hc => by rw [h1 c, if_pos (by omega)]⟩
    show qf_Ref_collect_B95 (qfix qf_Ref_collect_F95 N) (nI i) S = _
    unfold qf_Ref_collect_B95
    rw [hg 0 (by decide), hm, if_pos (nI_le (by omega) (by omega))]
  | succ d ih =>
    intro i N S hi hN hg h1
    obtain ⟨N, rfl⟩ : ∃ M, N = M + 1 := ⟨N - 1, by omega⟩
    have hs : S 0 0 = nI n := by rw [hg 0 (by decide)]; exact hm
    have hi1 : S 25 i = r 25 i := by rw [h1 i, if_neg (by omega)]
    obtain ⟨S', e, q⟩ := ih (i + 1) N (qp S 25 (upd (S 25) i (whF (r 25 i)))) (by omega) (by omega) (fun g h => by rw [qp_ne _ _ h, hg g h]) (fun c => by
      show upd (S 25) i (whF (r 25 i)) c = _
      by_cases hc : c = i
      · subst hc
        rw [up_eq, if_pos (by omega)]
      · rw [up_ne _ _ hc, h1 c]
        by_cases hl : c < i
        · rw [if_pos hl, if_pos (by omega)]
        · rw [if_neg hl, if_neg (by omega)])
    refine ⟨S', ?_, q⟩
    rw [← e]
    show qf_Ref_collect_B95 (qfix qf_Ref_collect_F95 N) (nI i) S = _
    unfold qf_Ref_collect_B95 qf_Ref_collect_j122
    rw [hs, if_neg (nI_ge (by omega) (by omega)), ck (by omega) (by decide), ck (by omega) (by decide), ck (by omega) (by decide), nI_clamp (show i < 2 ^ 31 by omega), hi1, nI_1]
    unfold whF
    by_cases hz : r 25 i = 0
    · rw [if_pos hz, if_pos hz]
    · rw [if_neg hz, if_neg hz]
theorem rtrace_lp {n : Nat} {r : QS} (hn : n ≤ 11) (h0 : r 0 0 = nI n) : ∀ d i N : Nat, i + d = n → d < N → ((∀ j, i ≤ j → j < n → r 25 j ≠ 2) → qfix qf_Ref_trace_F42 N (nI i, r) = some (qp (qp r 27 (fun _ => 5)) 29 (fun _ => 0))) ∧ ∀ c, i ≤ c → c < n → r 25 c = 2 → (∀ j, i ≤ j → j < c → r 25 j ≠ 2) → qfix qf_Ref_trace_F42 N (nI i, r) = (qf_Ref_mark (r 26 (3 * c)) (qp r 28 (fun _ => nI c))).bind fun q => some q := by
  intro d
  induction d with
  | zero =>
    intro i N hi hN
    obtain ⟨N, rfl⟩ : ∃ M, N = M + 1 := ⟨N - 1, by omega⟩
    refine ⟨fun _ => ?_, fun c h1 h2 => by omega⟩
    show qf_Ref_trace_B42 (qfix qf_Ref_trace_F42 N) (nI i) r = _
    unfold qf_Ref_trace_B42
    rw [h0, if_pos (nI_le (by omega) (by omega))]
  | succ d ih =>
    intro i N hi hN
    obtain ⟨N, rfl⟩ : ∃ M, N = M + 1 := ⟨N - 1, by omega⟩
    have e : qfix qf_Ref_trace_F42 (N + 1) (nI i, r) = if r 25 i = 2 then (qf_Ref_mark (r 26 (3 * i)) (qp r 28 (fun _ => nI i))).bind (fun q => some q) else qfix qf_Ref_trace_F42 N (nI (i + 1), r) := by
      show qf_Ref_trace_B42 (qfix qf_Ref_trace_F42 N) (nI i) r = _
      unfold qf_Ref_trace_B42
      rw [h0, if_neg (nI_ge (by omega) (by omega)), ck (by omega) (by decide), n3m, ck (by omega) (by decide), nI_clamp (show i < 2 ^ 31 by omega), nI_clamp (show 3 * i < 2 ^ 31 by omega), nI_1]
    obtain ⟨q1, q2⟩ := ih (i + 1) N (by omega) (by omega)
    refine ⟨fun h => ?_, fun c h1 h2 h3 h4 => ?_⟩
    · rw [e, if_neg (h i (Nat.le_refl _) (by omega))]
      exact q1 (fun j a b => h j (by omega) b)
    · by_cases hc : c = i
      · subst hc
        rw [e, if_pos h3]
      · rw [e, if_neg (h4 i (Nat.le_refl _) (by omega))]
        exact q2 c (by omega) h2 h3 (fun j a b => h4 j (by omega) b)
theorem RMem_col {n c : Nat} {mem : QS} {x : Int32} {r0 r25 r26 : Nat → Int32} (h : RMem n mem r0 r25 r26) : RMem n (qp mem 1 (upd (mem 1) c x)) r0 (upd r25 c x) r26 := ⟨h.1, h.2.1, fun d hd => by
    show upd r25 c x d = upd (mem 1) c x d
    by_cases e : d = c
    · subst e; rw [up_eq, up_eq]
    · rw [up_ne _ _ e, up_ne _ _ e]; exact h.2.2.1 d hd, h.2.2.2.1, h.2.2.2.2⟩
/-- a trace step on both sides -/
theorem trace_both {n : Nat} {col mem r : QS} (hn : n ≤ 11) (hn4 : 4 ≤ n) (hM : RMem n mem (r 0) (r 25) (r 26)) (h4 : col 0 0 = nI 4) (h4' : r 27 0 = nI 4) (hh : r 28 0 = col 2 0) (hp : Ptr n (col 2 0)) (hs : r 29 0 = col 3 0) (hc : r 30 0 = col 1 0) : ∃ (col' mem' R : QS), qf_Col_trace col mem = some (col', mem') ∧ qf_Ref_trace r = some R ∧ RMem n mem' (r 0) (R 25) (r 26) ∧ RCol n col' (R 27) (R 28) (R 29) (R 30) ∧ ∀ g, g ≠ 25 → g ≠ 27 → g ≠ 28 → g ≠ 29 → g ≠ 30 → R g = r g := by
  rcases hp with e | ⟨k, hk, e⟩
  · have hlp := rtrace_lp (r := r) hn hM.2.1 n 0 qN (by omega) (by unfold qN; omega)
    have hrt : qf_Ref_trace r = qfix qf_Ref_trace_F42 qN (0, r) := by
      unfold qf_Ref_trace
      rw [if_pos (by rw [hh, e]; decide)]
    rcases pm_least 2 hn hM.1 with ⟨el, hno⟩ | ⟨c, hcn, h2, hmin, el⟩
    · refine ⟨qp (qp (qp col 0 (fun _ => 5)) 2 (fun _ => -1)) 3 (fun _ => 0), mem, qp (qp r 27 (fun _ => 5)) 29 (fun _ => 0), ?_, ?_, hM, ⟨5, by omega, rfl, rfl, hh.trans e, Or.inl rfl, rfl, fun _ => ⟨0, by omega, rfl⟩, hc⟩, fun g _ h1 _ h3 _ => by rw [qp_ne _ _ h3, qp_ne _ _ h1]⟩
      · unfold qf_Col_trace
        rw [if_pos e, el, Option.bind_some, if_pos rfl]
      · rw [hrt]
        exact hlp.1 (fun j _ hj => by rw [hM.2.2.1 j hj]; exact hno j hj)
    · have hpt := pm_ptr hM hcn (show 0 < 2 by omega)
      rw [Nat.add_zero] at hpt
      refine ⟨qp col 2 (fun _ => nI c), qp mem 1 (markF (mem 1) (mem 2 (3 * c))), qp (qp r 28 (fun _ => nI c)) 25 (markF (r 25) (r 26 (3 * c))), ?_, ?_, ?_, ⟨4, by omega, h4, h4', rfl, Or.inr ⟨c, hcn, rfl⟩, hs, fun h => by omega, hc⟩, fun g h1 _ h3 _ _ => by rw [qp_ne _ _ h1, qp_ne _ _ h3]⟩
      · unfold qf_Col_trace
        rw [if_pos e, el, Option.bind_some, if_neg (nEqm1 (by omega))]
        show (qf_Mem_read (nI c) (nI 0) mem).bind _ = _
        rw [pm_read hn hM.1 hcn (by omega), Option.bind_some, Nat.add_zero, pm_mark hn hM.1 hpt, Option.bind_some]
      · rw [hrt]
        refine Eq.trans (hlp.2 c (Nat.zero_le _) hcn (by rw [hM.2.2.1 c hcn]; exact h2) (fun j _ hj => by rw [hM.2.2.1 j (by omega)]; exact hmin j hj)) ?_
        rw [pr_mark (n := n) hn (by rw [hM.2.2.2.1 (3 * c) (by omega)]; exact hpt), Option.bind_some]
        rfl
      · show RMem n _ (r 0) (markF (r 25) (r 26 (3 * c))) (r 26)
        rw [hM.2.2.2.1 (3 * c) (by omega)]
        exact RMem_mark hn hpt hM
  · have hpt := pm_ptr hM hk (show 1 < 2 by omega)
    have hM1 := RMem_mark hn hpt hM
    refine ⟨qp col 2 (fun _ => -1), qp (qp mem 1 (markF (mem 1) (mem 2 (3 * k + 1)))) 1 (upd (markF (mem 1) (mem 2 (3 * k + 1))) k 3), qp (qp (qp r 25 (markF (r 25) (r 26 (3 * k + 1)))) 28 (fun _ => -1)) 25 (upd (markF (r 25) (r 26 (3 * k + 1))) k 3), ?_, ?_, ?_, ⟨4, by omega, h4, h4', rfl, Or.inl rfl, hs, fun h => by omega, hc⟩, fun g h1 _ h3 _ _ => by rw [qp_ne _ _ h1, qp_ne _ _ h3, qp_ne _ _ h1]⟩
    · unfold qf_Col_trace
      rw [e, if_neg (nEqm1 (by omega))]
      show (qf_Mem_read (nI k) (nI 1) mem).bind _ = _
      rw [pm_read hn hM.1 hk (by omega), Option.bind_some, pm_mark hn hM.1 hpt, Option.bind_some, ck1 hn hM1.1 hk, nI_clamp (show k < 2 ^ 31 by omega)]
      rfl
    · unfold qf_Ref_trace
      rw [hh, e, if_neg (nI_pos (by omega)), n3m, nI_1, ck (by omega) (by decide), nI_clamp (show 3 * k + 1 < 2 ^ 31 by omega), pr_mark (n := n) hn (by rw [hM.2.2.2.1 (3 * k + 1) (by omega)]; exact hpt), Option.bind_some]
      rw [show (qp r 25 (markF (r 25) (r 26 (3 * k + 1)))) 28 0 = nI k from hh.trans e, ck (by omega) (by decide), nI_clamp (show k < 2 ^ 31 by omega)]
      rfl
    · show RMem n _ (r 0) (upd (markF (r 25) (r 26 (3 * k + 1))) k 3) (r 26)
      rw [hM.2.2.2.1 (3 * k + 1) (by omega)]
      exact RMem_col hM1
