/-! ===== the pure part: collect ===== -/
theorem nNe {a : Nat} {k : Int32} (b : Nat) (hk : k = nI b) (ha : a < 2 ^ 31) (hb : b < 2 ^ 31) (h : ¬ a = b) : ¬ nI a = k := fun e => h ((nI_eq ha hb).mp (e.trans hk))
theorem pc_pass {a : Int32} {col mu0 mu1 : QS} (ha : qf_Col_asked col = some a) : qf_Col_passIfAnswered col mu0 mu1 = if mu0 5 0 = a then (if mu1 5 0 = a then (if col 0 0 = 6 then some (1, qp (qp col 0 (fun _ => 0)) 1 (fun _ => col 1 0 + 1)) else some (1, qp col 0 (fun _ => col 0 0 + 1))) else some (0, col)) else some (0, col) := by
  have e2 : ∀ N, qfix qf_Col_passIfAnswered_F2 (N + 1) (0 + 1 + 1, col, mu0, mu1) = if col 0 0 = 6 then some (1, qp (qp col 0 (fun _ => 0)) 1 (fun _ => col 1 0 + 1)) else some (1, qp col 0 (fun _ => col 0 0 + 1)) := fun N => by
    show qf_Col_passIfAnswered_B2 (qfix qf_Col_passIfAnswered_F2 N) (0 + 1 + 1) col mu0 mu1 = _
    unfold qf_Col_passIfAnswered_B2
    rw [if_pos (by decide)]
  have e1 : ∀ N, qfix qf_Col_passIfAnswered_F2 (N + 2) (0 + 1, col, mu0, mu1) = if mu1 5 0 = a then (if col 0 0 = 6 then some (1, qp (qp col 0 (fun _ => 0)) 1 (fun _ => col 1 0 + 1)) else some (1, qp col 0 (fun _ => col 0 0 + 1))) else some (0, col) := fun N => by
    show qf_Col_passIfAnswered_B2 (qfix qf_Col_passIfAnswered_F2 (N + 1)) (0 + 1) col mu0 mu1 = _
    unfold qf_Col_passIfAnswered_B2
    rw [if_neg (by decide), if_neg (by decide), if_pos (by decide), ha, Option.bind_some, e2]
  show qfix qf_Col_passIfAnswered_F2 (997 + 3) (0, col, mu0, mu1) = _
  show qf_Col_passIfAnswered_B2 (qfix qf_Col_passIfAnswered_F2 (997 + 2)) 0 col mu0 mu1 = _
  unfold qf_Col_passIfAnswered_B2
  rw [if_neg (by decide), if_pos rfl, ha, Option.bind_some, e1]
theorem collect_both {n : Nat} {col mem mu0 mu1 r : QS} (hn4 : 4 ≤ n) (hn : n ≤ 11) (hM : RMem n mem (r 0) (r 25) (r 26)) (hC : RCol n col (r 27) (r 28) (r 29) (r 30)) (hs0 : r 17 0 = mu0 5 0) (hs1 : r 17 1 = mu1 5 0) : ∃ (a : Int32) (col' mem' R : QS), (a = 0 ∨ a = 1) ∧ qf_Col_doStep col mem mu0 mu1 = some (a, col', mem') ∧ qf_Ref_collect r = some (a, R) ∧ RMem n mem' (r 0) (R 25) (r 26) ∧ RCol n col' (R 27) (R 28) (R 29) (R 30) ∧ ∀ g, g ≠ 25 → g ≠ 27 → g ≠ 28 → g ≠ 29 → g ≠ 30 → R g = r g := by
  have hC0 := hC
  obtain ⟨ph, hp6, h1, h2, h3, h4, h5, h6, h7⟩ := hC0
  have hask := ask_both (n := n) (col := col) (r := r) hp6 h1 h2
  by_cases hp0 : ph = 0
  · subst hp0
    obtain ⟨S, e, w0, w2, w1⟩ := white_lp hn hM.1 n 0 qN mem (by omega) (by unfold qN; omega) rfl rfl (fun c => by rw [if_neg (by omega)])
    obtain ⟨T, e', t1, t2⟩ := rwhite_lp hn hM.2.1 n 0 qN r (by omega) (by unfold qN; omega) (fun _ _ => rfl) (fun c => by rw [if_neg (by omega)])
    refine ⟨1, qp col 0 (fun _ => 1), S, qp T 27 (fun _ => 1), Or.inr rfl, ?_, ?_, ⟨by rw [w0]; exact hM.1, hM.2.1, fun c hc => ?_, fun j hj => by rw [w2]; exact hM.2.2.2.1 j hj, fun c hc f hf => by rw [w2]; exact hM.2.2.2.2 c hc f hf⟩, ⟨1, by omega, rfl, rfl, ?_, h4, ?_, fun h => by omega, ?_⟩, fun g g1 g2 _ _ _ => by rw [qp_ne _ _ g2, t1 g g1]⟩
    · unfold qf_Col_doStep qf_Mem_whitenUsed
      rw [if_pos (h1.trans nI_0)]
      refine Eq.trans (congrArg (fun z => Option.bind z _) e) ?_
      rfl
    · unfold qf_Ref_collect
      rw [hask.2, show askF 0 = -1 from by decide, Option.bind_some, if_pos (by decide), if_pos (h2.trans nI_0)]
      exact e'
    · show T 25 c = S 1 c
      rw [t2 c hc, w1 c hc, hM.2.2.1 c hc]
    · show T 28 0 = col 2 0
      rw [t1 28 (by decide)]; exact h3
    · show T 29 0 = col 3 0
      rw [t1 29 (by decide)]; exact h5
    · show T 30 0 = col 1 0
      rw [t1 30 (by decide)]; exact h7
  by_cases hp4 : ph = 4
  · subst hp4
    obtain ⟨col', mem', R, e, e', a1, a2, a3⟩ := trace_both hn hn4 hM h1 h2 h3 h4 h5 h7
    refine ⟨1, col', mem', R, Or.inr rfl, ?_, ?_, a1, a2, a3⟩
    · unfold qf_Col_doStep
      rw [h1, if_neg (by decide), if_pos (by decide), e]
      rfl
    · unfold qf_Ref_collect
      rw [hask.2, show askF 4 = -1 from by decide, Option.bind_some, if_pos (by decide), h2, if_neg (by decide), if_pos (by decide), e']
      rfl
  by_cases hp5 : ph = 5
  · subst hp5
    obtain ⟨w, hw, hw'⟩ := h6 rfl
    have hwr : r 29 0 = nI w := h5.trans hw'
    have hcw : r 25 w = mem 1 w := hM.2.2.1 w hw
    -- the new colour of the swept cell
    have key : ∀ x : Int32, RMem n (qp mem 1 (upd (mem 1) w x)) (r 0) (upd (r 25) w x) (r 26) := fun x => RMem_col hM
    have hsw : qf_Col_sweep col mem = if mem 1 w = 1 then qf_Col_sweep_j23 col (qp mem 1 (upd (mem 1) w 0)) else qf_Col_sweep_j23 col mem := by
      unfold qf_Col_sweep
      rw [hw', ck1 hn hM.1 hw, ck1 hn hM.1 hw, nI_clamp (show w < 2 ^ 31 by omega)]
    have hrs : qf_Ref_collect r = qf_Ref_collect_j186 (if r 25 w = 1 then 0 else r 25 w) (nI w) r := by
      unfold qf_Ref_collect
      rw [hask.2, show askF 5 = -1 from by decide, Option.bind_some, if_pos (by decide), h2, if_neg (by decide), if_neg (by decide), hwr, ck (by omega) (by decide), ck (by omega) (by decide), nI_clamp (show w < 2 ^ 31 by omega)]
      by_cases h : r 25 w = 1
      · rw [if_pos h, if_pos h]
      · rw [if_neg h, if_neg h]
    have hdo : ∀ x, qf_Col_sweep col mem = some x → qf_Col_doStep col mem mu0 mu1 = some (1, x.1, x.2) := fun x hx => by
      unfold qf_Col_doStep
      rw [h1, if_neg (by decide), if_neg (by decide), if_pos (by decide), hx]
      rfl
    have hj : ∀ M : QS, M 0 0 = nI n → qf_Col_sweep_j23 col M = if w + 1 < n then some (qp col 3 (fun _ => nI (w + 1)), M) else some (qp (qp col 0 (fun _ => 6)) 3 (fun _ => nI (w + 1)), M) := fun M hM0 => by
      unfold qf_Col_sweep_j23
      rw [hw', hM0, nI_1]
      by_cases hl : w + 1 < n
      · rw [if_pos hl, if_pos (nI_lt hl (by omega))]
      · rw [if_neg hl, if_neg (nI_nlt (by omega) (by omega))]
    have hjr : ∀ x : Int32, qf_Ref_collect_j186 x (nI w) r = if w + 1 < n then some (1, qp (qp (qp r 29 (fun _ => nI (w + 1))) 25 (upd (r 25) w x)) 27 (fun _ => 5)) else some (1, qp (qp (qp r 29 (fun _ => nI (w + 1))) 25 (upd (r 25) w x)) 27 (fun _ => 6)) := fun x => by
      unfold qf_Ref_collect_j186 qf_Ref_collect_j215
      rw [ck (by omega) (by decide), hwr, hM.2.1, nI_1, nI_clamp (show w < 2 ^ 31 by omega)]
      by_cases hl : w + 1 < n
      · rw [if_pos hl, if_neg (fun e => by have := (nI_eq (by omega) (by omega)).mp e; omega)]
      · rw [if_neg hl, if_pos (by congr 1; omega)]
    -- memory after the step
    have hmem : ∃ M : QS, M 0 0 = nI n ∧ qf_Col_sweep col mem = qf_Col_sweep_j23 col M ∧ RMem n M (r 0) (upd (r 25) w (if r 25 w = 1 then 0 else r 25 w)) (r 26) := by
      by_cases h : mem 1 w = 1
      · refine ⟨qp mem 1 (upd (mem 1) w 0), hM.1, by rw [hsw, if_pos h], ?_⟩
        rw [hcw, if_pos h]
        exact key 0
      · refine ⟨mem, hM.1, by rw [hsw, if_neg h], ?_⟩
        rw [hcw, if_neg h]
        refine ⟨hM.1, hM.2.1, fun c hc => ?_, hM.2.2.2.1, hM.2.2.2.2⟩
        by_cases e : c = w
        · subst e; rw [up_eq]
        · rw [up_ne _ _ e]; exact hM.2.2.1 c hc
    obtain ⟨M, m0, m1, m2⟩ := hmem
    by_cases hl : w + 1 < n
    · refine ⟨1, qp col 3 (fun _ => nI (w + 1)), M, qp (qp (qp r 29 (fun _ => nI (w + 1))) 25 (upd (r 25) w (if r 25 w = 1 then 0 else r 25 w))) 27 (fun _ => 5), Or.inr rfl, hdo _ (by rw [m1, hj M m0, if_pos hl]), by rw [hrs, hjr, if_pos hl], m2, ⟨5, by omega, h1, rfl, h3, h4, rfl, fun _ => ⟨w + 1, hl, rfl⟩, h7⟩, fun g g1 g2 _ g4 _ => by rw [qp_ne _ _ g2, qp_ne _ _ g1, qp_ne _ _ g4]⟩
    · refine ⟨1, qp (qp col 0 (fun _ => 6)) 3 (fun _ => nI (w + 1)), M, qp (qp (qp r 29 (fun _ => nI (w + 1))) 25 (upd (r 25) w (if r 25 w = 1 then 0 else r 25 w))) 27 (fun _ => 6), Or.inr rfl, hdo _ (by rw [m1, hj M m0, if_neg hl]), by rw [hrs, hjr, if_neg hl], m2, ⟨6, by omega, rfl, rfl, h3, h4, rfl, fun h => by omega, h7⟩, fun g g1 g2 _ g4 _ => by rw [qp_ne _ _ g2, qp_ne _ _ g1, qp_ne _ _ g4]⟩
  · -- a phase that asks
    have hpass := pc_pass (mu0 := mu0) (mu1 := mu1) hask.1
    have hdo : ∀ (a : Int32) (x : QS), (a = 0 ∨ a = 1) → qf_Col_passIfAnswered col mu0 mu1 = some (a, x) → qf_Col_doStep col mem mu0 mu1 = some (a, x, mem) := fun a x ha hx => by
      unfold qf_Col_doStep
      rw [h1, if_neg (show ¬ nI ph = 0 from nNe 0 rfl (by omega) (by decide) hp0), if_neg (show ¬ nI ph = 4 from nNe 4 rfl (by omega) (by decide) hp4), if_neg (show ¬ nI ph = 5 from nNe 5 rfl (by omega) (by decide) hp5), hx, Option.bind_some]
      exact bz ha _
    have hnn : ¬ askF ph < 0 := by
      have hs : ph = 1 ∨ ph = 2 ∨ ph = 3 ∨ ph = 6 := by omega
      rcases hs with rfl | rfl | rfl | rfl <;> decide
    have h33 : qf_Ref_collect_j33 (askF ph) r = some (0, qp (qp r 30 (fun _ => r 30 0)) 27 (fun _ => r 27 0)) := by
      unfold qf_Ref_collect_j33 qf_Ref_collect_j34 qf_Ref_collect_j53 qf_Ref_collect_j57 qf_Ref_collect_j81
      rw [if_pos rfl, if_pos rfl]
      exact bz (Or.inl rfl) _
    have hno : ∃ (a : Int32) (col' mem' R : QS), (a = 0 ∨ a = 1) ∧ some ((0 : Int32), col, mem) = some (a, col', mem') ∧ qf_Ref_collect_j33 (askF ph) r = some (a, R) ∧ RMem n mem' (r 0) (R 25) (r 26) ∧ RCol n col' (R 27) (R 28) (R 29) (R 30) ∧ ∀ g, g ≠ 25 → g ≠ 27 → g ≠ 28 → g ≠ 29 → g ≠ 30 → R g = r g :=
      ⟨0, col, mem, _, Or.inl rfl, rfl, h33, hM, ⟨ph, hp6, h1, h2, h3, h4, h5, h6, h7⟩, fun g _ g2 _ _ g5 => by rw [qp_ne _ _ g2, qp_ne _ _ g5]⟩
    have hcol : qf_Ref_collect r = if mu0 5 0 = askF ph then (if mu1 5 0 = askF ph then qf_Ref_collect_j34 (askF ph) 1 r else qf_Ref_collect_j33 (askF ph) r) else qf_Ref_collect_j33 (askF ph) r := by
      unfold qf_Ref_collect
      rw [hask.2, Option.bind_some, if_neg hnn, show Int32.toNatClampNeg 0 = 0 from by decide, show Int32.toNatClampNeg 1 = 1 from by decide, hs0, hs1]
    rw [hcol]
    by_cases e0 : mu0 5 0 = askF ph
    · by_cases e1 : mu1 5 0 = askF ph
      · rw [if_pos e0, if_pos e1] at *
        by_cases h66 : ph = 6
        · subst h66
          refine ⟨1, qp (qp col 0 (fun _ => 0)) 1 (fun _ => col 1 0 + 1), mem, qp (qp r 30 (fun _ => r 30 0 + 1)) 27 (fun _ => 0), Or.inr rfl, hdo 1 _ (Or.inr rfl) (by rw [hpass, if_pos (show col 0 0 = 6 from h1)]), ?_, hM, ⟨0, by omega, rfl, rfl, h3, h4, h5, fun h => by omega, ?_⟩, fun g _ g2 _ _ g5 => by rw [qp_ne _ _ g2, qp_ne _ _ g5]⟩
          · unfold qf_Ref_collect_j34 qf_Ref_collect_j57 qf_Ref_collect_j81
            rw [if_neg (by decide), show askF 6 = 0 from by decide, if_pos rfl, if_neg (by decide), h2]
            exact bz (Or.inr rfl) _
          · show r 30 0 + 1 = col 1 0 + 1
            rw [h7]
        · refine ⟨1, qp col 0 (fun _ => nI (ph + 1)), mem, qp (qp r 30 (fun _ => r 30 0)) 27 (fun _ => nI (ph + 1)), Or.inr rfl, hdo 1 _ (Or.inr rfl) (by rw [hpass, h1, if_neg (show ¬ nI ph = 6 from nNe 6 rfl (by omega) (by decide) h66), nI_1]), ?_, hM, ⟨ph + 1, by omega, rfl, rfl, h3, h4, h5, fun h => by omega, h7⟩, fun g _ g2 _ _ g5 => by rw [qp_ne _ _ g2, qp_ne _ _ g5]⟩
          have hz : ¬ askF ph = 0 := by
            have hs : ph = 1 ∨ ph = 2 ∨ ph = 3 := by omega
            rcases hs with rfl | rfl | rfl <;> decide
          have h77 : nI ph + 1 - (nI ph + 1) / 7 * 7 = nI (ph + 1) := by
            have hs : ph = 1 ∨ ph = 2 ∨ ph = 3 := by omega
            rcases hs with rfl | rfl | rfl <;> decide
          unfold qf_Ref_collect_j34 qf_Ref_collect_j53 qf_Ref_collect_j57 qf_Ref_collect_j81
          rw [if_neg (by decide), if_neg hz, if_neg (by decide), h2, h77]
          exact bz (Or.inr rfl) _
      · rw [if_pos e0, if_neg e1] at *
        rw [hdo 0 col (Or.inl rfl) hpass]
        exact hno
    · rw [if_neg e0] at *
      rw [hdo 0 col (Or.inl rfl) hpass]
      exact hno
