/-! ===== the pure part: a step, an entry ===== -/
theorem pr_lp {m p q t pos : Nat} {r : QS} (hm : m < 2) (hp : p < 4) (hq : q ≤ 1) (hpos : pos < 40) (h15 : r 15 m = nI pos) (h13 : r 13 (40 * m + pos) = nI q) (h14 : r 14 (40 * m + pos) = nI t) : qf_Ref_step_j158 (nI m) (nI (40 * m + pos)) (nI 15) (nI (7 * m + p)) (nI (7 * m + q)) r = some (1, qp r 15 (upd (r 15) m (if q = 1 then nI t else if r 16 (7 * m + p) = -1 then nI (t + 1) else nI (pos + 1)))) := by
  unfold qf_Ref_step_j158 qf_Ref_step_j188 qf_Ref_step_j189 qf_Ref_step_j239
  simp only [nI_clamp (show m < 2 ^ 31 by omega), nI_clamp (show 40 * m + pos < 2 ^ 31 by omega), nI_clamp (show 7 * m + p < 2 ^ 31 by omega), ckc hm (show 2 < 2 ^ 31 by decide), ckc (show 40 * m + pos < 80 by omega) (show 80 < 2 ^ 31 by decide), ckc (show 7 * m + p < 14 by omega) (show 14 < 2 ^ 31 by decide), h13, h14, h15, nI_1]
  rw [if_pos (show nI 15 = 15 from rfl)]
  by_cases h1 : q = 1
  · subst h1
    rw [if_neg (show ¬ nI 1 = 0 by decide), if_pos (show nI 1 = 1 from rfl), if_pos rfl]
  · obtain rfl : q = 0 := by omega
    rw [if_pos (show nI 0 = 0 from rfl), if_neg (show ¬ nI 0 = 1 by decide), if_neg (show ¬ nI 0 = 1 by decide), if_neg h1]
    by_cases h2 : r 16 (7 * m + p) = -1
    · rw [if_pos h2, if_pos h2, if_neg (by decide)]
    · rw [if_neg h2, if_neg h2, if_pos trivial]
theorem step_both {n B m : Nat} {mu bu ou mem r : QS} (hn : n ≤ 11) (hm : m < 2) (hB30 : B < 2 ^ 30) (hM : RMem n mem (r 0) (r 25) (r 26)) (hU : RMut n m mu (r 10) (r 11) (r 12) (r 13) (r 14) (r 15) (r 16) (r 17) (r 18)) (hB : RBuf n m bu (r 19) (r 20) (r 21) (r 22)) (hO : ROut B m ou (r 23) (r 24)) : ∃ (a : Int32) (mu' bu' ou' mem' R : QS), (a = 0 ∨ a = 1) ∧ qf_Mut_doInstruction mu bu ou mem = some (a, mu', bu', ou', mem') ∧ qf_Ref_step (nI m) r = some (a, R) ∧ StepOK n B m r R mu' bu' ou' mem' := by
  have hU0 := hU
  obtain ⟨⟨cnt, pos, a1, a2, a3, a4, a5, a6, a7⟩, h2, h3, h4⟩ := hU0
  by_cases hlt : pos < cnt
  · obtain ⟨kd, p, q, t, hV, b1, b2, b3, b4, b5⟩ := a7 pos hlt
    by_cases hk : kd < 10
    · exact step_cells hn hm hM hU hB hO a1 hlt a3 a4 a5 a6 hV b1 b2 b3 b4 hk
    · by_cases hk2 : kd < 15
      · exact step_ints hn hm hB30 hM hU hB hO a1 hlt a3 a4 a5 a6 hV b1 b2 b3 b4 b5 (by omega) hk2
      · obtain ⟨v1, v2, v3, v4, v5, v6, v7, v8, v9, v10, v11⟩ := hV
        obtain rfl : kd = 15 := by omega
        obtain ⟨w1, w2⟩ := v11 rfl
        have eC := pi_loop (bu := bu) (ou := ou) (mem := mem) a1 hlt a3 a5 b1 v2 w2 v4
        have eR := ps_red (t := t) hm a1 hlt a4 a6 b2 b3 b4
        rw [if_neg (by decide), if_neg (by decide), if_pos (by decide), pr_lp hm v2 w2 (by omega) a6 b4 b5, (h2.1 p v2).1] at eR
        refine ⟨1, _, _, _, _, _, Or.inr rfl, eC, eR, hM, ⟨?_, h2, h3, h4⟩, hB, ROut_le hO, fun m' hm' hne => ⟨fun _ hx => RMut_other (up_ne _ _ hne) rfl (fun _ _ h => h) hx, fun _ h => h, fun _ h => ROut_le h⟩, rfl, rfl, rfl, rfl, rfl, rfl⟩
        have hnew : ∃ pos', pos' ≤ cnt ∧ (if q = 1 then nI t else if mu 3 p = -1 then nI (t + 1) else nI (pos + 1)) = nI pos' := by
          by_cases e1 : q = 1
          · exact ⟨t, by omega, by rw [if_pos e1]⟩
          · by_cases e2 : mu 3 p = -1
            · exact ⟨t + 1, by omega, by rw [if_neg e1, if_pos e2]⟩
            · exact ⟨pos + 1, by omega, by rw [if_neg e1, if_neg e2]⟩
        obtain ⟨pos', c1, c2⟩ := hnew
        exact ⟨cnt, pos', a1, c1, a3, a4, c2, by
          show upd (r 15) m _ m = _
          rw [up_eq]; exact c2, a7⟩
  · exact ⟨0, mu, bu, ou, mem, r, Or.inl rfl, pi_done a1 (by omega) (by omega) a3 a5, ps_done hm (by omega) (by omega) a4 a6, ok_id hM hU hB hO⟩
/-! an entry of a schedule, both sides -/
theorem RMut_st {n m m' : Nat} {s : Nat} {mx : QS} {r10 r11 r12 r13 r14 r15 r16 r17 r18 : Nat → Int32} (hne : m' ≠ m) (h : RMut n m' mx r10 r11 r12 r13 r14 r15 r16 r17 r18) : RMut n m' mx r10 r11 r12 r13 r14 r15 r16 (upd r17 m (nI s)) r18 := by
  obtain ⟨h1, h2, ⟨st, a1, a2, a3⟩, h4⟩ := h
  exact ⟨h1, h2, ⟨st, a1, a2, by rw [up_ne _ _ hne]; exact a3⟩, h4⟩
theorem RMut_st1 {n m : Nat} {s : Nat} {mx : QS} {r10 r11 r12 r13 r14 r15 r16 r17 r18 : Nat → Int32} (hs : s ≤ 3) (h : RMut n m mx r10 r11 r12 r13 r14 r15 r16 r17 r18) : RMut n m (qp mx 5 (fun _ => nI s)) r10 r11 r12 r13 r14 r15 r16 (upd r17 m (nI s)) r18 := by
  obtain ⟨h1, h2, _, h4⟩ := h
  exact ⟨h1, h2, ⟨s, hs, rfl, up_eq _ _ _⟩, h4⟩
theorem RAll_up {n B : Nat} {r src mem mu0 bu0 ou0 mu1 bu1 ou1 col : QS} (h : RAll n B r src mem mu0 bu0 ou0 mu1 bu1 ou1 col) : RAll n (B + 1) r src mem mu0 bu0 ou0 mu1 bu1 ou1 col := by
  obtain ⟨h1, h2, h3, h4, h5, h6, h7, h8, h9, h10, h11⟩ := h
  exact ⟨h1, h2, h3, h4, h5, h6, ROut_le h7, h8, h9, ROut_le h10, h11⟩
theorem RAll_step0 {n B : Nat} {r R src mem mu0 bu0 ou0 mu1 bu1 ou1 col mem' mu' bu' ou' : QS} (h : RAll n B r src mem mu0 bu0 ou0 mu1 bu1 ou1 col) (s : StepOK n B 0 r R mu' bu' ou' mem') : RAll n (B + 1) R src mem' mu' bu' ou' mu1 bu1 ou1 col := by
  obtain ⟨h1, h2, h3, h4, h5, h6, h7, h8, h9, h10, h11⟩ := h
  obtain ⟨s1, s2, s3, s4, s5, e1, e2, e27, e28, e29, e30⟩ := s
  obtain ⟨o1, o2, o3⟩ := s5 1 (by omega) (by omega)
  refine ⟨h1, h2, ?_, s1, s2, s3, s4, o1 _ h8, o2 _ h9, o3 _ h10, ?_⟩
  · rw [e1, e2]; exact h3
  · rw [e27, e28, e29, e30]; exact h11
theorem RAll_step1 {n B : Nat} {r R src mem mu0 bu0 ou0 mu1 bu1 ou1 col mem' mu' bu' ou' : QS} (h : RAll n B r src mem mu0 bu0 ou0 mu1 bu1 ou1 col) (s : StepOK n B 1 r R mu' bu' ou' mem') : RAll n (B + 1) R src mem' mu0 bu0 ou0 mu' bu' ou' col := by
  obtain ⟨h1, h2, h3, h4, h5, h6, h7, h8, h9, h10, h11⟩ := h
  obtain ⟨s1, s2, s3, s4, s5, e1, e2, e27, e28, e29, e30⟩ := s
  obtain ⟨o1, o2, o3⟩ := s5 0 (by omega) (by omega)
  refine ⟨h1, h2, ?_, s1, o1 _ h5, o2 _ h6, o3 _ h7, s2, s3, s4, ?_⟩
  · rw [e1, e2]; exact h3
  · rw [e27, e28, e29, e30]; exact h11
theorem entry_both {n B e : Nat} {r src mem mu0 bu0 ou0 mu1 bu1 ou1 col : QS} (hB30 : B < 2 ^ 30) (he : e < 8) (h : RAll n B r src mem mu0 bu0 ou0 mu1 bu1 ou1 col) : ∃ (a : Int32) (mem' mu0' bu0' ou0' mu1' bu1' ou1' col' R : QS), (a = 0 ∨ a = 1) ∧ qf_Qs_doEntry (nI e) mem mu0 bu0 ou0 mu1 bu1 ou1 col = some (a, mem', mu0', bu0', ou0', mu1', bu1', ou1', col') ∧ qf_Ref_entry (nI e) r = some (a, R) ∧ RAll n (B + 1) R src mem' mu0' bu0' ou0' mu1' bu1' ou1' col' := by
  have h0 := h
  obtain ⟨h1, h2, h3, h4, h5, h6, h7, h8, h9, h10, h11⟩ := h0
  have hC := h11
  obtain ⟨ph, hp6, p1, p2, p3, p4, p5, p6, p7⟩ := hC
  have hask := ask_both (n := n) (col := col) (r := r) hp6 p1 p2
  obtain ⟨st0, x1, x2, x3⟩ := h5.2.2.1
  obtain ⟨st1, y1, y2, y3⟩ := h8.2.2.1
  have cs : e = 0 ∨ e = 1 ∨ e = 2 ∨ e = 3 ∨ e = 4 ∨ e = 5 ∨ e = 6 ∨ e = 7 := by omega
  rcases cs with rfl | rfl | rfl | rfl | rfl | rfl | rfl | rfl
  · obtain ⟨a, mu', bu', ou', mem', R, ha, q1, q2, q3⟩ := step_both (m := 0) h2 (by omega) hB30 h4 h5 h6 h7
    refine ⟨a, mem', mu', bu', ou', mu1, bu1, ou1, col, R, ha, ?_, ?_, RAll_step0 h q3⟩
    · unfold qf_Qs_doEntry
      rw [if_pos (by decide), if_pos (by decide), q1, Option.bind_some]
      exact bz ha _
    · unfold qf_Ref_entry
      rw [if_neg (by decide), show nI 0 &&& 1 = nI 0 from by decide, q2]
      exact bzb ha
  · obtain ⟨a, mu', bu', ou', mem', R, ha, q1, q2, q3⟩ := step_both (m := 1) h2 (by omega) hB30 h4 h8 h9 h10
    refine ⟨a, mem', mu0, bu0, ou0, mu', bu', ou', col, R, ha, ?_, ?_, RAll_step1 h q3⟩
    · unfold qf_Qs_doEntry
      rw [if_neg (by decide), if_pos (by decide), if_pos (by decide), q1, Option.bind_some]
      exact bz ha _
    · unfold qf_Ref_entry
      rw [if_neg (by decide), show nI 1 &&& 1 = nI 1 from by decide, q2]
      exact bzb ha
  · obtain ⟨a, bu', mem', t19, t20, t21, t22, t26, ha, q1, q2, q3, q4, q5, q6⟩ := pass_both (m := 0) h2 (by omega) h4 h6
    refine ⟨a, mem', mu0, bu', ou0, mu1, bu1, ou1, col, qp (qp (qp (qp (qp r 19 t19) 26 t26) 20 t20) 21 t21) 22 t22, ha, ?_, ?_, ⟨h1, h2, h3, q3, h5, q4, ROut_le h7, h8, q6 1 (by omega) (by omega) _ h9, ROut_le h10, h11⟩⟩
    · unfold qf_Qs_doEntry
      rw [if_pos (by decide), if_neg (by decide), if_pos (by decide), q1, Option.bind_some]
      exact bz ha _
    · unfold qf_Ref_entry
      rw [if_pos (by decide), if_neg (by decide), show nI 2 &&& 1 = nI 0 from by decide, q2]
      exact bzb ha
  · obtain ⟨a, bu', mem', t19, t20, t21, t22, t26, ha, q1, q2, q3, q4, q5, q6⟩ := pass_both (m := 1) h2 (by omega) h4 h9
    refine ⟨a, mem', mu0, bu0, ou0, mu1, bu', ou1, col, qp (qp (qp (qp (qp r 19 t19) 26 t26) 20 t20) 21 t21) 22 t22, ha, ?_, ?_, ⟨h1, h2, h3, q3, h5, q6 0 (by omega) (by omega) _ h6, ROut_le h7, h8, q4, ROut_le h10, h11⟩⟩
    · unfold qf_Qs_doEntry
      rw [if_neg (by decide), if_pos (by decide), if_neg (by decide), if_pos (by decide), q1, Option.bind_some]
      exact bz ha _
    · unfold qf_Ref_entry
      rw [if_pos (by decide), if_neg (by decide), show nI 3 &&& 1 = nI 1 from by decide, q2]
      exact bzb ha
  · have eD : ∀ (a : Int32) (x y z : QS), (a = 0 ∨ a = 1) → qf_Mut_answer (askF ph) mu0 bu0 mem = some (a, x, y, z) → qf_Qs_doEntry (nI 4) mem mu0 bu0 ou0 mu1 bu1 ou1 col = some (a, z, x, y, ou0, mu1, bu1, ou1, col) := fun a x y z ha hx => by
      unfold qf_Qs_doEntry
      rw [if_pos (by decide), if_neg (by decide), if_neg (by decide), if_pos (by decide), hask.1, Option.bind_some, hx, Option.bind_some]
      exact bz ha _
    have eR : ∀ (a : Int32) (R : QS), (a = 0 ∨ a = 1) → qf_Ref_answer (nI 0) r = some (a, R) → qf_Ref_entry (nI 4) r = some (a, R) := fun a R ha hx => by
      unfold qf_Ref_entry
      rw [if_pos (by decide), if_pos (by decide), if_neg (by decide), show nI 4 &&& 1 = nI 0 from by decide, hx]
      exact bzb ha
    rcases answer_both (m := 0) h2 (by omega) h4 h6 h5.2.1 x1 x2 x3 hp6 p2 with ⟨q1, q2⟩ | ⟨s, bu', mem', R, hs, q1, q2, q3, q4, q5, q6, q7⟩
    · exact ⟨0, _, _, _, _, _, _, _, _, _, Or.inl rfl, eD 0 _ _ _ (Or.inl rfl) q1, eR 0 _ (Or.inl rfl) q2, RAll_up h⟩
    · refine ⟨1, _, _, _, _, _, _, _, _, _, Or.inr rfl, eD 1 _ _ _ (Or.inr rfl) q1, eR 1 _ (Or.inr rfl) q2, ?_⟩
      have fr := fun g a1 a2 a3 a4 a5 a6 a7 => q4 g a1 a2 a3 a4 a5 a6 a7
      have f0 := fr 0 (by decide) (by decide) (by decide) (by decide) (by decide) (by decide) (by decide)
      unfold RAll
      rw [f0, fr 1 (by decide) (by decide) (by decide) (by decide) (by decide) (by decide) (by decide), fr 2 (by decide) (by decide) (by decide) (by decide) (by decide) (by decide) (by decide), fr 10 (by decide) (by decide) (by decide) (by decide) (by decide) (by decide) (by decide), fr 11 (by decide) (by decide) (by decide) (by decide) (by decide) (by decide) (by decide), fr 12 (by decide) (by decide) (by decide) (by decide) (by decide) (by decide) (by decide), fr 13 (by decide) (by decide) (by decide) (by decide) (by decide) (by decide) (by decide), fr 14 (by decide) (by decide) (by decide) (by decide) (by decide) (by decide) (by decide), fr 15 (by decide) (by decide) (by decide) (by decide) (by decide) (by decide) (by decide), fr 16 (by decide) (by decide) (by decide) (by decide) (by decide) (by decide) (by decide), fr 18 (by decide) (by decide) (by decide) (by decide) (by decide) (by decide) (by decide), fr 23 (by decide) (by decide) (by decide) (by decide) (by decide) (by decide) (by decide), fr 24 (by decide) (by decide) (by decide) (by decide) (by decide) (by decide) (by decide), fr 27 (by decide) (by decide) (by decide) (by decide) (by decide) (by decide) (by decide), fr 28 (by decide) (by decide) (by decide) (by decide) (by decide) (by decide) (by decide), fr 29 (by decide) (by decide) (by decide) (by decide) (by decide) (by decide) (by decide), fr 30 (by decide) (by decide) (by decide) (by decide) (by decide) (by decide) (by decide), q3]
      exact ⟨h1, h2, h3, q5, RMut_st1 hs h5, q6, ROut_le h7, RMut_st (by omega) h8, q7 1 (by omega) (by omega) _ h9, ROut_le h10, h11⟩
  · have eD : ∀ (a : Int32) (x y z : QS), (a = 0 ∨ a = 1) → qf_Mut_answer (askF ph) mu1 bu1 mem = some (a, x, y, z) → qf_Qs_doEntry (nI 5) mem mu0 bu0 ou0 mu1 bu1 ou1 col = some (a, z, mu0, bu0, ou0, x, y, ou1, col) := fun a x y z ha hx => by
      unfold qf_Qs_doEntry
      rw [if_neg (by decide), if_pos (by decide), if_neg (by decide), if_neg (by decide), if_pos (by decide), hask.1, Option.bind_some, hx, Option.bind_some]
      exact bz ha _
    have eR : ∀ (a : Int32) (R : QS), (a = 0 ∨ a = 1) → qf_Ref_answer (nI 1) r = some (a, R) → qf_Ref_entry (nI 5) r = some (a, R) := fun a R ha hx => by
      unfold qf_Ref_entry
      rw [if_pos (by decide), if_pos (by decide), if_neg (by decide), show nI 5 &&& 1 = nI 1 from by decide, hx]
      exact bzb ha
    rcases answer_both (m := 1) h2 (by omega) h4 h9 h8.2.1 y1 y2 y3 hp6 p2 with ⟨q1, q2⟩ | ⟨s, bu', mem', R, hs, q1, q2, q3, q4, q5, q6, q7⟩
    · exact ⟨0, _, _, _, _, _, _, _, _, _, Or.inl rfl, eD 0 _ _ _ (Or.inl rfl) q1, eR 0 _ (Or.inl rfl) q2, RAll_up h⟩
    · refine ⟨1, _, _, _, _, _, _, _, _, _, Or.inr rfl, eD 1 _ _ _ (Or.inr rfl) q1, eR 1 _ (Or.inr rfl) q2, ?_⟩
      have fr := fun g a1 a2 a3 a4 a5 a6 a7 => q4 g a1 a2 a3 a4 a5 a6 a7
      unfold RAll
      rw [fr 0 (by decide) (by decide) (by decide) (by decide) (by decide) (by decide) (by decide), fr 1 (by decide) (by decide) (by decide) (by decide) (by decide) (by decide) (by decide), fr 2 (by decide) (by decide) (by decide) (by decide) (by decide) (by decide) (by decide), fr 10 (by decide) (by decide) (by decide) (by decide) (by decide) (by decide) (by decide), fr 11 (by decide) (by decide) (by decide) (by decide) (by decide) (by decide) (by decide), fr 12 (by decide) (by decide) (by decide) (by decide) (by decide) (by decide) (by decide), fr 13 (by decide) (by decide) (by decide) (by decide) (by decide) (by decide) (by decide), fr 14 (by decide) (by decide) (by decide) (by decide) (by decide) (by decide) (by decide), fr 15 (by decide) (by decide) (by decide) (by decide) (by decide) (by decide) (by decide), fr 16 (by decide) (by decide) (by decide) (by decide) (by decide) (by decide) (by decide), fr 18 (by decide) (by decide) (by decide) (by decide) (by decide) (by decide) (by decide), fr 23 (by decide) (by decide) (by decide) (by decide) (by decide) (by decide) (by decide), fr 24 (by decide) (by decide) (by decide) (by decide) (by decide) (by decide) (by decide), fr 27 (by decide) (by decide) (by decide) (by decide) (by decide) (by decide) (by decide), fr 28 (by decide) (by decide) (by decide) (by decide) (by decide) (by decide) (by decide), fr 29 (by decide) (by decide) (by decide) (by decide) (by decide) (by decide) (by decide), fr 30 (by decide) (by decide) (by decide) (by decide) (by decide) (by decide) (by decide), q3]
      exact ⟨h1, h2, h3, q5, RMut_st (by omega) h5, q7 0 (by omega) (by omega) _ h6, ROut_le h7, RMut_st1 hs h8, q6, ROut_le h10, h11⟩
  all_goals
    obtain ⟨a, col', mem', R, ha, q1, q2, q3, q4, q5⟩ := collect_both h1 h2 h4 h11 (x3.trans x2.symm) (y3.trans y2.symm)
    refine ⟨a, mem', mu0, bu0, ou0, mu1, bu1, ou1, col', R, ha, ?_, ?_, ?_⟩
    · unfold qf_Qs_doEntry
      first
        | (rw [if_pos (by decide), if_neg (by decide), if_neg (by decide), if_neg (by decide), q1, Option.bind_some]; exact bz ha _)
        | (rw [if_neg (by decide), if_pos (by decide), if_neg (by decide), if_neg (by decide), if_neg (by decide), q1, Option.bind_some]; exact bz ha _)
    · unfold qf_Ref_entry
      rw [if_pos (by decide), if_pos (by decide), if_pos (by decide), q2]
      exact bzb ha
    · have fr := fun g a1 a2 a3 a4 a5 => q5 g a1 a2 a3 a4 a5
      unfold RAll
      rw [fr 0 (by decide) (by decide) (by decide) (by decide) (by decide), fr 1 (by decide) (by decide) (by decide) (by decide) (by decide), fr 2 (by decide) (by decide) (by decide) (by decide) (by decide), fr 10 (by decide) (by decide) (by decide) (by decide) (by decide), fr 11 (by decide) (by decide) (by decide) (by decide) (by decide), fr 12 (by decide) (by decide) (by decide) (by decide) (by decide), fr 13 (by decide) (by decide) (by decide) (by decide) (by decide), fr 14 (by decide) (by decide) (by decide) (by decide) (by decide), fr 15 (by decide) (by decide) (by decide) (by decide) (by decide), fr 16 (by decide) (by decide) (by decide) (by decide) (by decide), fr 17 (by decide) (by decide) (by decide) (by decide) (by decide), fr 18 (by decide) (by decide) (by decide) (by decide) (by decide), fr 19 (by decide) (by decide) (by decide) (by decide) (by decide), fr 20 (by decide) (by decide) (by decide) (by decide) (by decide), fr 21 (by decide) (by decide) (by decide) (by decide) (by decide), fr 22 (by decide) (by decide) (by decide) (by decide) (by decide), fr 23 (by decide) (by decide) (by decide) (by decide) (by decide), fr 24 (by decide) (by decide) (by decide) (by decide) (by decide), fr 26 (by decide) (by decide) (by decide) (by decide) (by decide)]
      exact ⟨h1, h2, h3, q3, h5, h6, ROut_le h7, h8, h9, ROut_le h10, q4⟩
