/-! ===== the pure part: steps on cells, both sides ===== -/
theorem step_cells {n B m cnt pos kd p q t : Nat} {mu bu ou mem r : QS} (hn : n ≤ 11) (hm : m < 2) (hM : RMem n mem (r 0) (r 25) (r 26)) (hU : RMut n m mu (r 10) (r 11) (r 12) (r 13) (r 14) (r 15) (r 16) (r 17) (r 18)) (hB : RBuf n m bu (r 19) (r 20) (r 21) (r 22)) (hO : ROut B m ou (r 23) (r 24)) (h40 : cnt ≤ 40) (hlt : pos < cnt) (hc : mu 1 0 = nI cnt) (hc' : r 10 m = nI cnt) (hp : mu 2 0 = nI pos) (hp' : r 15 m = nI pos) (hV : VI cnt kd p q t) (hx : mu 0 pos = nI (kd + 16 * p + 64 * q + 256 * t)) (h11 : r 11 (40 * m + pos) = nI kd) (h12 : r 12 (40 * m + pos) = nI p) (h13 : r 13 (40 * m + pos) = nI q) (hk : kd < 10) : ∃ (a : Int32) (mu' bu' ou' mem' R : QS), (a = 0 ∨ a = 1) ∧ qf_Mut_doInstruction mu bu ou mem = some (a, mu', bu', ou', mem') ∧ qf_Ref_step (nI m) r = some (a, R) ∧ StepOK n B m r R mu' bu' ou' mem' := by
  obtain ⟨hk15, hp4, hq4, ht60, v9, v10, v11, v12, v13, v14, v15⟩ := hV
  have hlt' : ∀ cnt', mu 1 0 = nI cnt' → cnt' ≤ 40 → pos < cnt' := fun cnt' e h => by
    have : cnt' = cnt := (nI_eq (by omega) (by omega)).mp (e.symm.trans hc)
    omega
  have eC := pi_cells (bu := bu) (ou := ou) (mem := mem) h40 hlt hc hp hx hk hp4 hq4 ht60
  have eR := ps_red (t := t) hm h40 hlt hc' hp' h11 h12 h13
  have hvp := hU.2.1.1 p hp4
  have hvq := hU.2.1.1 q hq4
  obtain ⟨st, hst3, hst, hst'⟩ := hU.2.2.1
  -- a cell variable is given anew
  have giveC : ∀ v : Int32, Ptr n v → qf_Mut_doWithCells (nI kd) (nI p) (nI q) mu bu mem = some (1, qp mu 3 (upd (mu 3) p v), bu, mem) → qf_Ref_step (nI m) r = some (1, qp (qp r 15 (upd (r 15) m (r 15 m + 1))) 16 (upd (r 16) (7 * m + p) v)) → ∃ (a : Int32) (mu' bu' ou' mem' R : QS), (a = 0 ∨ a = 1) ∧ qf_Mut_doInstruction mu bu ou mem = some (a, mu', bu', ou', mem') ∧ qf_Ref_step (nI m) r = some (a, R) ∧ StepOK n B m r R mu' bu' ou' mem' := fun v hv e1 e2 =>
    ⟨1, _, _, _, _, _, Or.inr rfl, by rw [eC, pi_end (mu := mu) (bu := bu) (mem := mem) e1, if_neg (by decide)]; rfl, e2, ok_cell hm hM hU hB hO hp hlt' hp4 hv⟩
  -- a store
  have giveS : ∀ (f : Nat) (v : Int32), f < 3 → (f < 2 → Ptr n v) → (qf_Mut_doWithCells (nI kd) (nI p) (nI q) mu bu mem = (qf_Mut_store (mu 3 p) (nI f) v mu bu mem).bind fun q20 => (if vp_nar .boolean q20.1 = q20.1 then (some (q20.1, mu, q20.2.1, q20.2.2)) else none)) → (qf_Ref_step (nI m) r = (qf_Ref_store (nI m) (r 16 (7 * m + p)) (nI f) v r).bind fun q22 => (if vp_nar .boolean q22.1 = q22.1 then (some (q22.1, q22.2)) else none)) → ∃ (a : Int32) (mu' bu' ou' mem' R : QS), (a = 0 ∨ a = 1) ∧ qf_Mut_doInstruction mu bu ou mem = some (a, mu', bu', ou', mem') ∧ qf_Ref_step (nI m) r = some (a, R) ∧ StepOK n B m r R mu' bu' ou' mem' := fun f v hf hv e1 e2 => by
    rw [hvp.1] at e2
    rcases store_both (mu := mu) hn hm hM hB (hst'.trans hst.symm) hvp.2 hf hv with ⟨s1, s2⟩ | ⟨bu', mem', t25, t19, t20, t21, t22, s1, s2, s3, s4, s5⟩
    · rw [s1, Option.bind_some] at e1
      rw [s2, Option.bind_some] at e2
      have e1 : qf_Mut_doWithCells (nI kd) (nI p) (nI q) mu bu mem = some (0, mu, bu, mem) := e1.trans (bz (a := 0) (Or.inl rfl) _)
      have e2 := e2.trans (bz (Or.inl rfl) _)
      exact ⟨0, _, _, _, _, _, Or.inl rfl, by rw [eC, pi_end (mu := mu) (bu := bu) (mem := mem) e1, if_pos rfl], e2, ok_stall hM hU hB hO⟩
    · rw [s1, Option.bind_some] at e1
      rw [s2, Option.bind_some] at e2
      have e1 : qf_Mut_doWithCells (nI kd) (nI p) (nI q) mu bu mem = some (1, mu, bu', mem') := e1.trans (bz (a := 1) (Or.inr rfl) _)
      have e2 := e2.trans (bz (Or.inr rfl) _)
      exact ⟨1, _, _, _, _, _, Or.inr rfl, by rw [eC, pi_end (mu := mu) (bu := bu) (mem := mem) e1, if_neg (by decide)], e2, ok_store (mem := mem) (bu := bu) hU hO hp hlt' s3 s4 s5⟩
  have cs : kd = 0 ∨ kd = 1 ∨ kd = 2 ∨ kd = 3 ∨ kd = 4 ∨ kd = 5 ∨ kd = 6 ∨ kd = 7 ∨ kd = 8 ∨ kd = 9 := by omega
  rcases cs with rfl | rfl | rfl | rfl | rfl | rfl | rfl | rfl | rfl | rfl
  · -- a new cell
    rw [if_pos (show nI 0 = 0 from rfl)] at eR
    have eD : qf_Mut_doWithCells (nI 0) (nI p) (nI q) mu bu mem = (qf_Mut_takeCell (nI p) mu mem).bind fun q2 => (if vp_nar .boolean q2.1 = q2.1 then (some (q2.1, q2.2.1, bu, q2.2.2)) else none) := by
      unfold qf_Mut_doWithCells
      rw [if_pos (show nI 0 = 0 from rfl)]
    rcases take_both hn hm hp4 hM hst3 hst hst' with ⟨s1, s2⟩ | ⟨c, mem', t25, t26, hcn, s1, s2, s3⟩
    · rw [s1, Option.bind_some] at eD
      rw [s2, Option.bind_some] at eR
      have eD : qf_Mut_doWithCells (nI 0) (nI p) (nI q) mu bu mem = some (0, mu, bu, mem) := eD.trans (bz (a := 0) (Or.inl rfl) _)
      have eR := eR.trans (bz (Or.inl rfl) _)
      exact ⟨0, _, _, _, _, _, Or.inl rfl, by rw [eC, pi_end (mu := mu) (bu := bu) (mem := mem) eD, if_pos rfl], eR, ok_stall hM hU hB hO⟩
    · rw [s1, Option.bind_some] at eD
      rw [s2, Option.bind_some] at eR
      have eD : qf_Mut_doWithCells (nI 0) (nI p) (nI q) mu bu mem = some (1, qp mu 3 (upd (mu 3) p (nI c)), bu, mem') := eD.trans (bz (a := 1) (Or.inr rfl) _)
      have eR := eR.trans (bz (Or.inr rfl) _)
      refine ⟨1, _, _, _, _, _, Or.inr rfl, by rw [eC, pi_end (mu := mu) (bu := bu) (mem := mem) eD, if_neg (by decide)], eR, ?_⟩
      have h := ok_cell (r := qp (qp r 25 t25) 26 t26) (v := nI c) (p := p) (ou := ou) (bu := bu) hm s3 hU hB hO hp hlt' hp4 (Or.inr ⟨c, hcn, rfl⟩)
      exact h
  · rw [if_neg (show ¬ nI 1 = 0 by decide), if_pos (by decide), pr_var hm hp4 hq4 (by omega) (by omega), if_pos rfl] at eR
    refine giveC (-1) (Or.inl rfl) ?_ eR
    unfold qf_Mut_doWithCells
    rw [if_neg (show ¬ nI 1 = 0 by decide), if_pos (show nI 1 = 1 from rfl), ck hp4 (by decide), nI_clamp (show p < 2 ^ 31 by omega)]
  · rw [if_neg (show ¬ nI 2 = 0 by decide), if_pos (by decide), pr_var hm hp4 hq4 (by omega) (by omega), if_neg (by decide), if_pos rfl, hvq.1] at eR
    refine giveC (mu 3 q) hvq.2 ?_ eR
    unfold qf_Mut_doWithCells
    rw [if_neg (show ¬ nI 2 = 0 by decide), if_neg (show ¬ nI 2 = 1 by decide), if_pos (show nI 2 = 2 from rfl), ck hq4 (by decide), ck hp4 (by decide), nI_clamp (show p < 2 ^ 31 by omega), nI_clamp (show q < 2 ^ 31 by omega)]
  · rw [if_neg (show ¬ nI 3 = 0 by decide), if_pos (by decide), pr_var hm hp4 hq4 (by omega) (by omega), if_neg (by decide), if_neg (by decide), hvq.1] at eR
    have eD : qf_Mut_doWithCells (nI 3) (nI p) (nI q) mu bu mem = (qf_Mut_get (mu 3 q) (nI 0) (-1) mu bu mem).bind fun q11 => some (1, qp mu 3 (upd (mu 3) p q11), bu, mem) := by
      unfold qf_Mut_doWithCells
      rw [if_neg (show ¬ nI 3 = 0 by decide), if_neg (show ¬ nI 3 = 1 by decide), if_neg (show ¬ nI 3 = 2 by decide), if_pos (show nI 3 = 3 from rfl), ck hq4 (by decide)]
      simp only [ckc hp4 (show 4 < 2 ^ 31 by decide), nI_clamp (show p < 2 ^ 31 by omega), nI_clamp (show q < 2 ^ 31 by omega)]
      rfl
    rcases hvq.2 with ev | ⟨c, hcn, ev⟩
    · rw [if_pos ev] at eR
      refine giveC (-1) (Or.inl rfl) ?_ eR
      rw [eD]
      unfold qf_Mut_get
      rw [if_pos ev, Option.bind_some]
    · have hne : ¬ mu 3 q = -1 := by rw [ev]; exact nEqm1 (by omega)
      obtain ⟨w, w1, w2, w3⟩ := see_both (bu := bu) (f := 0) (r := qp r 15 (upd (r 15) m (r 15 m + 1))) hn hm hM hB hcn (by omega)
      rw [if_neg hne, show nI 3 - 3 = nI 0 from by decide, ev, w2, Option.bind_some] at eR
      refine giveC w (w3 (by omega)) ?_ eR
      rw [eD]
      unfold qf_Mut_get
      rw [if_neg hne, ev, w1]
      rfl
  · rw [if_neg (show ¬ nI 4 = 0 by decide), if_pos (by decide), pr_var hm hp4 hq4 (by omega) (by omega), if_neg (by decide), if_neg (by decide), hvq.1] at eR
    have eD : qf_Mut_doWithCells (nI 4) (nI p) (nI q) mu bu mem = (qf_Mut_get (mu 3 q) (nI 1) (-1) mu bu mem).bind fun q11 => some (1, qp mu 3 (upd (mu 3) p q11), bu, mem) := by
      unfold qf_Mut_doWithCells
      rw [if_neg (show ¬ nI 4 = 0 by decide), if_neg (show ¬ nI 4 = 1 by decide), if_neg (show ¬ nI 4 = 2 by decide), if_neg (show ¬ nI 4 = 3 by decide), if_pos (show nI 4 = 4 from rfl), ck hq4 (by decide)]
      simp only [ckc hp4 (show 4 < 2 ^ 31 by decide), nI_clamp (show p < 2 ^ 31 by omega), nI_clamp (show q < 2 ^ 31 by omega)]
      rfl
    rcases hvq.2 with ev | ⟨c, hcn, ev⟩
    · rw [if_pos ev] at eR
      refine giveC (-1) (Or.inl rfl) ?_ eR
      rw [eD]
      unfold qf_Mut_get
      rw [if_pos ev, Option.bind_some]
    · have hne : ¬ mu 3 q = -1 := by rw [ev]; exact nEqm1 (by omega)
      obtain ⟨w, w1, w2, w3⟩ := see_both (bu := bu) (f := 1) (r := qp r 15 (upd (r 15) m (r 15 m + 1))) hn hm hM hB hcn (by omega)
      rw [if_neg hne, show nI 4 - 3 = nI 1 from by decide, ev, w2, Option.bind_some] at eR
      refine giveC w (w3 (by omega)) ?_ eR
      rw [eD]
      unfold qf_Mut_get
      rw [if_neg hne, ev, w1]
      rfl
  · rw [if_neg (by decide), if_neg (by decide), if_neg (by decide), pr_sto hm hp4 hq4 v9 (by omega) (by omega) 0 (by omega), if_neg (by decide), if_pos (by decide), hvq.1] at eR
    refine giveS 0 (mu 3 q) (by omega) (fun _ => hvq.2) ?_ eR
    unfold qf_Mut_doWithCells
    rw [if_neg (by decide), if_neg (by decide), if_neg (by decide), if_neg (by decide), if_neg (by decide), if_pos (by decide), ck hp4 (by decide), ck hq4 (by decide), nI_clamp (show p < 2 ^ 31 by omega), nI_clamp (show q < 2 ^ 31 by omega)]
    rfl
  · rw [if_neg (by decide), if_neg (by decide), if_neg (by decide), pr_sto hm hp4 hq4 v9 (by omega) (by omega) 1 (by omega), if_neg (by decide), if_pos (by decide), hvq.1] at eR
    refine giveS 1 (mu 3 q) (by omega) (fun _ => hvq.2) ?_ eR
    unfold qf_Mut_doWithCells
    rw [if_neg (by decide), if_neg (by decide), if_neg (by decide), if_neg (by decide), if_neg (by decide), if_neg (by decide), if_pos (by decide), ck hp4 (by decide), ck hq4 (by decide), nI_clamp (show p < 2 ^ 31 by omega), nI_clamp (show q < 2 ^ 31 by omega)]
    rfl
  · rw [if_neg (by decide), if_neg (by decide), if_neg (by decide), pr_sto hm hp4 hq4 v9 (by omega) (by omega) 0 (by omega), if_neg (by decide), if_neg (by decide)] at eR
    refine giveS 0 (-1) (by omega) (fun _ => Or.inl rfl) ?_ eR
    unfold qf_Mut_doWithCells
    rw [if_neg (by decide), if_neg (by decide), if_neg (by decide), if_neg (by decide), if_neg (by decide), if_neg (by decide), if_neg (by decide), if_pos (by decide), ck hp4 (by decide), nI_clamp (show p < 2 ^ 31 by omega)]
    rfl
  · rw [if_neg (by decide), if_neg (by decide), if_neg (by decide), pr_sto hm hp4 hq4 v9 (by omega) (by omega) 1 (by omega), if_neg (by decide), if_neg (by decide)] at eR
    refine giveS 1 (-1) (by omega) (fun _ => Or.inl rfl) ?_ eR
    unfold qf_Mut_doWithCells
    rw [if_neg (by decide), if_neg (by decide), if_neg (by decide), if_neg (by decide), if_neg (by decide), if_neg (by decide), if_neg (by decide), if_neg (by decide), if_pos (by decide), ck hp4 (by decide), nI_clamp (show p < 2 ^ 31 by omega)]
    rfl
  · have hq3 := v9 rfl
    rw [if_neg (by decide), if_neg (by decide), if_neg (by decide), pr_sto hm hp4 hq4 v9 (by omega) (by omega) 2 (by omega), if_pos rfl, show 7 * m + q + 4 = 7 * m + 4 + q by omega, hU.2.1.2 q hq3] at eR
    refine giveS 2 (mu 4 q) (by omega) (fun h => by omega) ?_ eR
    unfold qf_Mut_doWithCells
    rw [if_neg (by decide), if_neg (by decide), if_neg (by decide), if_neg (by decide), if_neg (by decide), if_neg (by decide), if_neg (by decide), if_neg (by decide), if_neg (by decide), if_pos (by decide), ck hp4 (by decide), ck hq3 (by decide), nI_clamp (show p < 2 ^ 31 by omega), nI_clamp (show q < 2 ^ 31 by omega)]
    rfl
