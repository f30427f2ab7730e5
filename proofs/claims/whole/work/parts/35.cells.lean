/-! ===== the pure part: instructions on cells ===== -/
theorem ok_id {n B m : Nat} {mu bu ou mem r : QS} (hM : RMem n mem (r 0) (r 25) (r 26)) (hU : RMut n m mu (r 10) (r 11) (r 12) (r 13) (r 14) (r 15) (r 16) (r 17) (r 18)) (hB : RBuf n m bu (r 19) (r 20) (r 21) (r 22)) (hO : ROut B m ou (r 23) (r 24)) : StepOK n B m r r mu bu ou mem :=
  ⟨hM, hU, hB, ROut_le hO, fun _ _ _ => ⟨fun _ h => h, fun _ h => h, fun _ h => ROut_le h⟩, rfl, rfl, rfl, rfl, rfl, rfl⟩
theorem RMut_move {n m pos : Nat} {mu : QS} {r10 r11 r12 r13 r14 r15 r16 r17 r18 : Nat → Int32} (hU : RMut n m mu r10 r11 r12 r13 r14 r15 r16 r17 r18) (hpos : mu 2 0 = nI pos) (hlt : ∀ cnt, mu 1 0 = nI cnt → cnt ≤ 40 → pos < cnt) : RMut n m (qp mu 2 (fun _ => mu 2 0 + 1)) r10 r11 r12 r13 r14 (upd r15 m (r15 m + 1)) r16 r17 r18 := by
  obtain ⟨⟨cnt, pos', a1, a2, a3, a4, a5, a6, a7⟩, h2, h3, h4⟩ := hU
  obtain rfl : pos' = pos := by
    have := (a5.symm.trans hpos)
    by_cases hp : pos < 2 ^ 31
    · exact (nI_eq (by omega) hp).mp this
    · exact absurd (hlt cnt a3 a1) (by omega)
  have hl := hlt cnt a3 a1
  refine ⟨⟨cnt, pos' + 1, a1, hl, a3, a4, ?_, ?_, a7⟩, h2, h3, h4⟩
  · show mu 2 0 + 1 = nI (pos' + 1)
    rw [a5, nI_1]
  · rw [up_eq, a6, nI_1]
theorem ok_store {n B m pos : Nat} {mu bu bu' ou mem mem' r : QS} {t25 t19 t20 t21 t22 : Nat → Int32} (hU : RMut n m mu (r 10) (r 11) (r 12) (r 13) (r 14) (r 15) (r 16) (r 17) (r 18)) (hO : ROut B m ou (r 23) (r 24)) (hpos : mu 2 0 = nI pos) (hlt : ∀ cnt, mu 1 0 = nI cnt → cnt ≤ 40 → pos < cnt) (hM : RMem n mem' (r 0) t25 (r 26)) (hB : RBuf n m bu' t19 t20 t21 t22) (ho : ∀ m', m' < 2 → m' ≠ m → ∀ bx, RBuf n m' bx (r 19) (r 20) (r 21) (r 22) → RBuf n m' bx t19 t20 t21 t22) : StepOK n B m r (qp (qp (qp (qp (qp (qp r 25 t25) 15 (upd (r 15) m (r 15 m + 1))) 19 t19) 20 t20) 21 t21) 22 t22) (qp mu 2 (fun _ => mu 2 0 + 1)) bu' ou mem' :=
  ⟨hM, RMut_move hU hpos hlt, hB, ROut_le hO, fun m' hm' hne => ⟨fun _ hx => RMut_other (up_ne _ _ hne) rfl (fun _ _ h => h) hx, ho m' hm' hne, fun _ h => ROut_le h⟩, rfl, rfl, rfl, rfl, rfl, rfl⟩
/-- the program's end of a step on cells -/
theorem pi_end {mu bu ou mem : QS} {f : Option (Int32 × QS × QS × QS)} {a : Int32} {mu' bu' mem' : QS} (hf : f = some (a, mu', bu', mem')) : (f.bind fun q2 => (if q2.1 = 0 then (some (0, (qp q2.2.1 6 (fun _ => ((q2.2.1 6 0) + 1))), q2.2.2.1, ou, q2.2.2.2)) else (qf_Mut_doInstruction_j128 q2.2.1 q2.2.2.1 ou q2.2.2.2))) = if a = 0 then some ((0 : Int32), qp mu' 6 (fun _ => mu' 6 0 + 1), bu', ou, mem') else some (1, qp mu' 2 (fun _ => mu' 2 0 + 1), bu', ou, mem') := by
  rw [hf, Option.bind_some]
  rfl
/-- the reference's end of a step that gives a cell variable anew -/
theorem pr_var {m p kd q pos : Nat} {r : QS} (hm : m < 2) (hp : p < 4) (hq : q < 4) (hk1 : 1 ≤ kd) (hk : kd < 5) : qf_Ref_step_j158 (nI m) (nI (40 * m + pos)) (nI kd) (nI (7 * m + p)) (nI (7 * m + q)) r = if kd = 1 then some (1, qp (qp r 15 (upd (r 15) m (r 15 m + 1))) 16 (upd (r 16) (7 * m + p) (-1))) else if kd = 2 then some (1, qp (qp r 15 (upd (r 15) m (r 15 m + 1))) 16 (upd (r 16) (7 * m + p) (r 16 (7 * m + q)))) else if r 16 (7 * m + q) = -1 then some (1, qp (qp r 15 (upd (r 15) m (r 15 m + 1))) 16 (upd (r 16) (7 * m + p) (-1))) else (qf_Ref_sees (nI m) (r 16 (7 * m + q)) (nI kd - 3) (qp r 15 (upd (r 15) m (r 15 m + 1)))).bind fun v => some (1, qp (qp r 15 (upd (r 15) m (r 15 m + 1))) 16 (upd (r 16) (7 * m + p) v)) := by
  unfold qf_Ref_step_j158 qf_Ref_step_j311
  simp only [nI_clamp (show m < 2 ^ 31 by omega), nI_clamp (show 7 * m + p < 2 ^ 31 by omega), nI_clamp (show 7 * m + q < 2 ^ 31 by omega)]
  rw [if_neg (show ¬ nI kd = 15 from nNe 15 rfl (by omega) (by decide) (by omega)), ckc hm (by decide), ckc hm (by decide), if_neg (show ¬ (5 : Int32) ≤ nI kd from nI_ge (a := kd) (b := 5) (by omega) (by decide)), ckc (show 7 * m + q < 14 by omega) (by decide)]
  simp only [ckc (show 7 * m + p < 14 by omega) (show 14 < 2 ^ 31 by decide)]
  by_cases h1 : kd = 1
  · rw [if_pos h1, if_pos (by rw [h1]; rfl)]
    rfl
  · rw [if_neg h1, if_neg (show ¬ nI kd = 1 from nNe 1 rfl (by omega) (by decide) h1)]
    by_cases h2 : kd = 2
    · rw [if_pos h2, if_pos (by rw [h2]; rfl)]
      rfl
    · rw [if_neg h2, if_neg (show ¬ nI kd = 2 from nNe 2 rfl (by omega) (by decide) h2)]
      rfl
/-- the reference's store in a step -/
theorem pr_sto {m p kd q : Nat} {r : QS} (hm : m < 2) (hp : p < 4) (hq : q < 4) (hq3 : kd = 9 → q < 3) (hk1 : 5 ≤ kd) (hk : kd ≤ 9) (f : Nat) (hf : (kd = 5 ∧ f = 0) ∨ (kd = 6 ∧ f = 1) ∨ (kd = 7 ∧ f = 0) ∨ (kd = 8 ∧ f = 1) ∨ (kd = 9 ∧ f = 2)) : (if nI kd < 7 then (qf_Ref_step_j101 (nI m) (nI kd) (nI (7 * m + p)) (nI (7 * m + q)) r) else (if 8 < nI kd then (qf_Ref_step_j101 (nI m) (nI kd) (nI (7 * m + p)) (nI (7 * m + q)) r) else (qf_Ref_step_j126 (nI m) (nI kd) (nI (7 * m + p)) (-1) r))) = (qf_Ref_store (nI m) (r 16 (7 * m + p)) (nI f) (if kd = 9 then r 16 (7 * m + q + 4) else if kd < 7 then r 16 (7 * m + q) else -1) r).bind fun q22 => (if vp_nar .boolean q22.1 = q22.1 then (some (q22.1, q22.2)) else none) := by
  unfold qf_Ref_step_j101 qf_Ref_step_j126 qf_Ref_step_j152
  rw [show nI (7 * m + q) + 4 = nI (7 * m + q + 4) from nI_add (7 * m + q) 4]
  simp only [nI_clamp (show 7 * m + p < 2 ^ 31 by omega), nI_clamp (show 7 * m + q < 2 ^ 31 by omega), nI_clamp (show 7 * m + q + 4 < 2 ^ 31 by omega), ckc (show 7 * m + p < 14 by omega) (show 14 < 2 ^ 31 by decide), ckc (show 7 * m + q < 14 by omega) (show 14 < 2 ^ 31 by decide)]
  rcases hf with ⟨rfl, rfl⟩ | ⟨rfl, rfl⟩ | ⟨rfl, rfl⟩ | ⟨rfl, rfl⟩ | ⟨rfl, rfl⟩
  · rw [if_pos (by decide), if_neg (by decide), if_neg (by decide), if_neg (by decide), if_pos (by decide)]
    rfl
  · rw [if_pos (by decide), if_neg (by decide), if_neg (by decide), if_neg (by decide), if_pos (by decide)]
    rfl
  · rw [if_neg (by decide), if_neg (by decide), if_neg (by decide), if_neg (by decide), if_neg (by decide)]
    rfl
  · rw [if_neg (by decide), if_neg (by decide), if_neg (by decide), if_neg (by decide), if_neg (by decide)]
    rfl
  · rw [if_neg (by decide), if_pos (by decide), if_pos (by decide), ckc (show 7 * m + q + 4 < 14 by have := hq3 rfl; omega) (by decide), if_pos (by decide), if_pos rfl]
    rfl
