/-! ===== the pure part: an instruction is read on both sides ===== -/
theorem pi_cells {cnt pos kd p q t : Nat} {mu bu ou mem : QS} (h40 : cnt ≤ 40) (hlt : pos < cnt) (hc : mu 1 0 = nI cnt) (hp : mu 2 0 = nI pos) (hx : mu 0 pos = nI (kd + 16 * p + 64 * q + 256 * t)) (hk : kd < 10) (hp4 : p < 4) (hq4 : q < 4) (ht : t < 60) : qf_Mut_doInstruction mu bu ou mem = (qf_Mut_doWithCells (nI kd) (nI p) (nI q) mu bu mem).bind fun q2 => (if q2.1 = 0 then (some (0, (qp q2.2.1 6 (fun _ => ((q2.2.1 6 0) + 1))), q2.2.2.1, ou, q2.2.2.2)) else (qf_Mut_doInstruction_j128 q2.2.1 q2.2.2.1 ou q2.2.2.2)) := by
  unfold qf_Mut_doInstruction
  rw [hp, hc, if_pos (nI_lt hlt (by omega)), ck (by omega) (by decide), nI_clamp (show pos < 2 ^ 31 by omega), hx, in_k (by omega) hp4 hq4 ht, in_p (by omega) hp4 hq4 ht, in_q (by omega) hp4 hq4 ht, if_neg (show ¬ nI kd = 15 from nNe 15 rfl (by omega) (by decide) (by omega)), if_pos (show nI kd < 10 from nI_lt (a := kd) (b := 10) hk (by decide))]
theorem pi_ints {cnt pos kd p q t : Nat} {mu bu ou mem : QS} (h40 : cnt ≤ 40) (hlt : pos < cnt) (hc : mu 1 0 = nI cnt) (hp : mu 2 0 = nI pos) (hx : mu 0 pos = nI (kd + 16 * p + 64 * q + 256 * t)) (hk : 10 ≤ kd) (hk2 : kd < 15) (hp4 : p < 4) (hq4 : q < 4) (ht : t < 60) : qf_Mut_doInstruction mu bu ou mem = (qf_Mut_doWithInts (nI kd) (nI p) (nI q) (nI t) mu bu ou mem).bind fun q3 => (qf_Mut_doInstruction_j128 q3.1 bu q3.2 mem) := by
  unfold qf_Mut_doInstruction
  rw [hp, hc, if_pos (nI_lt hlt (by omega)), ck (by omega) (by decide), nI_clamp (show pos < 2 ^ 31 by omega), hx, in_k (by omega) hp4 hq4 ht, in_p (by omega) hp4 hq4 ht, in_q (by omega) hp4 hq4 ht, in_t (by omega) hp4 hq4 ht, if_neg (show ¬ nI kd = 15 from nNe 15 rfl (by omega) (by decide) (by omega)), if_neg (show ¬ nI kd < 10 from nI_nlt (a := kd) (b := 10) hk (by omega))]
theorem pi_loop {cnt pos p q t : Nat} {mu bu ou mem : QS} (h40 : cnt ≤ 40) (hlt : pos < cnt) (hc : mu 1 0 = nI cnt) (hp : mu 2 0 = nI pos) (hx : mu 0 pos = nI (15 + 16 * p + 64 * q + 256 * t)) (hp4 : p < 4) (hq1 : q ≤ 1) (ht : t < 60) : qf_Mut_doInstruction mu bu ou mem = some (1, qp mu 2 (fun _ => if q = 1 then nI t else if mu 3 p = -1 then nI (t + 1) else nI (pos + 1)), bu, ou, mem) := by
  unfold qf_Mut_doInstruction qf_Mut_doInstruction_j72 qf_Mut_behindLoopPart
  rw [hp, hc, if_pos (nI_lt hlt (by omega)), ck (by omega) (by decide), nI_clamp (show pos < 2 ^ 31 by omega), hx, in_k (by omega) hp4 (by omega) ht, in_p (by omega) hp4 (by omega) ht, in_q (by omega) hp4 (by omega) ht, in_t (by omega) hp4 (by omega) ht, if_pos (show nI 15 = 15 from rfl)]
  by_cases h1 : q = 1
  · subst h1
    rw [if_pos (show nI 1 = 1 from rfl), if_neg (by decide), Option.bind_some, if_pos rfl]
  · rw [if_neg (show ¬ nI q = 1 from nNe 1 rfl (by omega) (by decide) h1), if_pos rfl, ck hp4 (by decide), nI_clamp (show p < 2 ^ 31 by omega), if_neg h1, nI_1, nI_1]
    by_cases h2 : mu 3 p = -1
    · rw [if_pos h2, if_pos h2, Option.bind_some]
    · rw [if_neg h2, if_neg h2, Option.bind_some]
theorem ps_red {m cnt pos kd p q t : Nat} {r : QS} (hm : m < 2) (h40 : cnt ≤ 40) (hlt : pos < cnt) (h10 : r 10 m = nI cnt) (h15 : r 15 m = nI pos) (h11 : r 11 (40 * m + pos) = nI kd) (h12 : r 12 (40 * m + pos) = nI p) (h13 : r 13 (40 * m + pos) = nI q) : qf_Ref_step (nI m) r = (if nI kd = 0 then ((qf_Ref_fresh (nI m) (nI (7 * m + p)) r).bind fun q25 => (if vp_nar .boolean q25.1 = q25.1 then (some (q25.1, q25.2)) else none)) else (if nI kd < 5 then (qf_Ref_step_j158 (nI m) (nI (40 * m + pos)) (nI kd) (nI (7 * m + p)) (nI (7 * m + q)) r) else (if 9 < nI kd then (qf_Ref_step_j158 (nI m) (nI (40 * m + pos)) (nI kd) (nI (7 * m + p)) (nI (7 * m + q)) r) else (if nI kd < 7 then (qf_Ref_step_j101 (nI m) (nI kd) (nI (7 * m + p)) (nI (7 * m + q)) r) else (if 8 < nI kd then (qf_Ref_step_j101 (nI m) (nI kd) (nI (7 * m + p)) (nI (7 * m + q)) r) else (qf_Ref_step_j126 (nI m) (nI kd) (nI (7 * m + p)) (-1) r)))))) := by
  unfold qf_Ref_step
  simp only [nI_clamp (show m < 2 ^ 31 by omega), h15, h10, n40m, n7m, nI_add, nI_clamp (show 40 * m + pos < 2 ^ 31 by omega), h11, h12, h13]
  rw [ckc hm (by decide), ckc hm (by decide), if_pos (nI_lt hlt (by omega)), ckc hm (by decide), ckc (show 40 * m + pos < 80 by omega) (by decide), ckc (show 40 * m + pos < 80 by omega) (by decide), ckc (show 40 * m + pos < 80 by omega) (by decide)]
theorem pi_done {cnt pos : Nat} {mu bu ou mem : QS} (h40 : cnt ≤ 40) (hge : cnt ≤ pos) (hpp : pos < 2 ^ 31) (hc : mu 1 0 = nI cnt) (hp : mu 2 0 = nI pos) : qf_Mut_doInstruction mu bu ou mem = some (0, mu, bu, ou, mem) := by
  unfold qf_Mut_doInstruction
  rw [hp, hc, if_neg (nI_nlt hge hpp)]
theorem ps_done {m cnt pos : Nat} {r : QS} (hm : m < 2) (hge : cnt ≤ pos) (hpp : pos < 2 ^ 31) (h10 : r 10 m = nI cnt) (h15 : r 15 m = nI pos) : qf_Ref_step (nI m) r = some (0, r) := by
  unfold qf_Ref_step
  rw [ck hm (by decide), ck hm (by decide), nI_clamp (show m < 2 ^ 31 by omega), h15, h10, if_neg (nI_nlt hge hpp)]
/-- the variables' part of a program step: positions move on, a cell variable is given anew -/
theorem ok_cell {n B m pos p : Nat} {v : Int32} {mu bu ou mem r : QS} (hm : m < 2) (hM : RMem n mem (r 0) (r 25) (r 26)) (hU : RMut n m mu (r 10) (r 11) (r 12) (r 13) (r 14) (r 15) (r 16) (r 17) (r 18)) (hB : RBuf n m bu (r 19) (r 20) (r 21) (r 22)) (hO : ROut B m ou (r 23) (r 24)) (hpos : mu 2 0 = nI pos) (hlt : ∀ cnt, mu 1 0 = nI cnt → cnt ≤ 40 → pos < cnt) (hp : p < 4) (hv : Ptr n v) : StepOK n B m r (qp (qp r 15 (upd (r 15) m (r 15 m + 1))) 16 (upd (r 16) (7 * m + p) v)) (qp (qp mu 3 (upd (mu 3) p v)) 2 (fun _ => mu 2 0 + 1)) bu ou mem := by
  have h := ok_var (v3 := upd (mu 3) p v) (v4 := mu 4) (t16 := upd (r 16) (7 * m + p) v) hm hM hU hB hO hpos hlt (RVar_cell hp hv hU.2.1) (fun m' hm' hne _ _ hx => RVar_other hm hm' hne (by omega) hx)
  rw [show qp (qp mu 3 (upd (mu 3) p v)) 4 (mu 4) = qp mu 3 (upd (mu 3) p v) from qp_self (qp mu 3 (upd (mu 3) p v)) 4] at h
  exact h
theorem ok_int {n B m pos p : Nat} {v : Int32} {mu bu ou mem r : QS} (hm : m < 2) (hM : RMem n mem (r 0) (r 25) (r 26)) (hU : RMut n m mu (r 10) (r 11) (r 12) (r 13) (r 14) (r 15) (r 16) (r 17) (r 18)) (hB : RBuf n m bu (r 19) (r 20) (r 21) (r 22)) (hO : ROut B m ou (r 23) (r 24)) (hpos : mu 2 0 = nI pos) (hlt : ∀ cnt, mu 1 0 = nI cnt → cnt ≤ 40 → pos < cnt) (hp : p < 3) : StepOK n B m r (qp (qp r 15 (upd (r 15) m (r 15 m + 1))) 16 (upd (r 16) (7 * m + p + 4) v)) (qp (qp mu 4 (upd (mu 4) p v)) 2 (fun _ => mu 2 0 + 1)) bu ou mem := by
  have h := ok_var (v3 := mu 3) (v4 := upd (mu 4) p v) (t16 := upd (r 16) (7 * m + p + 4) v) hm hM hU hB hO hpos hlt (RVar_int hp hU.2.1) (fun m' hm' hne _ _ hx => RVar_other hm hm' hne (by omega) hx)
  rw [qp_self mu 3] at h
  exact h
