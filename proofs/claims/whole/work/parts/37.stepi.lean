/-! ===== the pure part: steps on ints, loops; a step ===== -/
theorem pr_num {m p kd q pos : Nat} {r : QS} (hm : m < 2) (hk1 : 10 ≤ kd) (hk : kd < 15) : qf_Ref_step_j158 (nI m) (nI (40 * m + pos)) (nI kd) (nI (7 * m + p)) (nI (7 * m + q)) r = (qf_Ref_number (nI m) (nI kd) (nI (7 * m + p + 4)) (nI (40 * m + pos)) (qp r 15 (upd (r 15) m (r 15 m + 1)))).bind fun q9 => some (1, q9) := by
  unfold qf_Ref_step_j158
  simp only [nI_clamp (show m < 2 ^ 31 by omega)]
  rw [if_neg (show ¬ nI kd = 15 from nNe 15 rfl (by omega) (by decide) (by omega)), ckc hm (by decide), ckc hm (by decide), if_pos (show (5 : Int32) ≤ nI kd from nI_le (a := 5) (b := kd) (by omega) (by omega)), show nI (7 * m + p) + 4 = nI (7 * m + p + 4) from nI_add (7 * m + p) 4]
theorem xor16 {k : Nat} (h : k < 2 ^ 31) : (0 : Int32) ≤ (nI k ^^^ 16) := by
  have hh : k ^^^ 16 < 2 ^ 31 := Nat.xor_lt_two_pow h (by decide)
  have e : nI k ^^^ 16 = nI (k ^^^ 16) := by
    apply Int32.toBitVec_inj.mp
    apply BitVec.eq_of_toNat_eq
    show ((nI k).toBitVec ^^^ (nI 16).toBitVec).toNat = _
    rw [BitVec.toNat_xor, pk_tn (by omega), pk_tn (by decide), pk_tn (by omega)]
  rw [e]
  exact nI_le (a := 0) (Nat.zero_le _) hh
/-- the place of an output in its ring -/
theorem place_of {k : Nat} (hk : k < 2 ^ 31) : qf_Out_placeOf (nI k) = some (nI (k % 16)) := by
  have hmod : nI k - nI k / 16 * 16 = nI (k % 16) := pk_rem (d := 16) hk (by decide) (by decide)
  unfold qf_Out_placeOf qf_Jmat_floorMod
  rw [if_neg (show ¬ (16 : Int32) = 0 by decide), if_pos (xor16 hk), hmod, Option.bind_some]
theorem out_both {n B m p : Nat} {ou r : QS} {v : Int32} (hm : m < 2) (hB : B < 2 ^ 30) (hO : ROut B m ou (r 23) (r 24)) : ∃ (ou' : QS) (t23 t24 : Nat → Int32), qf_Out_add v ou = some ou' ∧ ROut (B + 1) m ou' t23 t24 ∧ (∀ m', m' < 2 → m' ≠ m → ∀ ox, ROut B m' ox (r 23) (r 24) → ROut (B + 1) m' ox t23 t24) ∧ (r 23 m &&& 15) = nI ((r 23 m).toNatClampNeg % 16) ∧ t23 = upd (r 23) m (r 23 m + 1) ∧ t24 = upd (r 24) (16 * m + (r 23 m).toNatClampNeg % 16) v := by
  obtain ⟨w, a1, a2, a3, a4⟩ := hO
  have hw : w < 2 ^ 31 := by omega
  rw [a3, nI_clamp hw]
  refine ⟨qp (qp ou 1 (fun _ => nI (w + 1))) 0 (upd (ou 0) (w % 16) v), upd (r 23) m (nI w + 1), upd (r 24) (16 * m + w % 16) v, ?_, ⟨w + 1, by omega, ?_, ?_, fun j hj => ?_⟩, fun m' hm' hne ox hx => ?_, pk_andN (by omega) 4 (by decide), rfl, rfl⟩
  · unfold qf_Out_add
    rw [a2, place_of hw, Option.bind_some, ck (show w % 16 < 16 by omega) (by decide), nI_clamp (show w % 16 < 2 ^ 31 by omega), nI_1]
  · rfl
  · rw [up_eq, nI_1]
  · show upd (r 24) (16 * m + w % 16) v (16 * m + j) = upd (ou 0) (w % 16) v j
    by_cases e : j = w % 16
    · rw [e, up_eq, up_eq]
    · rw [up_ne _ _ e, up_ne _ _ (show 16 * m + j ≠ 16 * m + w % 16 by omega)]; exact a4 j hj
  · obtain ⟨w', b1, b2, b3, b4⟩ := hx
    exact ⟨w', by omega, b2, by rw [up_ne _ _ hne]; exact b3, fun j hj => by rw [up_ne _ _ (show 16 * m' + j ≠ 16 * m + w % 16 by omega)]; exact b4 j hj⟩
theorem step_ints {n B m cnt pos kd p q t : Nat} {mu bu ou mem r : QS} (hn : n ≤ 11) (hm : m < 2) (hB30 : B < 2 ^ 30) (hM : RMem n mem (r 0) (r 25) (r 26)) (hU : RMut n m mu (r 10) (r 11) (r 12) (r 13) (r 14) (r 15) (r 16) (r 17) (r 18)) (hB : RBuf n m bu (r 19) (r 20) (r 21) (r 22)) (hO : ROut B m ou (r 23) (r 24)) (h40 : cnt ≤ 40) (hlt : pos < cnt) (hc : mu 1 0 = nI cnt) (hc' : r 10 m = nI cnt) (hp : mu 2 0 = nI pos) (hp' : r 15 m = nI pos) (hV : VI cnt kd p q t) (hx : mu 0 pos = nI (kd + 16 * p + 64 * q + 256 * t)) (h11 : r 11 (40 * m + pos) = nI kd) (h12 : r 12 (40 * m + pos) = nI p) (h13 : r 13 (40 * m + pos) = nI q) (h14 : r 14 (40 * m + pos) = nI t) (hk10 : 10 ≤ kd) (hk : kd < 15) : ∃ (a : Int32) (mu' bu' ou' mem' R : QS), (a = 0 ∨ a = 1) ∧ qf_Mut_doInstruction mu bu ou mem = some (a, mu', bu', ou', mem') ∧ qf_Ref_step (nI m) r = some (a, R) ∧ StepOK n B m r R mu' bu' ou' mem' := by
  obtain ⟨hk15, hp4, hq4, ht60, v9, v10, v11, v12, v13, v14, v15⟩ := hV
  have hlt' : ∀ cnt', mu 1 0 = nI cnt' → cnt' ≤ 40 → pos < cnt' := fun cnt' e h => by
    have : cnt' = cnt := (nI_eq (by omega) (by omega)).mp (e.symm.trans hc)
    omega
  have eC := pi_ints (bu := bu) (ou := ou) (mem := mem) h40 hlt hc hp hx hk10 hk hp4 hq4 ht60
  have eR := ps_red (t := t) hm h40 hlt hc' hp' h11 h12 h13
  rw [if_neg (show ¬ nI kd = 0 from nNe 0 rfl (by omega) (by decide) (by omega)), if_neg (show ¬ nI kd < 5 from nI_nlt (a := kd) (b := 5) (by omega) (by omega)), if_pos (show (9 : Int32) < nI kd from nI_lt (a := 9) (b := kd) (by omega) (by omega)), pr_num hm hk10 hk] at eR
  have hvq := hU.2.1.1 q hq4
  have hp3 : p < 3 := by
    have hs : kd = 10 ∨ kd = 11 ∨ kd = 12 ∨ kd = 13 ∨ kd = 14 := by omega
    rcases hs with h | h | h | h | h
    · exact v10 h
    · exact (v11 h).1
    · exact (v12 h).1
    · exact v13 h
    · exact v14 h
  have hat : 40 * m + pos < 80 := by omega
  have giveI : ∀ v : Int32, qf_Mut_doWithInts (nI kd) (nI p) (nI q) (nI t) mu bu ou mem = some (qp mu 4 (upd (mu 4) p v), ou) → qf_Ref_number (nI m) (nI kd) (nI (7 * m + p + 4)) (nI (40 * m + pos)) (qp r 15 (upd (r 15) m (r 15 m + 1))) = some (qp (qp r 15 (upd (r 15) m (r 15 m + 1))) 16 (upd (r 16) (7 * m + p + 4) v)) → ∃ (a : Int32) (mu' bu' ou' mem' R : QS), (a = 0 ∨ a = 1) ∧ qf_Mut_doInstruction mu bu ou mem = some (a, mu', bu', ou', mem') ∧ qf_Ref_step (nI m) r = some (a, R) ∧ StepOK n B m r R mu' bu' ou' mem' := fun v e1 e2 => by
    rw [e2, Option.bind_some] at eR
    rw [e1, Option.bind_some] at eC
    exact ⟨1, _, _, _, _, _, Or.inr rfl, eC, eR, ok_int hm hM hU hB hO hp hlt' hp3⟩
  have cs : kd = 10 ∨ kd = 11 ∨ kd = 12 ∨ kd = 13 ∨ kd = 14 := by omega
  rcases cs with rfl | rfl | rfl | rfl | rfl
  · refine giveI (nI t) ?_ ?_
    · unfold qf_Mut_doWithInts
      rw [if_pos (by decide), ck hp3 (by decide), nI_clamp (show p < 2 ^ 31 by omega)]
    · unfold qf_Ref_number
      rw [ck hat (by decide), if_pos (by decide), ck hat (by decide), ck (show 7 * m + p + 4 < 14 by omega) (by decide), nI_clamp (show 7 * m + p + 4 < 2 ^ 31 by omega), nI_clamp (show 40 * m + pos < 2 ^ 31 by omega)]
      show some (qp (qp r 15 (upd (r 15) m (r 15 m + 1))) 16 (upd (r 16) (7 * m + p + 4) (r 14 (40 * m + pos)))) = _
      rw [h14]
  · obtain ⟨_, hq3⟩ := v11 rfl
    refine giveI (mu 4 q) ?_ ?_
    · unfold qf_Mut_doWithInts
      rw [if_neg (by decide), if_pos (by decide), ck hq3 (by decide), ck hp3 (by decide), nI_clamp (show p < 2 ^ 31 by omega), nI_clamp (show q < 2 ^ 31 by omega)]
    · unfold qf_Ref_number
      rw [ck hat (by decide), if_neg (by decide), if_pos (by decide), nI_clamp (show 40 * m + pos < 2 ^ 31 by omega), show (qp r 15 (upd (r 15) m (r 15 m + 1))) 13 (40 * m + pos) = nI q from h13, n7m, nI_add, show nI (7 * m + q) + 4 = nI (7 * m + q + 4) from nI_add (7 * m + q) 4, ck (show 7 * m + q + 4 < 14 by omega) (by decide), ck (show 7 * m + p + 4 < 14 by omega) (by decide), nI_clamp (show 7 * m + p + 4 < 2 ^ 31 by omega), nI_clamp (show 7 * m + q + 4 < 2 ^ 31 by omega)]
      show some (qp (qp r 15 (upd (r 15) m (r 15 m + 1))) 16 (upd (r 16) (7 * m + p + 4) (r 16 (7 * m + q + 4)))) = _
      rw [show 7 * m + q + 4 = 7 * m + 4 + q by omega, hU.2.1.2 q hq3]
  · obtain ⟨_, hq3, ht3⟩ := v12 rfl
    refine giveI (mu 4 q + mu 4 t) ?_ ?_
    · unfold qf_Mut_doWithInts
      rw [if_neg (by decide), if_neg (by decide), if_pos (by decide), ck hq3 (by decide), ck ht3 (by decide), ck hp3 (by decide), nI_clamp (show p < 2 ^ 31 by omega), nI_clamp (show q < 2 ^ 31 by omega), nI_clamp (show t < 2 ^ 31 by omega)]
    · unfold qf_Ref_number
      rw [ck hat (by decide), if_neg (by decide), if_neg (by decide), if_pos (by decide), ck hat (by decide), nI_clamp (show 40 * m + pos < 2 ^ 31 by omega), show (qp r 15 (upd (r 15) m (r 15 m + 1))) 13 (40 * m + pos) = nI q from h13, show (qp r 15 (upd (r 15) m (r 15 m + 1))) 14 (40 * m + pos) = nI t from h14, n7m, nI_add, show nI (7 * m + q) + 4 = nI (7 * m + q + 4) from nI_add (7 * m + q) 4, show nI (7 * m) + 4 = nI (7 * m + 4) from nI_add (7 * m) 4, nI_add, ck (show 7 * m + q + 4 < 14 by omega) (by decide), ck (show 7 * m + 4 + t < 14 by omega) (by decide), ck (show 7 * m + p + 4 < 14 by omega) (by decide), nI_clamp (show 7 * m + p + 4 < 2 ^ 31 by omega), nI_clamp (show 7 * m + q + 4 < 2 ^ 31 by omega), nI_clamp (show 7 * m + 4 + t < 2 ^ 31 by omega)]
      show some (qp (qp r 15 (upd (r 15) m (r 15 m + 1))) 16 (upd (r 16) (7 * m + p + 4) (r 16 (7 * m + q + 4) + r 16 (7 * m + 4 + t)))) = _
      rw [show 7 * m + q + 4 = 7 * m + 4 + q by omega, hU.2.1.2 q hq3, hU.2.1.2 t ht3]
  · have hD : ∀ w, qf_Mut_get (mu 3 q) (nI 2) 0 mu bu mem = some w → qf_Mut_doWithInts (nI 13) (nI p) (nI q) (nI t) mu bu ou mem = some (qp mu 4 (upd (mu 4) p w), ou) := fun w hw => by
      unfold qf_Mut_doWithInts
      rw [if_neg (by decide), if_neg (by decide), if_neg (by decide), if_pos (by decide), ck hq4 (by decide), nI_clamp (show q < 2 ^ 31 by omega)]
      show (qf_Mut_get (mu 3 q) (nI 2) 0 mu bu mem).bind _ = _
      rw [hw, Option.bind_some, ck hp3 (by decide), nI_clamp (show p < 2 ^ 31 by omega)]
    have hN : qf_Ref_number (nI m) (nI 13) (nI (7 * m + p + 4)) (nI (40 * m + pos)) (qp r 15 (upd (r 15) m (r 15 m + 1))) = if mu 3 q = -1 then some (qp (qp r 15 (upd (r 15) m (r 15 m + 1))) 16 (upd (r 16) (7 * m + p + 4) 0)) else (qf_Ref_sees (nI m) (mu 3 q) (nI 2) (qp r 15 (upd (r 15) m (r 15 m + 1)))).bind fun w => some (qp (qp r 15 (upd (r 15) m (r 15 m + 1))) 16 (upd (r 16) (7 * m + p + 4) w)) := by
      unfold qf_Ref_number qf_Ref_number_j143
      simp only [ck (show 7 * m + p + 4 < 14 by omega) (show 14 < 2 ^ 31 by decide)]
      rw [ck hat (by decide), if_neg (by decide), if_neg (by decide), if_neg (by decide), if_pos (by decide), nI_clamp (show 40 * m + pos < 2 ^ 31 by omega), show (qp r 15 (upd (r 15) m (r 15 m + 1))) 13 (40 * m + pos) = nI q from h13, n7m, nI_add, ck (show 7 * m + q < 14 by omega) (by decide), ck (show 7 * m + q < 14 by omega) (by decide), nI_clamp (show 7 * m + q < 2 ^ 31 by omega), show (qp r 15 (upd (r 15) m (r 15 m + 1))) 16 (7 * m + q) = mu 3 q from hvq.1, nI_clamp (show 7 * m + p + 4 < 2 ^ 31 by omega)]
      rfl
    rcases hvq.2 with ev | ⟨c, hcn, ev⟩
    · refine giveI 0 (hD 0 ?_) ?_
      · unfold qf_Mut_get
        rw [if_pos ev]
      · rw [hN, if_pos ev]
    · have hne : ¬ mu 3 q = -1 := by rw [ev]; exact nEqm1 (by omega)
      obtain ⟨w, w1, w2, w3⟩ := see_both (bu := bu) (f := 2) (r := qp r 15 (upd (r 15) m (r 15 m + 1))) hn hm hM hB hcn (by omega)
      refine giveI w (hD w ?_) ?_
      · unfold qf_Mut_get
        rw [if_neg hne, ev, w1]
        rfl
      · rw [hN, if_neg hne, ev, w2, Option.bind_some]
  · obtain ⟨ou', t23, t24, o1, o2, o3, o4, o5, o6⟩ := out_both (n := n) (p := p) (v := mu 4 p) hm hB30 hO
    have hD : qf_Mut_doWithInts (nI 14) (nI p) (nI q) (nI t) mu bu ou mem = some (mu, ou') := by
      unfold qf_Mut_doWithInts
      rw [if_neg (by decide), if_neg (by decide), if_neg (by decide), if_neg (by decide), if_pos (by decide), ck hp3 (by decide), nI_clamp (show p < 2 ^ 31 by omega), o1]
      rfl
    have hN : qf_Ref_number (nI m) (nI 14) (nI (7 * m + p + 4)) (nI (40 * m + pos)) (qp r 15 (upd (r 15) m (r 15 m + 1))) = some (qp (qp (qp r 15 (upd (r 15) m (r 15 m + 1))) 23 t23) 24 t24) := by
      unfold qf_Ref_number
      simp only [nI_clamp (show m < 2 ^ 31 by omega)]
      rw [ck hat (by decide), if_neg (by decide), if_neg (by decide), if_neg (by decide), if_neg (by decide), ckc hm (by decide), ck (show 7 * m + p + 4 < 14 by omega) (by decide)]
      rw [show (qp r 15 (upd (r 15) m (r 15 m + 1))) 23 m = r 23 m from rfl, o4, n16m, nI_add, ck (show 16 * m + (r 23 m).toNatClampNeg % 16 < 32 by omega) (by decide), ckc hm (by decide), ckc hm (by decide), nI_clamp (show 16 * m + (r 23 m).toNatClampNeg % 16 < 2 ^ 31 by omega), nI_clamp (show 7 * m + p + 4 < 2 ^ 31 by omega), o5, o6]
      show some (qp (qp (qp r 15 (upd (r 15) m (r 15 m + 1))) 23 (upd (r 23) m (r 23 m + 1))) 24 (upd (r 24) (16 * m + (r 23 m).toNatClampNeg % 16) (r 16 (7 * m + p + 4)))) = _
      rw [show 7 * m + p + 4 = 7 * m + 4 + p by omega, hU.2.1.2 p hp3]
    rw [hN, Option.bind_some] at eR
    rw [hD, Option.bind_some] at eC
    exact ⟨1, _, _, _, _, _, Or.inr rfl, eC, eR, hM, RMut_move hU hp hlt', hB, o2, fun m' hm' hne => ⟨fun _ hx => RMut_other (up_ne _ _ hne) rfl (fun _ _ h => h) hx, fun _ h => h, o3 m' hm' hne⟩, rfl, rfl, rfl, rfl, rfl, rfl⟩
