/-! ===== the pure part: loops in the text, the whole text ===== -/
theorem noloop_ref {t k : Nat} {src r : QS} (ht : t ≤ 60) (hk : k < t) (h : RTx t src r) (x0 : chA t src k 0 = 40 ∨ chA t src k 0 = 41) (hl : qf_Ref_loop (nI k) r = some (0, r)) : ∀ K, qf_Ref_read_B12 K (nI k) r = some (0, r) := by
  have hk9 : k < 100 := by omega
  intro K
  exact body_n hk ht h.2.1 hl (rf_cell (chA_lt h) (at_ref (i := 0) ht hk9 (by decide) h) (chA_lt h) (at_ref (i := 1) ht hk9 (by decide) h) (chA_lt h) (at_ref (i := 2) ht hk9 (by decide) h) (chA_lt h) (at_ref (i := 3) ht hk9 (by decide) h) (chA_lt h) (at_ref (i := 4) ht hk9 (by decide) h) (chA_lt h) (at_ref (i := 5) ht hk9 (by decide) h) (by omega) (by omega) (by omega) (by omega) (by omega) (by omega) (by omega) (by omega) (by omega) (by omega)) (rf_int (chA_lt h) (at_ref (i := 0) ht hk9 (by decide) h) (chA_lt h) (at_ref (i := 1) ht hk9 (by decide) h) (chA_lt h) (at_ref (i := 2) ht hk9 (by decide) h) (chA_lt h) (at_ref (i := 3) ht hk9 (by decide) h) (chA_lt h) (at_ref (i := 4) ht hk9 (by decide) h) (chA_lt h) (at_ref (i := 5) ht hk9 (by decide) h) (by omega) (by omega) (by omega) (by omega))
theorem item_open {t k cnt dep : Nat} {src r : QS} (ht : t ≤ 60) (hk : k < t) (h : RTx t src r) (hN : RNew cnt dep src r) (hb : 3 * cnt + dep ≤ 2 * k) (x0 : chA t src k 0 = 40) : Item t k cnt dep src r := by
  have e0 : src 0 k = nI (chA t src k 0) := chA_cl (i := 0) h hk
  have hk9 : k < 100 := by omega
  have l1 := chA_lt (k := k) (i := 1) h
  have a0 : qf_Ref_at (nI k) r = some (nI 40) := by rw [← x0]; exact at_ref (i := 0) ht hk9 (by decide) h
  have a1 := at_ref (i := 1) ht hk9 (by decide) h
  have v1 := cv_ref l1 a1
  obtain ⟨n1, n2, n3, n4, n5, n6, o, n7, n8⟩ := hN
  have hT : qf_Src_translateAt (nI k) src = (qf_Src_openLoop (nI (k + 1)) src).bind fun q9 => some (q9.1, q9.2) := by
    unfold qf_Src_translateAt
    rw [ck (show k < 60 by omega) (by decide), nI_clamp (by omega), e0, x0, if_pos (show nI 40 = 40 from rfl), nI_1]
  have j118 : qf_Ref_loop_j118 (nI k) r = some (0, r) := by
    unfold qf_Ref_loop_j118
    rw [a0, Option.bind_some, if_neg (by decide)]
  have hL : qf_Ref_loop (nI k) r = qf_Ref_loop_j49 (nI k) r := by
    unfold qf_Ref_loop
    rw [a0, Option.bind_some, if_neg (by decide)]
  by_cases hr : 97 ≤ chA t src k 1 ∧ chA t src k 1 ≤ 100
  · have hk1 : k + 1 < t := by
      by_cases h9 : k + 1 < t
      · exact h9
      · have := chA_out (src := src) (show t ≤ k + 1 by omega); omega
    have e1 := chA_cl h hk1
    have hfit : qf_Src_fits 82 (src 0 (k + 1)) = some 1 := by
      rw [e1]
      have := fits_cl (m := 82) (by decide) l1
      refine Eq.trans this ?_
      rw [show fitsB 82 (chA t src k 1) = true from by unfold fitsB; rw [if_pos rfl]; exact decide_eq_true hr, if_pos rfl]
    by_cases h6 : dep < 6
    · left
      have hc : cnt < 40 := by omega
      obtain ⟨src1, es⟩ : ∃ s, s = qp (qp src 5 (fun _ => nI (dep + 1))) 4 (upd (src 4) dep (nI cnt)) := ⟨_, rfl⟩
      obtain ⟨r1, er⟩ : ∃ s, s = qp (qp r 9 (fun _ => nI (dep + 1))) 8 (upd (r 8) dep (nI cnt)) := ⟨_, rfl⟩
      have sg : ∀ g, g ≠ 4 → g ≠ 5 → src1 g = src g := fun g a b => by rw [es, qp_ne _ _ a, qp_ne _ _ b]
      have rg : ∀ g, g ≠ 8 → g ≠ 9 → r1 g = r g := fun g a b => by rw [er, qp_ne _ _ a, qp_ne _ _ b]
      have s4 : src1 4 = upd (src 4) dep (nI cnt) := by rw [es, qp_eq]
      have s5 : src1 5 = fun _ => nI (dep + 1) := by rw [es, qp_ne _ _ (by decide), qp_eq]
      have r8 : r1 8 = upd (r 8) dep (nI cnt) := by rw [er, qp_eq]
      have r9 : r1 9 = fun _ => nI (dep + 1) := by rw [er, qp_ne _ _ (by decide), qp_eq]
      have h' : RTx t src r1 := RTx_to h rfl rfl (rg 1 (by decide) (by decide)) (rg 2 (by decide) (by decide))
      have v1' := cv_ref l1 (at_ref (i := 1) ht hk9 (by decide) h')
      have hcv : cvI (chA t src k 1) = nI (chA t src k 1 - 97) := if_pos hr
      obtain ⟨p, hp⟩ : ∃ p, p = chA t src k 1 - 97 := ⟨_, rfl⟩
      have hv : VI (cnt + 1) 15 p 0 0 := by unfold VI; omega
      refine ⟨2, cnt + 1, dep + 1, emS src1 cnt (nI (15 + 16 * p + 64 * 0 + 256 * 0)), addS r1 cnt (nI 15) (nI p) (nI 0) (nI 0), by decide, by decide, by omega, by omega, ?_, ?_, ?_, ?_, fun g hg => ?_⟩
      · rw [hT]
        unfold qf_Src_openLoop
        rw [n3, n1, h.1, if_neg (show ¬ (6 : Int32) ≤ nI dep from nI_ge (a := dep) (b := 6) h6 (by decide)), if_neg (nI_ge hk1 (by omega)), ck (show k + 1 < 60 by omega) (by decide), nI_clamp (show k + 1 < 2 ^ 31 by omega), hfit, Option.bind_some, if_neg (show ¬ (1 : Int32) = 0 by decide), ck (show dep < 6 from h6) (by decide), ckc (show k + 1 < 60 by omega) (by decide), e1, number_of (by omega) l1, Option.bind_some, numR hr, n16m, ← hp, nI_1, nI_clamp (show dep < 2 ^ 31 by omega), ← es, show (15 : Int32) + nI (16 * p) = nI (15 + 16 * p) from nI_add 15 (16 * p), emit_cl (show cnt < 60 by omega) (by rw [sg 3 (by decide) (by decide)]; exact n1), Option.bind_some, Option.bind_some]
        rfl
      · intro K
        refine body_l (n := 2) hk ht h.2.1 (by decide) (by decide) ?_
        rw [hL]
        unfold qf_Ref_loop_j49
        rw [a0, Option.bind_some, if_pos (by decide), nI_1, v1, Option.bind_some, if_neg (by rw [hcv]; exact nI_pos (by omega)), n4, n2, if_neg (show ¬ (6 : Int32) ≤ nI dep from nI_ge (a := dep) (b := 6) h6 (by decide)), ck (show dep < 6 from h6) (by decide), nI_1, nI_clamp (show dep < 2 ^ 31 by omega), ← er, v1', Option.bind_some, hcv, ← hp, add_ref hc (by rw [rg 7 (by decide) (by decide)]; exact n2), Option.bind_some]
        rfl
      · exact RTx_to h (by rw [emS_g _ _ _ (by decide) (by decide)]; exact sg 0 (by decide) (by decide)) (by rw [emS_g _ _ _ (by decide) (by decide)]; exact sg 1 (by decide) (by decide)) (by rw [addS_g _ _ _ _ _ _ (by omega)]; exact rg 1 (by decide) (by decide)) (by rw [addS_g _ _ _ _ _ _ (by omega)]; exact rg 2 (by decide) (by decide))
      · have ent : ∀ j, j < cnt → REnt cnt src1 r1 j := fun j hj => by
          have := n6 j hj
          unfold REnt at this ⊢
          rw [sg 2 (by decide) (by decide), rg 3 (by decide) (by decide), rg 4 (by decide) (by decide), rg 5 (by decide) (by decide), rg 6 (by decide) (by decide)]
          exact this
        refine ⟨by rw [emS_3], by rw [addS_7], by rw [emS_g _ _ _ (by decide) (by decide), s5], by rw [addS_g _ _ _ _ _ _ (by omega), r9], by omega, fun j hj => ?_, fun d => if d = dep then cnt else o d, fun d hd => ?_, fun d e hde he => ?_⟩
        · by_cases e : j = cnt
          · rw [e]; exact REnt_new hv
          · exact REnt_old (by omega) (ent j (by omega))
        · by_cases e : d = dep
          · subst e
            show (if d = d then cnt else o d) < cnt + 1 ∧ _
            rw [if_pos rfl]
            refine ⟨by omega, ?_, ?_, p, by omega, ?_, ?_, ?_, ?_, ?_⟩
            · rw [emS_g _ _ _ (by decide) (by decide), s4, up_eq]; exact congrArg nI (if_pos rfl).symm
            · rw [addS_g _ _ _ _ _ _ (by omega), r8, up_eq]; exact congrArg nI (if_pos rfl).symm
            · show emS src1 cnt _ 2 (if d = d then cnt else o d) = _
              rw [if_pos rfl, emS_2, up_eq]
              exact congrArg nI (by omega)
            · show addS r1 cnt _ _ _ _ 3 (if d = d then cnt else o d) = _
              rw [if_pos rfl, addS_3, up_eq]
            · show addS r1 cnt _ _ _ _ 4 (if d = d then cnt else o d) = _
              rw [if_pos rfl, addS_4, up_eq]
            · show addS r1 cnt _ _ _ _ 5 (if d = d then cnt else o d) = _
              rw [if_pos rfl, addS_5, up_eq]
            · show addS r1 cnt _ _ _ _ 6 (if d = d then cnt else o d) = _
              rw [if_pos rfl, addS_6, up_eq]
          · obtain ⟨b1, b2, b3, b4⟩ := n7 d (by omega)
            have b5 : ROpn src1 r1 (o d) := by
              unfold ROpn at b4 ⊢
              rw [sg 2 (by decide) (by decide), rg 3 (by decide) (by decide), rg 4 (by decide) (by decide), rg 5 (by decide) (by decide), rg 6 (by decide) (by decide)]
              exact b4
            have eo : (fun d => if d = dep then cnt else o d) d = o d := if_neg e
            rw [eo]
            exact ⟨by omega, by rw [emS_g _ _ _ (by decide) (by decide), s4, up_ne _ _ e]; exact b2, by rw [addS_g _ _ _ _ _ _ (by omega), r8, up_ne _ _ e]; exact b3, ROpn_old b1 b5⟩
        · show (if d = dep then cnt else o d) < (if e = dep then cnt else o e)
          rw [if_neg (show ¬ d = dep by omega)]
          by_cases ee : e = dep
          · rw [if_pos ee]; exact (n7 d (by omega)).1
          · rw [if_neg ee]; exact n8 d e hde (by omega)
      · rw [addS_g _ _ _ _ _ _ (by omega)]; exact rg g (by omega) (by omega)
    · right
      refine ⟨?_, noloop_ref ht hk h (Or.inl x0) ?_⟩
      · rw [hT]
        unfold qf_Src_openLoop
        rw [n3, if_pos (show (6 : Int32) ≤ nI dep from nI_le (a := 6) (by omega) (by omega)), Option.bind_some]
      · rw [hL]
        unfold qf_Ref_loop_j49
        rw [a0, Option.bind_some, if_pos (by decide), nI_1, v1, Option.bind_some, if_neg (by rw [show cvI (chA t src k 1) = nI (chA t src k 1 - 97) from if_pos hr]; exact nI_pos (by omega)), n4, if_pos (show (6 : Int32) ≤ nI dep from nI_le (a := 6) (by omega) (by omega)), j118]
  · right
    refine ⟨?_, noloop_ref ht hk h (Or.inl x0) ?_⟩
    · rw [hT]
      unfold qf_Src_openLoop
      rw [n3, h.1]
      by_cases h6 : dep < 6
      · rw [if_neg (show ¬ (6 : Int32) ≤ nI dep from nI_ge (a := dep) (b := 6) h6 (by decide))]
        by_cases hk1 : k + 1 < t
        · have e1 := chA_cl h hk1
          have hfit : qf_Src_fits 82 (src 0 (k + 1)) = some 0 := by
            rw [e1]
            have := fits_cl (m := 82) (by decide) l1
            refine Eq.trans this ?_
            rw [show fitsB 82 (chA t src k 1) = false from by unfold fitsB; rw [if_pos rfl]; exact decide_eq_false hr, if_neg (by decide)]
          rw [if_neg (nI_ge hk1 (by omega)), ck (show k + 1 < 60 by omega) (by decide), nI_clamp (show k + 1 < 2 ^ 31 by omega), hfit, Option.bind_some, if_pos rfl, Option.bind_some]
        · rw [if_pos (nI_le (by omega) (by omega)), Option.bind_some]
      · rw [if_pos (show (6 : Int32) ≤ nI dep from nI_le (a := 6) (by omega) (by omega)), Option.bind_some]
    · rw [hL]
      unfold qf_Ref_loop_j49
      rw [a0, Option.bind_some, if_pos (by decide), nI_1, v1, Option.bind_some, if_pos (by rw [show cvI (chA t src k 1) = -1 from if_neg hr]; decide), j118]
