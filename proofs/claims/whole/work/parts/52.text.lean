/-! ===== the pure part: the end of a loop, the whole text ===== -/
theorem item_close {t k cnt dep : Nat} {src r : QS} (ht : t ≤ 60) (hk : k < t) (h : RTx t src r) (hN : RNew cnt dep src r) (hb : 3 * cnt + dep ≤ 2 * k) (x0 : chA t src k 0 = 41) : Item t k cnt dep src r := by
  have e0 : src 0 k = nI (chA t src k 0) := chA_cl (i := 0) h hk
  have hk9 : k < 100 := by omega
  have a0 : qf_Ref_at (nI k) r = some (nI 41) := by rw [← x0]; exact at_ref (i := 0) ht hk9 (by decide) h
  obtain ⟨n1, n2, n3, n4, n5, n6, o, n7, n8⟩ := hN
  have hT : qf_Src_translateAt (nI k) src = (qf_Src_closeLoop src).bind fun q9 => some (q9.1, q9.2) := by
    unfold qf_Src_translateAt
    rw [ck (show k < 60 by omega) (by decide), ck (show k < 60 by omega) (by decide), nI_clamp (by omega), e0, x0, if_neg (show ¬ nI 41 = 40 by decide), if_pos (show nI 41 = 41 from rfl)]
  have hL : qf_Ref_loop (nI k) r = qf_Ref_loop_j118 (nI k) r := by
    unfold qf_Ref_loop qf_Ref_loop_j49
    rw [a0, Option.bind_some, if_neg (by decide), Option.bind_some, if_neg (by decide)]
  cases dep with
  | zero =>
    right
    refine ⟨?_, noloop_ref ht hk h (Or.inr x0) ?_⟩
    · rw [hT]
      unfold qf_Src_closeLoop
      rw [n3, if_pos (by decide), Option.bind_some]
    · rw [hL]
      unfold qf_Ref_loop_j118
      rw [a0, Option.bind_some, if_pos (by decide), n4, if_pos (by decide)]
  | succ d =>
    left
    have hc : cnt < 40 := by omega
    obtain ⟨b1, b2, b3, p, hp, b4, b5, b6, b7, b8⟩ := n7 d (by omega)
    obtain ⟨u, hu⟩ : ∃ u, u = o d := ⟨_, rfl⟩
    rw [← hu] at b1 b2 b3 b4 b5 b6 b7 b8
    have hd1 : nI (d + 1) - 1 = nI d := pk_sub (a := d + 1) (b := 1) (by omega)
    have hd0 : ¬ nI (d + 1) = 0 := nI_ne0 (by omega) (by omega)
    obtain ⟨src1, es⟩ : ∃ s, s = qp src 5 (fun _ => nI d) := ⟨_, rfl⟩
    obtain ⟨r1, er⟩ : ∃ s, s = qp (qp r 9 (fun _ => nI d)) 6 (upd (r 6) u (nI cnt)) := ⟨_, rfl⟩
    have sg : ∀ g, g ≠ 5 → src1 g = src g := fun g a => by rw [es, qp_ne _ _ a]
    have rg : ∀ g, g ≠ 6 → g ≠ 9 → r1 g = r g := fun g a b => by rw [er, qp_ne _ _ a, qp_ne _ _ b]
    have s5 : src1 5 = fun _ => nI d := by rw [es, qp_eq]
    have r6 : r1 6 = upd (r 6) u (nI cnt) := by rw [er, qp_eq]
    have r9 : r1 9 = fun _ => nI d := by rw [er, qp_ne _ _ (by decide), qp_eq]
    obtain ⟨S, eS⟩ : ∃ s, s = emS src1 cnt (nI (15 + 16 * p + 64 * 1 + 256 * u)) := ⟨_, rfl⟩
    obtain ⟨S', eS'⟩ : ∃ s, s = qp S 2 (upd (S 2) u (nI (15 + 16 * p + 64 * 0 + 256 * cnt))) := ⟨_, rfl⟩
    obtain ⟨R, eR⟩ : ∃ s, s = addS r1 cnt (nI 15) (nI p) (nI 1) (nI u) := ⟨_, rfl⟩
    have Sg : ∀ g, g ≠ 2 → g ≠ 3 → g ≠ 5 → S' g = src g := fun g a b c => by rw [eS', qp_ne _ _ a, eS, emS_g _ _ _ a b, sg g c]
    have Rg : ∀ g, (g < 3 ∨ 10 ≤ g ∨ g = 8) → R g = r g := fun g hg => by rw [eR, addS_g _ _ _ _ _ _ (by omega), rg g (by omega) (by omega)]
    have S2 : S 2 = upd (src 2) cnt (nI (15 + 16 * p + 64 * 1 + 256 * u)) := by rw [eS, emS_2, sg 2 (by decide)]
    have S2' : S' 2 = upd (upd (src 2) cnt (nI (15 + 16 * p + 64 * 1 + 256 * u))) u (nI (15 + 16 * p + 64 * 0 + 256 * cnt)) := by rw [eS', qp_eq, S2]
    have R3 : R 3 = upd (r 3) cnt (nI 15) := by rw [eR, addS_3, rg 3 (by decide) (by decide)]
    have R4 : R 4 = upd (r 4) cnt (nI p) := by rw [eR, addS_4, rg 4 (by decide) (by decide)]
    have R5 : R 5 = upd (r 5) cnt (nI 1) := by rw [eR, addS_5, rg 5 (by decide) (by decide)]
    have R6 : R 6 = upd (upd (r 6) u (nI cnt)) cnt (nI u) := by rw [eR, addS_6, r6]
    refine ⟨1, cnt + 1, d, S', R, by decide, by decide, by omega, by omega, ?_, ?_, ?_, ?_, fun g hg => Rg g (by omega)⟩
    · rw [hT]
      unfold qf_Src_closeLoop
      have hw : nI (15 + 16 * p) + 64 + 256 * nI u = nI (15 + 16 * p + 64 * 1 + 256 * u) := by
        rw [n256m, show nI (15 + 16 * p) + 64 = nI (15 + 16 * p + 64) from nI_add _ 64, nI_add]
      have hSu : S 2 u = nI (15 + 16 * p) := by rw [S2, up_ne _ _ (by omega)]; exact b4
      have hw2 : nI (15 + 16 * p) + 256 * nI cnt = nI (15 + 16 * p + 64 * 0 + 256 * cnt) := by
        rw [n256m, nI_add]; exact congrArg nI (by omega)
      rw [n3, if_neg hd0, hd1, ck (show d < 6 by omega) (by decide), nI_clamp (show d < 2 ^ 31 by omega), b2, ck (show u < 60 by omega) (by decide), nI_clamp (show u < 2 ^ 31 by omega), b4, hw, ← es, emit_cl (show cnt < 60 by omega) (by rw [sg 3 (by decide)]; exact n1), ← eS, Option.bind_some, ckc (show u < 60 by omega) (by decide), ckc (show u < 60 by omega) (by decide), hSu, n1, hw2, ← eS', Option.bind_some]
      rfl
    · intro K
      refine body_l (n := 1) hk ht h.2.1 (by decide) (by decide) ?_
      rw [hL]
      unfold qf_Ref_loop_j118
      rw [a0, Option.bind_some, if_pos (by decide), n4, if_neg hd0, hd1, ck (show d < 6 by omega) (by decide), nI_clamp (show d < 2 ^ 31 by omega), b3, ck (show u < 40 by omega) (by decide), ck (show u < 40 by omega) (by decide), nI_clamp (show u < 2 ^ 31 by omega), b6, n2, ← er]
      have ha := add_ref hc (show r1 7 0 = nI cnt by rw [rg 7 (by decide) (by decide)]; exact n2) (nI 15) (nI p) (nI 1) (nI u)
      show (qf_Ref_add (nI 15) (nI p) (nI 1) (nI u) r1).bind _ = _
      rw [ha, Option.bind_some, ← eR]
      rfl
    · exact RTx_to h (Sg 0 (by decide) (by decide) (by decide)) (Sg 1 (by decide) (by decide) (by decide)) (Rg 1 (by omega)) (Rg 2 (by omega))
    · refine ⟨?_, ?_, ?_, ?_, by omega, fun j hj => ?_, o, fun e he => ?_, fun x y hxy hy => n8 x y hxy (by omega)⟩
      · rw [eS', qp_ne _ _ (by decide), eS, emS_3]
      · rw [eR, addS_7]
      · rw [eS', qp_ne _ _ (by decide), eS, emS_g _ _ _ (by decide) (by decide), s5]
      · rw [eR, addS_g _ _ _ _ _ _ (by omega), r9]
      · by_cases e : j = cnt
        · refine ⟨15, p, 1, u, by unfold VI; omega, ?_, ?_, ?_, ?_, ?_⟩
          · rw [S2', e, up_ne _ _ (by omega), up_eq]
          · rw [R3, e, up_eq]
          · rw [R4, e, up_eq]
          · rw [R5, e, up_eq]
          · rw [R6, e, up_eq]
        · by_cases e2 : j = u
          · refine ⟨15, p, 0, cnt, by unfold VI; omega, ?_, ?_, ?_, ?_, ?_⟩
            · rw [S2', e2, up_eq]
            · rw [R3, up_ne _ _ e, e2]; exact b5
            · rw [R4, up_ne _ _ e, e2]; exact b6
            · rw [R5, up_ne _ _ e, e2]; exact b7
            · rw [R6, up_ne _ _ e, e2, up_eq]
          · obtain ⟨kd, p', q', x', c1, c2, c3, c4, c5, c6⟩ := n6 j (by omega)
            refine ⟨kd, p', q', x', VI_up (by omega) c1, ?_, ?_, ?_, ?_, ?_⟩
            · rw [S2', up_ne _ _ e2, up_ne _ _ e]; exact c2
            · rw [R3, up_ne _ _ e]; exact c3
            · rw [R4, up_ne _ _ e]; exact c4
            · rw [R5, up_ne _ _ e]; exact c5
            · rw [R6, up_ne _ _ e, up_ne _ _ e2]; exact c6
      · obtain ⟨c1, c2, c3, p', hp', c4, c5, c6, c7, c8⟩ := n7 e (by omega)
        have hlt := n8 e d he (by omega)
        have x1 : o e ≠ u := by omega
        have x2 : o e ≠ cnt := by omega
        refine ⟨by omega, by rw [Sg 4 (by decide) (by decide) (by decide)]; exact c2, by rw [Rg 8 (by omega)]; exact c3, p', hp', ?_, ?_, ?_, ?_, ?_⟩
        · rw [S2', up_ne _ _ x1, up_ne _ _ x2]; exact c4
        · rw [R3, up_ne _ _ x2]; exact c5
        · rw [R4, up_ne _ _ x2]; exact c6
        · rw [R5, up_ne _ _ x2]; exact c7
        · rw [R6, up_ne _ _ x2, up_ne _ _ x1]; exact c8
theorem item_any {t k cnt dep : Nat} {src r : QS} (ht : t ≤ 60) (hk : k < t) (h : RTx t src r) (hN : RNew cnt dep src r) (hb : 3 * cnt + dep ≤ 2 * k) : Item t k cnt dep src r := by
  by_cases x0 : chA t src k 0 = 40
  · exact item_open ht hk h hN hb x0
  · by_cases x1 : chA t src k 0 = 41
    · exact item_close ht hk h hN hb x1
    · exact item_stm ht hk h hN hb x0 x1
theorem tr_s (N : Nat) (x : Int32) (s : QS) : qfix qf_Src_translate_F12 (N + 1) (x, s) = if (s 1 0) ≤ x then (if (s 5 0) = 0 then (some (1, s)) else (some (0, s))) else ((qf_Src_translateAt x s).bind fun q1 => (if 1 ≤ q1.1 then (qfix qf_Src_translate_F12 N ((x + q1.1), q1.2)) else (some (0, q1.2)))) := rfl
theorem text_lp {t : Nat} (ht : t ≤ 60) : ∀ (d k cnt dep N N' : Nat) (src r : QS), k + d = t → d < N → d < N' → RTx t src r → RNew cnt dep src r → 3 * cnt + dep ≤ 2 * k → ∃ a src' r' cnt' dep', qfix qf_Src_translate_F12 N (nI k, src) = some (a, src') ∧ qfix qf_Ref_read_F12 N' (nI k, r) = some (a, r') ∧ (a = 0 ∨ a = 1) ∧ RTx t src' r' ∧ RNew cnt' dep' src' r' ∧ cnt' ≤ 40 ∧ ∀ g, (g < 3 ∨ 10 ≤ g) → r' g = r g := by
  intro d
  induction d using Nat.strongRecOn with
  | _ d ih =>
    intro k cnt dep N N' src r hk hN hN' hT hR hb
    obtain ⟨N, rfl⟩ : ∃ M, N = M + 1 := ⟨N - 1, by omega⟩
    obtain ⟨N', rfl⟩ : ∃ M, N' = M + 1 := ⟨N' - 1, by omega⟩
    by_cases h9 : k < t
    · rcases item_any ht h9 hT hR hb with ⟨n, cnt', dep', src', r', b1, b2, b3, b4, b5, b6, b7, b8, b9⟩ | ⟨c1, c2⟩
      · obtain ⟨a, src2, r2, cnt2, dep2, e1, e2, e3, e4, e5, e6, e7⟩ := ih (d - n) (by omega) (k + n) cnt' dep' N N' src' r' (by omega) (by omega) (by omega) b7 b8 b4
        refine ⟨a, src2, r2, cnt2, dep2, ?_, ?_, e3, e4, e5, e6, fun g hg => by rw [e7 g hg, b9 g hg]⟩
        · rw [tr_s, hT.1, if_neg (nI_ge h9 (by omega)), b5, Option.bind_some]
          show (if 1 ≤ nI n then qfix qf_Src_translate_F12 N (nI k + nI n, src') else _) = _
          rw [if_pos (show (1 : Int32) ≤ nI n from nI_le (a := 1) b1 (by omega)), nI_add]
          exact e1
        · rw [body_s, b6]
          exact e2
      · refine ⟨0, src, r, cnt, dep, ?_, ?_, Or.inl rfl, hT, hR, by omega, fun _ _ => rfl⟩
        · rw [tr_s, hT.1, if_neg (nI_ge h9 (by omega)), c1, Option.bind_some]
          show (if (1 : Int32) ≤ 0 then _ else _) = _
          rw [if_neg (by decide)]
        · rw [body_s, c2]
    · have hd := hR.2.2.1
      have hd' := hR.2.2.2.1
      have e1 : qfix qf_Src_translate_F12 (N + 1) (nI k, src) = if nI dep = 0 then some (1, src) else some (0, src) := by
        rw [tr_s, hT.1, if_pos (nI_le (by omega) (by omega)), hd]
      have e2 : qfix qf_Ref_read_F12 (N' + 1) (nI k, r) = if nI dep = 0 then some (1, r) else some (0, r) := by
        rw [body_s]
        unfold qf_Ref_read_B12
        rw [hT.2.1, if_pos (nI_le (by omega) (by omega)), hd']
      rw [e1, e2]
      by_cases h0 : nI dep = 0
      · exact ⟨1, src, r, cnt, dep, by rw [if_pos h0], by rw [if_pos h0], Or.inr rfl, hT, hR, by omega, fun _ _ => rfl⟩
      · exact ⟨0, src, r, cnt, dep, by rw [if_neg h0], by rw [if_neg h0], Or.inl rfl, hT, hR, by omega, fun _ _ => rfl⟩
