/-! ===== the pure part: the collector ===== -/
def askF (ph : Nat) : Int32 := if 1 ≤ ph ∧ ph ≤ 3 then nI ph else if ph = 6 then 0 else -1
theorem ask_both {n ph : Nat} {col r : QS} (hp : ph ≤ 6) (h1 : col 0 0 = nI ph) (h2 : r 27 0 = nI ph) : qf_Col_asked col = some (askF ph) ∧ qf_Ref_asked r = some (askF ph) := by
  unfold qf_Col_asked qf_Ref_asked qf_Col_asked_j21 qf_Ref_asked_j23
  rw [h1, h2]
  have hs : ph = 0 ∨ ph = 1 ∨ ph = 2 ∨ ph = 3 ∨ ph = 4 ∨ ph = 5 ∨ ph = 6 := by omega
  rcases hs with rfl | rfl | rfl | rfl | rfl | rfl | rfl <;> exact ⟨by decide, by decide⟩
theorem askF_cases {ph : Nat} (hp : ph ≤ 6) : (askF ph = -1 ∧ (ph = 0 ∨ ph = 4 ∨ ph = 5)) ∨ ∃ s, s ≤ 3 ∧ askF ph = nI s ∧ ((ph = 6 ∧ s = 0) ∨ (ph = s ∧ 1 ≤ s)) := by
  have hs : ph = 0 ∨ ph = 1 ∨ ph = 2 ∨ ph = 3 ∨ ph = 4 ∨ ph = 5 ∨ ph = 6 := by omega
  rcases hs with rfl | rfl | rfl | rfl | rfl | rfl | rfl
  · exact Or.inl ⟨by decide, by omega⟩
  · exact Or.inr ⟨1, by omega, by decide, by omega⟩
  · exact Or.inr ⟨2, by omega, by decide, by omega⟩
  · exact Or.inr ⟨3, by omega, by decide, by omega⟩
  · exact Or.inl ⟨by decide, by omega⟩
  · exact Or.inl ⟨by decide, by omega⟩
  · exact Or.inr ⟨0, by omega, by decide, by omega⟩
/-- an answer on both sides -/
theorem answer_both {n m st ph : Nat} {mu bu mem r : QS} (hn : n ≤ 11) (hm : m < 2) (hM : RMem n mem (r 0) (r 25) (r 26)) (hB : RBuf n m bu (r 19) (r 20) (r 21) (r 22)) (hV : RVar n m (mu 3) (mu 4) (r 16)) (hst3 : st ≤ 3) (hst : mu 5 0 = nI st) (hst' : r 17 m = nI st) (hph : ph ≤ 6) (hr : r 27 0 = nI ph) :
    (qf_Mut_answer (askF ph) mu bu mem = some (0, mu, bu, mem) ∧ qf_Ref_answer (nI m) r = some (0, r)) ∨
    ∃ (s : Nat) (bu' mem' R : QS), s ≤ 3 ∧ qf_Mut_answer (askF ph) mu bu mem = some (1, qp mu 5 (fun _ => nI s), bu', mem') ∧ qf_Ref_answer (nI m) r = some (1, R) ∧ R 17 = upd (r 17) m (nI s) ∧ (∀ g, g ≠ 17 → g ≠ 19 → g ≠ 20 → g ≠ 21 → g ≠ 22 → g ≠ 25 → g ≠ 26 → R g = r g) ∧ RMem n mem' (r 0) (R 25) (R 26) ∧ RBuf n m bu' (R 19) (R 20) (R 21) (R 22) ∧ ∀ m', m' < 2 → m' ≠ m → ∀ bx, RBuf n m' bx (r 19) (r 20) (r 21) (r 22) → RBuf n m' bx (R 19) (R 20) (R 21) (R 22) := by
  have hask := (ask_both (n := n) (col := fun _ _ => nI ph) hph rfl hr).2
  rcases askF_cases hph with ⟨ea, _⟩ | ⟨s, hs3, ea, _⟩
  · refine Or.inl ⟨?_, ?_⟩
    · unfold qf_Mut_answer
      rw [ea, if_pos rfl]
    · unfold qf_Ref_answer
      rw [hask, ea, Option.bind_some, if_pos (by decide)]
  · rw [ea]
    have hne := nEqm1 (show s < 2 ^ 31 by omega)
    by_cases hss : s = st
    · subst hss
      refine Or.inl ⟨?_, ?_⟩
      · unfold qf_Mut_answer
        rw [if_neg hne, if_pos hst.symm]
      · unfold qf_Ref_answer
        rw [hask, ea, Option.bind_some, if_neg (nI_pos (by omega)), ck hm (by decide), nI_clamp (show m < 2 ^ 31 by omega), if_pos hst']
    · have hne2 : ¬ nI s = nI st := fun e => hss ((nI_eq (by omega) (by omega)).mp e)
      obtain ⟨b, hb3, hb, hb', hk⟩ := hB
      have hk1 : ∀ k, k < b → ∃ c f, c < n ∧ f < 3 ∧ bu 0 k = nI c ∧ bu 1 k = nI f := fun k h => by
        obtain ⟨c, f, a1, a2, a3, a4, a5, a6, a7, a8⟩ := hk k h
        exact ⟨c, f, a1, a2, a3, a5⟩
      have hk2 : ∀ k, k < b → ∃ c f, c < n ∧ f < 3 ∧ bu 0 k = nI c ∧ bu 1 k = nI f ∧ (f < 2 → Ptr n (bu 2 k)) := fun k h => by
        obtain ⟨c, f, a1, a2, a3, a4, a5, a6, a7, a8⟩ := hk k h
        exact ⟨c, f, a1, a2, a3, a5, a8⟩
      have hM2 := RMem_puts hn hM hk2 b (Nat.le_refl _)
      obtain ⟨S', s1, s2, s3, s4, s5⟩ := ans_lp (a := nI s) (bu := bu) (r26 := r 26) hn hm hb3 hk1 3 0 qN r (by omega) (by unfold qN; omega) (by rw [Nat.sub_zero]; exact hb') (fun k h => by
        obtain ⟨c, f, a1, a2, a3, a4, a5, a6, a7, a8⟩ := hk k (by omega)
        rw [Nat.zero_add]
        exact ⟨a4.trans a3.symm, a6.trans a5.symm, a7⟩) (by rw [if_pos (Nat.zero_le _)]; rfl)
      have e25 : S' 25 = r 25 := s4 25 (by decide) (by decide) (by decide) (by decide) (by decide)
      have e16 : S' 16 = r 16 := s4 16 (by decide) (by decide) (by decide) (by decide) (by decide)
      have e17 : S' 17 = r 17 := s4 17 (by decide) (by decide) (by decide) (by decide) (by decide)
      have hother : ∀ m', m' < 2 → m' ≠ m → ∀ bx, RBuf n m' bx (r 19) (r 20) (r 21) (r 22) → RBuf n m' bx (S' 19) (S' 20) (S' 21) (S' 22) := fun m' hm' hne' bx hx => by
        obtain ⟨w1, w2⟩ := s5 m' hm' hne'
        exact RBuf_congr w1 (fun k h => (w2 k h).1) (fun k h => (w2 k h).2.1) (fun k h => (w2 k h).2.2) hx
      have hself : RBuf n m (qp bu 3 (fun _ => 0)) (S' 19) (S' 20) (S' 21) (S' 22) := ⟨0, by omega, rfl, s2, fun k h => by omega⟩
      have hans : qf_Ref_answer (nI m) r = qfix qf_Ref_answer_F50 qN (nI m, nI s, 0, qp S' 17 (upd (S' 17) m (nI s))) := by
        unfold qf_Ref_answer
        rw [hask, ea, Option.bind_some, if_neg (nI_pos (by omega)), ck hm (by decide), nI_clamp (show m < 2 ^ 31 by omega), if_neg (show ¬ r 17 m = nI s by rw [hst']; exact fun e => hne2 e.symm)]
        exact s1
      have hcls : ∀ x, (nI s = 3 → qfix qf_Mut_answer_F35 qN (0, qp mu 5 (fun _ => nI s), qp bu 3 (fun _ => 0), qp mem 2 (putsF (mem 2) bu b)) = some x) → (¬ nI s = 3 → some (1, qp mu 5 (fun _ => nI s), qp bu 3 (fun _ => 0), qp mem 2 (putsF (mem 2) bu b)) = some x) → qf_Mut_answer (nI s) mu bu mem = some x := fun x h1 h2 => by
        unfold qf_Mut_answer
        rw [if_neg hne, if_neg (show ¬ nI s = mu 5 0 by rw [hst]; exact hne2), pb_passAll hn hM.1 hb3 hb hk1, Option.bind_some]
        by_cases h3 : nI s = 3
        · rw [if_pos h3]; exact h1 h3
        · rw [if_neg h3]; exact h2 h3
      by_cases h3 : s = 3
      · subst h3
        have hv1 : ∀ k, k < 4 → Ptr n ((qp mu 5 (fun _ => nI 3)) 3 k) := fun k h => (hV.1 k h).2
        have hv2 : ∀ k, k < 4 → Ptr n ((qp S' 17 (upd (S' 17) m (nI 3))) 16 (7 * m + k)) := fun k h => by
          show Ptr n (S' 16 (7 * m + k))
          rw [e16, (hV.1 k h).1]
          exact (hV.1 k h).2
        have m1 := marks_lp (mu := qp mu 5 (fun _ => nI 3)) (bu := qp bu 3 (fun _ => 0)) (mem := qp mem 2 (putsF (mem 2) bu b)) hn hM2.1 hv1 4 0 qN (by omega) (by unfold qN; omega)
        have m2 := rmarks_lp (S := qp S' 17 (upd (S' 17) m (nI 3))) hn hm hv2 4 0 qN (by omega) (by unfold qN; omega)
        rw [show qp (qp mem 2 (putsF (mem 2) bu b)) 1 (marksF ((qp mem 2 (putsF (mem 2) bu b)) 1) ((qp mu 5 (fun _ => nI 3)) 3) 0) = qp mem 2 (putsF (mem 2) bu b) from qp_self _ 1] at m1
        rw [show qp (qp S' 17 (upd (S' 17) m (nI 3))) 25 (marksF ((qp S' 17 (upd (S' 17) m (nI 3))) 25) (fun k => (qp S' 17 (upd (S' 17) m (nI 3))) 16 (7 * m + k)) 0) = qp S' 17 (upd (S' 17) m (nI 3)) from qp_self _ 25] at m2
        refine Or.inr ⟨3, qp bu 3 (fun _ => 0), _, _, by omega, hcls _ (fun _ => m1) (fun h => absurd rfl h), hans.trans m2, ?_, fun g g1 g2 g3 g4 g5 g6 g7 => ?_, ?_, hself, hother⟩
        · show upd (S' 17) m (nI 3) = _
          rw [e17]
        · rw [qp_ne _ _ g6, qp_ne _ _ g1]
          exact s4 g g2 g7 g3 g4 g5
        · refine ⟨hM2.1, hM2.2.1, ?_, ?_, hM2.2.2.2.2⟩
          · show ∀ c, c < n → marksF (S' 25) (fun k => S' 16 (7 * m + k)) 4 c = marksF (mem 1) (mu 3) 4 c
            rw [e25, e16]
            exact marks_congr hn (fun k h => (hV.1 k h).2) (fun k h => (hV.1 k h).1) hM.2.2.1 4 (Nat.le_refl _)
          · show ∀ j, j < 3 * n → S' 26 j = putsF (mem 2) bu b j
            rw [s3]
            exact hM2.2.2.2.1
      · have hn3 : ¬ nI s = 3 := fun e => h3 ((nI_eq (a := s) (b := 3) (by omega) (by decide)).mp e)
        have hf : qfix qf_Ref_answer_F50 qN (nI m, nI s, 0, qp S' 17 (upd (S' 17) m (nI s))) = some (1, qp S' 17 (upd (S' 17) m (nI s))) := by
          show qf_Ref_answer_B50 (qfix qf_Ref_answer_F50 999) (nI m) (nI s) 0 (qp S' 17 (upd (S' 17) m (nI s))) = _
          unfold qf_Ref_answer_B50
          rw [if_neg (by decide), if_neg hn3]
        refine Or.inr ⟨s, qp bu 3 (fun _ => 0), _, _, hs3, hcls _ (fun h => absurd h hn3) (fun _ => rfl), hans.trans hf, ?_, fun g g1 g2 g3 g4 g5 g6 g7 => ?_, ?_, hself, hother⟩
        · show upd (S' 17) m (nI s) = _
          rw [e17]
        · rw [qp_ne _ _ g1]
          exact s4 g g2 g7 g3 g4 g5
        · show RMem n _ (r 0) (S' 25) (S' 26)
          rw [e25, s3]
          exact hM2
