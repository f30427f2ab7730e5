/-! ===== the pure part: more reads, write ===== -/
theorem cell_cases {n : Nat} {mem r : QS} (hn : n ≤ 11) (hM : RMem n mem (r 0) (r 25) (r 26)) (x : Int32) : (∃ c, c < n ∧ x = nI c ∧ qf_Mem_isCell x mem = some 1 ∧ qf_Ref_isCell x r = some 1) ∨ (qf_Mem_isCell x mem = some 0 ∧ qf_Ref_isCell x r = some 0) := by
  unfold qf_Mem_isCell qf_Ref_isCell
  rw [hM.1, hM.2.1]
  rcases pk_ix x (n := n) (by omega) with h | h | ⟨j, hj, rfl⟩
  · exact Or.inr ⟨by rw [if_pos h], by rw [if_pos h]⟩
  · exact Or.inr ⟨by rw [if_pos h, ite_self], by rw [if_pos h, ite_self]⟩
  · exact Or.inl ⟨j, hj, rfl, by rw [if_neg (nI_pos (by omega)), if_neg (nI_ge hj (by omega))], by rw [if_neg (nI_pos (by omega)), if_neg (nI_ge hj (by omega))]⟩
theorem colour_both {n B : Nat} {r src mem mu0 bu0 ou0 mu1 bu1 ou1 col : QS} (x : Int32) (h : RAll n B r src mem mu0 bu0 ou0 mu1 bu1 ou1 col) : ∃ a, qf_Qs_colour x mem = some a ∧ qf_Ref_colour x r = some a := by
  obtain ⟨h1, h2, h3, h4, _⟩ := h
  unfold qf_Qs_colour qf_Ref_colour
  rcases cell_cases h2 h4 x with ⟨c, hc, rfl, e1, e2⟩ | ⟨e1, e2⟩
  · refine ⟨mem 1 c, ?_, ?_⟩
    · rw [e1, Option.bind_some, if_neg (by decide), ck1 h2 h4.1 hc, nI_clamp (by omega)]
    · rw [e2, Option.bind_some, if_neg (by decide), ck (by omega) (by decide), nI_clamp (by omega), h4.2.2.1 c hc]
  · exact ⟨-1, by rw [e1]; rfl, by rw [e2]; rfl⟩
theorem fld_cases (x : Int32) : (∃ f, f < 3 ∧ x = nI f ∧ qf_Qs_isField x = some 1 ∧ ¬ x < 0 ∧ ¬ 2 < x) ∨ (qf_Qs_isField x = some 0 ∧ (x < 0 ∨ (¬ x < 0 ∧ 2 < x))) := by
  unfold qf_Qs_isField
  rcases pk_ix x (n := 3) (by decide) with h | h | ⟨j, hj, rfl⟩
  · exact Or.inr ⟨by rw [if_pos h], Or.inl h⟩
  · have h3 : (3 : Int32) ≤ x := h
    have e2 := Int32.le_iff_toInt_le.mp h3
    have e3 : (3 : Int32).toInt = 3 := by decide
    have e4 : (2 : Int32).toInt = 2 := by decide
    have e5 : (0 : Int32).toInt = 0 := by decide
    exact Or.inr ⟨by rw [if_pos h3, ite_self], Or.inr ⟨fun hl => by have := Int32.lt_iff_toInt_lt.mp hl; omega, Int32.lt_iff_toInt_lt.mpr (by omega)⟩⟩
  · exact Or.inl ⟨j, hj, rfl, by rw [if_neg (nI_pos (by omega)), if_neg (show ¬ (3 : Int32) ≤ nI j from nI_ge (a := j) (b := 3) hj (by decide))], nI_pos (by omega), nI_nlt (a := 2) (b := j) (by omega) (by decide)⟩
theorem field_both {n B : Nat} {r src mem mu0 bu0 ou0 mu1 bu1 ou1 col : QS} (x y : Int32) (h : RAll n B r src mem mu0 bu0 ou0 mu1 bu1 ou1 col) : ∃ a, qf_Qs_field x y mem = some a ∧ qf_Ref_field x y r = some a := by
  obtain ⟨h1, h2, h3, h4, _⟩ := h
  unfold qf_Qs_field qf_Ref_field
  rcases cell_cases h2 h4 x with ⟨c, hc, rfl, e1, e2⟩ | ⟨e1, e2⟩
  · rcases fld_cases y with ⟨f, hf, rfl, e3, n1, n2⟩ | ⟨e3, hy⟩
    · refine ⟨mem 2 (3 * c + f), ?_, ?_⟩
      · rw [e1, Option.bind_some, if_neg (by decide), e3, Option.bind_some, if_neg (by decide), pm_read h2 h4.1 hc hf]
        rfl
      · rw [e2, Option.bind_some, if_neg (by decide), if_neg n1, if_neg n2, n3m, nI_add, ck (by omega) (by decide), nI_clamp (by omega), h4.2.2.2.1 _ (by omega)]
    · refine ⟨-1, ?_, ?_⟩
      · rw [e1, Option.bind_some, if_neg (by decide), e3, Option.bind_some, if_pos rfl]
      · rw [e2, Option.bind_some, if_neg (by decide)]
        rcases hy with hy | ⟨hy, hz⟩
        · rw [if_pos hy]
        · rw [if_neg hy, if_pos hz]
  · exact ⟨-1, by rw [e1]; rfl, by rw [e2]; rfl⟩
theorem seen_both {n B : Nat} {r src mem mu0 bu0 ou0 mu1 bu1 ou1 col : QS} (x y z : Int32) (h : RAll n B r src mem mu0 bu0 ou0 mu1 bu1 ou1 col) : ∃ a, qf_Qs_seen x y z mem mu0 bu0 mu1 bu1 = some a ∧ qf_Ref_seen x y z r = some a := by
  obtain ⟨h1, h2, h3, h4, h5, h6, h7, h8, h9, h10, h11⟩ := h
  unfold qf_Qs_seen qf_Ref_seen
  have main : ∀ m : Nat, m < 2 → ∀ bu : QS, RBuf n m bu (r 19) (r 20) (r 21) (r 22) → qf_Qs_isMutator (nI m) = some 1 → qf_Ref_isMutator (nI m) = some 1 → (∀ c f : Nat, (if nI m = 0 then (qf_Buf_look (nI c) (nI f) bu0 mem).bind (fun q6 => some q6) else if nI m = 1 then (qf_Buf_look (nI c) (nI f) bu1 mem).bind (fun q7 => some q7) else none) = (qf_Buf_look (nI c) (nI f) bu mem).bind fun q => some q) → ∃ a, ((qf_Qs_isMutator (nI m)).bind fun q1 => if q1 = 0 then some (-1) else (qf_Mem_isCell y mem).bind fun q2 => if q2 = 0 then some (-1) else (qf_Qs_isField z).bind fun q3 => if q3 = 0 then some (-1) else if nI m = 0 then (qf_Buf_look y z bu0 mem).bind (fun q6 => some q6) else if nI m = 1 then (qf_Buf_look y z bu1 mem).bind (fun q7 => some q7) else none) = some a ∧ ((qf_Ref_isMutator (nI m)).bind fun q1 => if q1 = 0 then some (-1) else (qf_Ref_isCell y r).bind fun q2 => if q2 = 0 then some (-1) else if z < 0 then some (-1) else if 2 < z then some (-1) else (qf_Ref_sees (nI m) y z r).bind fun q3 => some q3) = some a := by
    intro m hm bu hB g1 g2 g3
    rw [g1, g2, Option.bind_some, Option.bind_some, if_neg (show ¬ (1 : Int32) = 0 by decide), if_neg (show ¬ (1 : Int32) = 0 by decide)]
    rcases cell_cases h2 h4 y with ⟨c, hc, rfl, e1, e2⟩ | ⟨e1, e2⟩
    · rw [e1, e2, Option.bind_some, Option.bind_some, if_neg (show ¬ (1 : Int32) = 0 by decide), if_neg (show ¬ (1 : Int32) = 0 by decide)]
      rcases fld_cases z with ⟨f, hf, rfl, e3, n1, n2⟩ | ⟨e3, hy⟩
      · obtain ⟨v, v1, v2, _⟩ := see_both (bu := bu) h2 hm h4 hB hc hf
        refine ⟨v, ?_, ?_⟩
        · rw [e3, Option.bind_some, if_neg (show ¬ (1 : Int32) = 0 by decide), g3, v1]
          rfl
        · rw [if_neg n1, if_neg n2, v2]
          rfl
      · refine ⟨-1, by rw [e3]; rfl, ?_⟩
        rcases hy with hy | ⟨hy, hz⟩
        · rw [if_pos hy]
        · rw [if_neg hy, if_pos hz]
    · exact ⟨-1, by rw [e1]; rfl, by rw [e2]; rfl⟩
  rcases mut_cases x with rfl | rfl | ⟨e1, e2⟩
  · exact main 0 (by omega) bu0 h6 mq0 mr0 (fun c f => by rw [if_pos (show nI 0 = 0 from rfl)])
  · exact main 1 (by omega) bu1 h9 mq1 mr1 (fun c f => by rw [if_neg (show ¬ nI 1 = 0 by decide), if_pos (show nI 1 = 1 from rfl)])
  · exact ⟨-1, by rw [e1]; rfl, by rw [e2]; rfl⟩
theorem write_both {n B : Nat} {r src mem mu0 bu0 ou0 mu1 bu1 ou1 col : QS} (x : Int32) (hx : vp_nar .char x = x) (h : RAll n B r src mem mu0 bu0 ou0 mu1 bu1 ou1 col) : ∃ (a : Int32) (src' R : QS), qf_Qs_write x src = some (a, src') ∧ qf_Ref_write x r = some (a, R) ∧ RAll n B R src' mem mu0 bu0 ou0 mu1 bu1 ou1 col := by
  have h0 := h
  obtain ⟨h1, h2, ⟨t, ht, t1, t2, t3⟩, hrest⟩ := h0
  have no : ∀ hA : qf_Src_append x src = some (0, src), ∃ (a : Int32) (src' R : QS), qf_Qs_write x src = some (a, src') ∧ some ((0 : Int32), r) = some (a, R) ∧ RAll n B R src' mem mu0 bu0 ou0 mu1 bu1 ou1 col := fun hA => ⟨0, src, r, by unfold qf_Qs_write; rw [hA]; exact bzb (Or.inl rfl), rfl, h⟩
  unfold qf_Ref_write
  unfold qf_Src_append at no
  rw [t1] at no
  rw [t2]
  by_cases h60 : (60 : Int32) ≤ nI t
  · rw [if_pos h60] at no ⊢
    exact no rfl
  · rw [if_neg h60] at no ⊢
    by_cases h32 : x < 32
    · rw [if_pos h32] at no ⊢
      exact no rfl
    · rw [if_neg h32] at no ⊢
      by_cases h126 : x ≤ 126
      · have ht60 : t < 60 := by
          refine Nat.lt_of_not_le (fun hle => h60 (nI_le (a := 60) (b := t) hle (by omega)))
        obtain ⟨a, ha, ha2⟩ : ∃ a : Nat, a ≤ 126 ∧ x = nI a := nI_of2 (M := 126) (n := 126) (by decide) (fun hl => h32 (Int32.lt_iff_toInt_lt.mpr (by
          have := Int32.lt_iff_toInt_lt.mp hl
          have e4 : (32 : Int32).toInt = 32 := by decide
          have e5 : (0 : Int32).toInt = 0 := by decide
          omega))) h126
        have ha32 : 32 ≤ a := by
          refine Nat.le_of_not_lt (fun hl => h32 ?_)
          rw [ha2]
          exact nI_lt (a := a) (b := 32) hl (by decide)
        rw [if_pos h126, ck ht60 (by decide), nI_clamp (by omega), hx, nI_1]
        refine ⟨1, qp (qp src 1 (fun _ => nI (t + 1))) 0 (upd (src 0) t x), qp (qp r 2 (fun _ => nI (t + 1))) 1 (upd (r 1) t x), ?_, rfl, h1, h2, ⟨t + 1, by omega, rfl, rfl, fun j hj => ?_⟩, hrest⟩
        · unfold qf_Qs_write qf_Src_append
          rw [t1, if_neg h60, if_neg h32, if_pos h126, ck ht60 (by decide), nI_clamp (by omega), hx, nI_1]
          exact bzb (Or.inr rfl)
        · show upd (r 1) t x j = upd (src 0) t x j ∧ ∃ a, 32 ≤ a ∧ a ≤ 126 ∧ upd (src 0) t x j = nI a
          by_cases e : j = t
          · subst e
            rw [up_eq, up_eq]
            exact ⟨rfl, a, ha32, ha, ha2⟩
          · rw [up_ne _ _ e, up_ne _ _ e]
            exact t3 j (by omega)
      · rw [if_neg h126] at no ⊢
        exact no rfl
