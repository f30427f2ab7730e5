/-! ===== the pure part: the roots and the closure ===== -/
def orF (f : Nat → Nat) (w : Nat) : Nat → Nat
  | 0 => w
  | k + 1 => orF f w k ||| f k
theorem orF_base (f : Nat → Nat) (w : Nat) : ∀ k, orF f w k = w ||| orF f 0 k := by
  intro k
  induction k with
  | zero => exact (Nat.or_zero w).symm
  | succ k ih =>
    show orF f w k ||| f k = w ||| (orF f 0 k ||| f k)
    rw [ih, Nat.or_assoc]
theorem orF_lt {n w : Nat} {f : Nat → Nat} (hw : w < 2 ^ n) : ∀ k, (∀ j, j < k → f j < 2 ^ n) → orF f w k < 2 ^ n := by
  intro k
  induction k with
  | zero => intro _; exact hw
  | succ k ih => intro h; exact or_lt (ih (fun j hj => h j (by omega))) (h k (by omega))
/-- what a buffered store holds -/
def stW (bu : QS) (k : Nat) : Nat := bitF (bu 0 k) ||| (if bu 1 k = 2 then 0 else bitF (bu 2 k))
def vaW (mu : QS) (k : Nat) : Nat := bitF (mu 3 k)
theorem Ptr_c {n c : Nat} (h : c < n) : Ptr n (nI c) := Or.inr ⟨c, h, rfl⟩
theorem stW_lt {n m k b : Nat} {bu : QS} {r19 r20 r21 r22 : Nat → Int32} (hn : n ≤ 11) (hb : ∀ k, k < b → ∃ c f, c < n ∧ f < 3 ∧ bu 0 k = nI c ∧ r20 (3 * m + k) = nI c ∧ bu 1 k = nI f ∧ r21 (3 * m + k) = nI f ∧ r22 (3 * m + k) = bu 2 k ∧ (f < 2 → Ptr n (bu 2 k))) (hk : k < b) : stW bu k < 2 ^ n := by
  obtain ⟨c, f, hc, hf, e0, -, e1, -, -, hp⟩ := hb k hk
  unfold stW
  refine or_lt (by rw [e0]; exact bitF_lt hn (Ptr_c hc)) ?_
  by_cases h2 : bu 1 k = 2
  · rw [if_pos h2]; exact Nat.two_pow_pos n
  · rw [if_neg h2]
    refine bitF_lt hn (hp ?_)
    rw [e1] at h2
    have : f ≠ 2 := fun e => h2 (by rw [e]; rfl)
    omega
theorem buf_root {n m b : Nat} {bu : QS} {r19 r20 r21 r22 : Nat → Int32} (hn : n ≤ 11) (hb3 : b ≤ 3) (hbc : bu 3 0 = nI b) (hb : ∀ k, k < b → ∃ c f, c < n ∧ f < 3 ∧ bu 0 k = nI c ∧ r20 (3 * m + k) = nI c ∧ bu 1 k = nI f ∧ r21 (3 * m + k) = nI f ∧ r22 (3 * m + k) = bu 2 k ∧ (f < 2 → Ptr n (bu 2 k))) : ∀ d i N, i + d = b → d < N → qfix qf_Buf_rootSet_F4 N (nI (orF (stW bu) 0 i), nI i, bu) = some (nI (orF (stW bu) 0 b)) := by
  intro d
  induction d with
  | zero =>
    intro i N hi hN
    obtain ⟨N, rfl⟩ : ∃ M, N = M + 1 := ⟨N - 1, by omega⟩
    obtain rfl : i = b := by omega
    show qf_Buf_rootSet_B4 (qfix qf_Buf_rootSet_F4 N) (nI (orF (stW bu) 0 i)) (nI i) bu = _
    unfold qf_Buf_rootSet_B4
    rw [hbc, if_pos (nI_le (Nat.le_refl _) (by omega))]
  | succ d ih =>
    intro i N hi hN
    obtain ⟨N, rfl⟩ : ∃ M, N = M + 1 := ⟨N - 1, by omega⟩
    have ih := ih (i + 1) N (by omega) (by omega)
    obtain ⟨c, f, hc, hf, e0, -, e1, -, -, hp⟩ := hb i (by omega)
    have hw : orF (stW bu) 0 i < 2 ^ 11 := l11 hn (orF_lt (Nat.two_pow_pos n) i (fun j hj => stW_lt (r19 := r19) hn hb (by omega)))
    have hcb : bitF (bu 0 i) < 2 ^ 11 := by rw [e0]; exact l11 hn (bitF_lt hn (Ptr_c hc))
    show qf_Buf_rootSet_B4 (qfix qf_Buf_rootSet_F4 N) (nI (orF (stW bu) 0 i)) (nI i) bu = _
    unfold qf_Buf_rootSet_B4
    rw [hbc, if_neg (nI_ge (by omega) (by omega)), ck (by omega) (by decide), nI_clamp (show i < 2 ^ 31 by omega), set_of hn (show Ptr n (bu 0 i) by rw [e0]; exact Ptr_c hc), Option.bind_some, ckc (by omega) (by decide), ckc (by omega) (by decide), nI_or hw hcb, nI_1]
    by_cases h2 : bu 1 i = 2
    · rw [if_pos h2, ← ih]
      show _ = qfix qf_Buf_rootSet_F4 N (nI (orF (stW bu) 0 i ||| stW bu i), nI (i + 1), bu)
      unfold stW
      rw [if_pos h2, Nat.or_zero]
    · have hf2 : f < 2 := by
        rw [e1] at h2
        have : f ≠ 2 := fun e => h2 (by rw [e]; rfl)
        omega
      rw [if_neg h2, set_of hn (hp hf2), Option.bind_some, nI_or (Nat.or_lt_two_pow hw hcb) (l11 hn (bitF_lt hn (hp hf2))), ← ih]
      show _ = qfix qf_Buf_rootSet_F4 N (nI (orF (stW bu) 0 i ||| stW bu i), nI (i + 1), bu)
      conv => rhs; unfold stW
      rw [if_neg h2, Nat.or_assoc]
      rfl
theorem var_root {n : Nat} {mu bu : QS} {w : Nat} (hn : n ≤ 11) (hw : w < 2 ^ n) (hv : ∀ k, k < 4 → Ptr n (mu 3 k)) : ∀ d i N, i + d = 4 → d < N → qfix qf_Mut_rootSet_F10 N (nI (orF (vaW mu) w i), nI i, mu, bu) = some (nI (orF (vaW mu) w 4)) := by
  intro d
  induction d with
  | zero =>
    intro i N hi hN
    obtain ⟨N, rfl⟩ : ∃ M, N = M + 1 := ⟨N - 1, by omega⟩
    obtain rfl : i = 4 := by omega
    show qf_Mut_rootSet_B10 (qfix qf_Mut_rootSet_F10 N) (nI (orF (vaW mu) w 4)) (nI 4) mu bu = _
    unfold qf_Mut_rootSet_B10
    rw [if_pos (by decide)]
  | succ d ih =>
    intro i N hi hN
    obtain ⟨N, rfl⟩ : ∃ M, N = M + 1 := ⟨N - 1, by omega⟩
    have hw' : orF (vaW mu) w i < 2 ^ 11 := l11 hn (orF_lt hw i (fun j hj => bitF_lt hn (hv j (by omega))))
    show qf_Mut_rootSet_B10 (qfix qf_Mut_rootSet_F10 N) (nI (orF (vaW mu) w i)) (nI i) mu bu = _
    unfold qf_Mut_rootSet_B10
    rw [if_neg (show ¬ (4 : Int32) ≤ nI i from nI_ge (a := i) (b := 4) (by omega) (by decide)), ck (by omega) (by decide), nI_clamp (show i < 2 ^ 31 by omega), set_of hn (hv i (by omega)), Option.bind_some, nI_or hw' (l11 hn (bitF_lt hn (hv i (by omega)))), nI_1]
    exact ih (i + 1) N (by omega) (by omega)
theorem mut_root {n m : Nat} {mu bu : QS} {r10 r11 r12 r13 r14 r15 r16 r17 r18 r19 r20 r21 r22 : Nat → Int32} (hn : n ≤ 11) (hM : RMut n m mu r10 r11 r12 r13 r14 r15 r16 r17 r18) {b : Nat} (hb3 : b ≤ 3) (hbc : bu 3 0 = nI b) (hb : ∀ k, k < b → ∃ c f, c < n ∧ f < 3 ∧ bu 0 k = nI c ∧ r20 (3 * m + k) = nI c ∧ bu 1 k = nI f ∧ r21 (3 * m + k) = nI f ∧ r22 (3 * m + k) = bu 2 k ∧ (f < 2 → Ptr n (bu 2 k))) : qf_Mut_rootSet mu bu = some (nI (orF (vaW mu) (orF (stW bu) 0 b) 4)) ∧ orF (vaW mu) (orF (stW bu) 0 b) 4 < 2 ^ n := by
  have hw : orF (stW bu) 0 b < 2 ^ n := orF_lt (Nat.two_pow_pos n) b (fun j hj => stW_lt (r19 := r19) hn hb hj)
  have hv : ∀ k, k < 4 → Ptr n (mu 3 k) := fun k hk => (hM.2.1.1 k hk).2
  have h1 := buf_root (r19 := r19) hn hb3 hbc hb b 0 qN (by omega) (by unfold qN; omega)
  have h2 := var_root (bu := bu) hn hw hv 4 0 qN (by omega) (by unfold qN; omega)
  refine ⟨?_, orF_lt hw 4 (fun j hj => bitF_lt hn (hv j hj))⟩
  unfold qf_Mut_rootSet
  have h1 : qf_Buf_rootSet bu = some (nI (orF (stW bu) 0 b)) := h1
  rw [h1, Option.bind_some]
  exact h2
/-! the reference: clearing, roots -/
theorem clear_ref : ∀ (d i N : Nat) (r : QS), i + d = 11 → d < N → (∀ c, c < i → r 31 c = 0) → ∃ r', qfix qf_Ref_reach_F2 N (nI i, r) = qfix qf_Ref_reach_F23 qN (nI 0, r') ∧ RH 0 r' ∧ ∀ g, g ≠ 31 → r' g = r g := by
  intro d
  induction d with
  | zero =>
    intro i N r hi hN h
    obtain ⟨N, rfl⟩ : ∃ M, N = M + 1 := ⟨N - 1, by omega⟩
    refine ⟨r, ?_, fun c hc => by rw [h c (by omega), Nat.zero_testBit]; rfl, fun _ _ => rfl⟩
    show qf_Ref_reach_B2 (qfix qf_Ref_reach_F2 N) (nI i) r = _
    unfold qf_Ref_reach_B2
    rw [if_pos (show (11 : Int32) ≤ nI i from nI_le (a := 11) (by omega) (by omega)), nI_0]
  | succ d ih =>
    intro i N r hi hN h
    obtain ⟨N, rfl⟩ : ∃ M, N = M + 1 := ⟨N - 1, by omega⟩
    obtain ⟨r', e, q1, q2⟩ := ih (i + 1) N (qp r 31 (upd (r 31) i (vp_nar .boolean 0))) (by omega) (by omega) (fun c hc => by
      rw [qp_eq]
      by_cases e : c = i
      · subst e; rw [up_eq]; rfl
      · rw [up_ne _ _ e]; exact h c (by omega))
    refine ⟨r', ?_, q1, fun g hg => by rw [q2 g hg, qp_ne _ _ hg]⟩
    refine Eq.trans ?_ e
    show qf_Ref_reach_B2 (qfix qf_Ref_reach_F2 N) (nI i) r = _
    unfold qf_Ref_reach_B2
    rw [if_neg (show ¬ (11 : Int32) ≤ nI i from nI_ge (a := i) (b := 11) (by omega) (by decide)), ck (by omega) (by decide), nI_clamp (show i < 2 ^ 31 by omega), nI_1]
theorem st_ref {n m b w : Nat} {bu : QS} (hn : n ≤ 11) (hm : m < 2) (hb3 : b ≤ 3) (K : (Int32 × QS) → Option QS) : ∀ (d i N : Nat) (r : QS), i + d = b → d < N → r 19 m = nI b → (∀ k, k < b → ∃ c f, c < n ∧ f < 3 ∧ bu 0 k = nI c ∧ r 20 (3 * m + k) = nI c ∧ bu 1 k = nI f ∧ r 21 (3 * m + k) = nI f ∧ r 22 (3 * m + k) = bu 2 k ∧ (f < 2 → Ptr n (bu 2 k))) → RH (orF (stW bu) w i) r → ∃ r', qfix (qf_Ref_reach_F58 K) N (nI m, nI i, r) = K (nI (m + 1), r') ∧ RH (orF (stW bu) w b) r' ∧ ∀ g, g ≠ 31 → r' g = r g := by
  intro d
  induction d with
  | zero =>
    intro i N r hi hN h19 hb hH
    obtain ⟨N, rfl⟩ : ∃ M, N = M + 1 := ⟨N - 1, by omega⟩
    obtain rfl : i = b := by omega
    refine ⟨r, ?_, hH, fun _ _ => rfl⟩
    show qf_Ref_reach_B58 K (qfix (qf_Ref_reach_F58 K) N) (nI m) (nI i) r = _
    unfold qf_Ref_reach_B58
    rw [ck hm (by decide), nI_clamp (show m < 2 ^ 31 by omega), h19, if_pos (nI_le (Nat.le_refl _) (by omega)), nI_1]
  | succ d ih =>
    intro i N r hi hN h19 hb hH
    obtain ⟨N, rfl⟩ : ∃ M, N = M + 1 := ⟨N - 1, by omega⟩
    obtain ⟨c, f, hc, hf, e0, e20, e1, e21, e22, hp⟩ := hb i (by omega)
    obtain ⟨r1, a1, a2, a3⟩ := hold_ref (v := bu 0 i) hn (by rw [e0]; exact Ptr_c hc) hH
    obtain ⟨v, hv, hpv, hbv⟩ : ∃ v, v = (if f < 2 then bu 2 i else -1) ∧ Ptr n v ∧ bitF v = (if bu 1 i = 2 then 0 else bitF (bu 2 i)) := by
      by_cases h2 : f < 2
      · refine ⟨bu 2 i, by rw [if_pos h2], hp h2, ?_⟩
        rw [if_neg]
        rw [e1]; exact nNe 2 rfl (by omega) (by decide) (by omega)
      · refine ⟨-1, by rw [if_neg h2], Or.inl rfl, ?_⟩
        have : f = 2 := by omega
        rw [e1, this, if_pos (show nI 2 = 2 from rfl)]; rfl
    obtain ⟨r2, b1, b2, b3⟩ := hold_ref (v := v) hn hpv a2
    have hall : ∀ g, g ≠ 31 → r2 g = r g := fun g hg => by rw [b3 g hg, a3 g hg]
    obtain ⟨r', c1, c2, c3⟩ := ih (i + 1) N r2 (by omega) (by omega) (by rw [hall 19 (by decide)]; exact h19) (by rw [hall 20 (by decide), hall 21 (by decide), hall 22 (by decide)]; exact hb) (by
      show RH (orF (stW bu) w i ||| stW bu i) r2
      unfold stW at b2 ⊢
      rw [← hbv, ← Nat.or_assoc]; exact b2)
    refine ⟨r', ?_, c2, fun g hg => by rw [c3 g hg, hall g hg]⟩
    refine Eq.trans ?_ c1
    show qf_Ref_reach_B58 K (qfix (qf_Ref_reach_F58 K) N) (nI m) (nI i) r = _
    unfold qf_Ref_reach_B58 qf_Ref_reach_j111
    rw [ck hm (by decide), nI_clamp (show m < 2 ^ 31 by omega), h19, if_neg (nI_ge (by omega) (by omega)), n3m, nI_add, ck (by omega) (by decide), nI_clamp (show 3 * m + i < 2 ^ 31 by omega), e20, ← e0, a1, Option.bind_some, ckc (by omega) (by decide), a3 21 (by decide), e21, ckc (by omega) (by decide), a3 22 (by decide), e22, nI_1]
    by_cases h2 : f < 2
    · rw [if_pos h2] at hv
      rw [if_neg (show ¬ (2 : Int32) ≤ nI f from nI_ge (a := f) (b := 2) h2 (by decide)), ← hv, b1, Option.bind_some]
    · rw [if_neg h2] at hv
      rw [if_pos (show (2 : Int32) ≤ nI f from nI_le (a := 2) (by omega) (by omega)), ← hv, b1, Option.bind_some]
theorem var_ref {n m w : Nat} {mu : QS} (hn : n ≤ 11) (hm : m < 2) (K : (Int32 × QS) → Option QS) : ∀ (d i N : Nat) (r : QS), i + d = 4 → d < N → (∀ k, k < 4 → r 16 (7 * m + k) = mu 3 k ∧ Ptr n (mu 3 k)) → RH (orF (vaW mu) w i) r → ∃ r', qfix (qf_Ref_reach_F30 K) N (nI m, nI i, r) = qfix (qf_Ref_reach_F58 K) qN (nI m, nI 0, r') ∧ RH (orF (vaW mu) w 4) r' ∧ ∀ g, g ≠ 31 → r' g = r g := by
  intro d
  induction d with
  | zero =>
    intro i N r hi hN hv hH
    obtain ⟨N, rfl⟩ : ∃ M, N = M + 1 := ⟨N - 1, by omega⟩
    refine ⟨r, ?_, by rw [show 4 = i by omega]; exact hH, fun _ _ => rfl⟩
    show qf_Ref_reach_B30 K (qfix (qf_Ref_reach_F30 K) N) (nI m) (nI i) r = _
    unfold qf_Ref_reach_B30
    rw [if_pos (show (4 : Int32) ≤ nI i from nI_le (a := 4) (by omega) (by omega)), nI_0]
  | succ d ih =>
    intro i N r hi hN hv hH
    obtain ⟨N, rfl⟩ : ∃ M, N = M + 1 := ⟨N - 1, by omega⟩
    obtain ⟨r1, a1, a2, a3⟩ := hold_ref (v := mu 3 i) hn (hv i (by omega)).2 hH
    obtain ⟨r', c1, c2, c3⟩ := ih (i + 1) N r1 (by omega) (by omega) (by rw [a3 16 (by decide)]; exact hv) a2
    refine ⟨r', ?_, c2, fun g hg => by rw [c3 g hg, a3 g hg]⟩
    refine Eq.trans ?_ c1
    show qf_Ref_reach_B30 K (qfix (qf_Ref_reach_F30 K) N) (nI m) (nI i) r = _
    unfold qf_Ref_reach_B30
    rw [if_neg (show ¬ (4 : Int32) ≤ nI i from nI_ge (a := i) (b := 4) (by omega) (by decide)), n7m, nI_add, ck (by omega) (by decide), nI_clamp (show 7 * m + i < 2 ^ 31 by omega), (hv i (by omega)).1, a1, Option.bind_some, nI_1]
