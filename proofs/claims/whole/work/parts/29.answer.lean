/-! ===== the pure part: an answer ===== -/
theorem pr_flush0 {m : Nat} {r : QS} (hm : m < 2) (hb : r 19 m = nI 0) : qf_Ref_flush (nI m) r = some (0, r) := by
  unfold qf_Ref_flush
  rw [ck hm (by decide), nI_clamp (show m < 2 ^ 31 by omega), if_pos (hb.trans nI_0)]
theorem pr_flush1 {m b c f : Nat} {r : QS} (hm : m < 2) (hb2 : b ≤ 2) (hb : r 19 m = nI (b + 1)) (a4 : r 20 (3 * m) = nI c) (a6 : r 21 (3 * m) = nI f) (hc : c < 11) (hf : f < 3) : ∃ T, qf_Ref_flush (nI m) r = some (1, T) ∧ T 19 = upd (r 19) m (nI b) ∧ T 26 = upd (r 26) (3 * c + f) (r 22 (3 * m)) ∧ T 20 = shG (r 20) (3 * m) b ∧ T 21 = shG (r 21) (3 * m) b ∧ T 22 = shG (r 22) (3 * m) b ∧ ∀ g, g ≠ 19 → g ≠ 26 → g ≠ 20 → g ≠ 21 → g ≠ 22 → T g = r g := by
  have hne : ¬ nI (b + 1) = 0 := nI_ne0 (by omega) (by omega)
  obtain ⟨T', q1, q2, q3, q4, q5⟩ := flush_lp (r := r) (m := m) (b := b) hm hb2 b 0 qN (qp (qp r 19 (upd (r 19) m (nI b))) 26 (upd (r 26) (3 * c + f) (r 22 (3 * m)))) (by omega) (by unfold qN; omega) (up_eq _ _ _) (shG_0 _ _).symm (shG_0 _ _).symm (shG_0 _ _).symm
  refine ⟨T', ?_, q5 19 (by decide) (by decide) (by decide), q5 26 (by decide) (by decide) (by decide), q2, q3, q4, fun g h1 h2 h3 h4 h5 => by rw [q5 g h3 h4 h5, qp_ne _ _ h2, qp_ne _ _ h1]⟩
  unfold qf_Ref_flush
  rw [ck hm (by decide), nI_clamp (show m < 2 ^ 31 by omega), hb, if_neg hne, n3m, ck (by omega) (by decide), ck (by omega) (by decide), ck (by omega) (by decide), nI_clamp (show 3 * m < 2 ^ 31 by omega), a4, a6, n3m, nI_add, ck (by omega) (by decide), ckc hm (by decide), ckc hm (by decide), nI_clamp (show 3 * c + f < 2 ^ 31 by omega), nI_pred]
  exact q1
def putsF (mf : Nat → Int32) (bu : QS) : Nat → Nat → Int32
  | 0 => mf
  | i + 1 => upd (putsF mf bu i) (3 * (bu 0 i).toNatClampNeg + (bu 1 i).toNatClampNeg) (bu 2 i)
theorem passAll_lp {n b : Nat} {bu mem : QS} (hn : n ≤ 11) (hm : mem 0 0 = nI n) (hb3 : b ≤ 3) (hb : bu 3 0 = nI b) (hk : ∀ k, k < b → ∃ c f, c < n ∧ f < 3 ∧ bu 0 k = nI c ∧ bu 1 k = nI f) : ∀ d s N : Nat, s + d = b → d < N → qfix qf_Buf_passAll_F2 N (nI s, bu, qp mem 2 (putsF (mem 2) bu s)) = some (qp bu 3 (fun _ => 0), qp mem 2 (putsF (mem 2) bu b)) := by
  intro d
  induction d with
  | zero =>
    intro s N hs hN
    obtain ⟨N, rfl⟩ : ∃ M, N = M + 1 := ⟨N - 1, by omega⟩
    obtain rfl : s = b := by omega
    show qf_Buf_passAll_B2 (qfix qf_Buf_passAll_F2 N) (nI s) bu (qp mem 2 (putsF (mem 2) bu s)) = _
    unfold qf_Buf_passAll_B2
    rw [hb, if_pos (nI_le (by omega) (by omega))]
  | succ d ih =>
    intro s N hs hN
    obtain ⟨N, rfl⟩ : ∃ M, N = M + 1 := ⟨N - 1, by omega⟩
    obtain ⟨c, f, hc, hf, e0, e1⟩ := hk s (by omega)
    rw [← ih (s + 1) N (by omega) (by omega)]
    show qf_Buf_passAll_B2 (qfix qf_Buf_passAll_F2 N) (nI s) bu (qp mem 2 (putsF (mem 2) bu s)) = _
    unfold qf_Buf_passAll_B2
    rw [hb, if_neg (nI_ge (by omega) (by omega)), ck (by omega) (by decide), ck (by omega) (by decide), ck (by omega) (by decide), nI_clamp (show s < 2 ^ 31 by omega), e0, e1, pm_put hn (show (qp mem 2 (putsF (mem 2) bu s)) 0 0 = nI n from hm) hc hf, Option.bind_some, qp_qp, nI_1]
    show qfix qf_Buf_passAll_F2 N (nI (s + 1), bu, qp mem 2 (upd (putsF (mem 2) bu s) (3 * c + f) (bu 2 s))) = _
    rw [show putsF (mem 2) bu (s + 1) = upd (putsF (mem 2) bu s) (3 * (bu 0 s).toNatClampNeg + (bu 1 s).toNatClampNeg) (bu 2 s) from rfl, e0, e1, nI_clamp (show c < 2 ^ 31 by omega), nI_clamp (show f < 2 ^ 31 by omega)]
theorem pb_passAll {n b : Nat} {bu mem : QS} (hn : n ≤ 11) (hm : mem 0 0 = nI n) (hb3 : b ≤ 3) (hb : bu 3 0 = nI b) (hk : ∀ k, k < b → ∃ c f, c < n ∧ f < 3 ∧ bu 0 k = nI c ∧ bu 1 k = nI f) : qf_Buf_passAll bu mem = some (qp bu 3 (fun _ => 0), qp mem 2 (putsF (mem 2) bu b)) := by
  have h := passAll_lp hn hm hb3 hb hk b 0 qN (by omega) (by unfold qN; omega)
  rw [show qp mem 2 (putsF (mem 2) bu 0) = mem from qp_self mem 2] at h
  exact h
theorem RMem_puts {n b : Nat} {bu mem : QS} {r0 r25 r26 : Nat → Int32} (hn : n ≤ 11) (h : RMem n mem r0 r25 r26) (hk : ∀ k, k < b → ∃ c f, c < n ∧ f < 3 ∧ bu 0 k = nI c ∧ bu 1 k = nI f ∧ (f < 2 → Ptr n (bu 2 k))) : ∀ s, s ≤ b → RMem n (qp mem 2 (putsF (mem 2) bu s)) r0 r25 (putsF r26 bu s) := by
  intro s
  induction s with
  | zero =>
    intro _
    rw [show qp mem 2 (putsF (mem 2) bu 0) = mem from qp_self mem 2]
    exact h
  | succ s ih =>
    intro hs
    obtain ⟨c, f, hc, hf, e0, e1, hp⟩ := hk s (by omega)
    have h2 := RMem_put (v := bu 2 s) hc hf hp (ih (by omega))
    rw [qp_qp] at h2
    rw [show putsF (mem 2) bu (s + 1) = upd (putsF (mem 2) bu s) (3 * (bu 0 s).toNatClampNeg + (bu 1 s).toNatClampNeg) (bu 2 s) from rfl, show putsF r26 bu (s + 1) = upd (putsF r26 bu s) (3 * (bu 0 s).toNatClampNeg + (bu 1 s).toNatClampNeg) (bu 2 s) from rfl, e0, e1, nI_clamp (show c < 2 ^ 31 by omega), nI_clamp (show f < 2 ^ 31 by omega)]
    exact h2
/-- three flushes -/
theorem ans_lp {n m b : Nat} {a : Int32} {bu : QS} {r26 : Nat → Int32} (hn : n ≤ 11) (hm : m < 2) (hb3 : b ≤ 3) (hk : ∀ k, k < b → ∃ c f, c < n ∧ f < 3 ∧ bu 0 k = nI c ∧ bu 1 k = nI f) : ∀ (d i N : Nat) (S : QS), i + d = 3 → d < N → S 19 m = nI (b - i) → (∀ k, k < b - i → S 20 (3 * m + k) = bu 0 (i + k) ∧ S 21 (3 * m + k) = bu 1 (i + k) ∧ S 22 (3 * m + k) = bu 2 (i + k)) → S 26 = putsF r26 bu (if i ≤ b then i else b) → ∃ S', qfix qf_Ref_answer_F23 N (nI m, a, nI i, S) = qfix qf_Ref_answer_F50 qN (nI m, a, 0, qp S' 17 (upd (S' 17) m a)) ∧ S' 19 m = nI 0 ∧ S' 26 = putsF r26 bu b ∧ (∀ g, g ≠ 19 → g ≠ 26 → g ≠ 20 → g ≠ 21 → g ≠ 22 → S' g = S g) ∧ ∀ m', m' < 2 → m' ≠ m → S' 19 m' = S 19 m' ∧ ∀ k, k < 3 → S' 20 (3 * m' + k) = S 20 (3 * m' + k) ∧ S' 21 (3 * m' + k) = S 21 (3 * m' + k) ∧ S' 22 (3 * m' + k) = S 22 (3 * m' + k) := by
  intro d
  induction d with
  | zero =>
    intro i N S hi hN h19 hent h26
    obtain ⟨N, rfl⟩ : ∃ M, N = M + 1 := ⟨N - 1, by omega⟩
    obtain rfl : i = 3 := by omega
    refine ⟨S, ?_, ?_, ?_, fun _ _ _ _ _ _ => rfl, fun _ _ _ => ⟨rfl, fun _ _ => ⟨rfl, rfl, rfl⟩⟩⟩
    · show qf_Ref_answer_B23 (qfix qf_Ref_answer_F23 N) (nI m) a (nI 3) S = _
      unfold qf_Ref_answer_B23
      rw [if_pos (by decide), ck hm (by decide), nI_clamp (show m < 2 ^ 31 by omega)]
    · rw [h19, show b - 3 = 0 by omega]
    · rw [h26]
      by_cases hb : 3 ≤ b
      · rw [if_pos hb, show b = 3 by omega]
      · rw [if_neg hb]
  | succ d ih =>
    intro i N S hi hN h19 hent h26
    obtain ⟨N, rfl⟩ : ∃ M, N = M + 1 := ⟨N - 1, by omega⟩
    have hstep : ∀ (x : Int32) (T : QS), qf_Ref_flush (nI m) S = some (x, T) → qfix qf_Ref_answer_F23 (N + 1) (nI m, a, nI i, S) = qfix qf_Ref_answer_F23 N (nI m, a, nI (i + 1), T) := fun x T hT => by
      show qf_Ref_answer_B23 (qfix qf_Ref_answer_F23 N) (nI m) a (nI i) S = _
      unfold qf_Ref_answer_B23
      rw [if_neg (show ¬ (3 : Int32) ≤ nI i from nI_ge (a := i) (b := 3) (by omega) (by decide)), hT, Option.bind_some, nI_1]
    by_cases hb : i < b
    · obtain ⟨c, f, hc, hf, e0, e1⟩ := hk i hb
      obtain ⟨z0, z1, z2⟩ := hent 0 (by omega)
      rw [Nat.add_zero, Nat.add_zero] at z0 z1 z2
      obtain ⟨T, t1, t19, t26, t20, t21, t22, tg⟩ := pr_flush1 (r := S) (b := b - i - 1) hm (by omega) (by rw [h19]; congr 1; omega) (z0.trans e0) (z1.trans e1) (by omega) hf
      obtain ⟨S', s1, s2, s3, s4, s5⟩ := ih (i + 1) N T (by omega) (by omega) (by rw [t19, up_eq]; congr 1) (fun k hk' => by
        obtain ⟨y0, y1, y2⟩ := hent (k + 1) (by omega)
        rw [t20, t21, t22, shG_in (by omega), shG_in (by omega), shG_in (by omega)]
        rw [show i + 1 + k = i + (k + 1) by omega]
        exact ⟨y0, y1, y2⟩) (by
        rw [t26, h26, if_pos (by omega), if_pos (by omega), z2, show putsF r26 bu (i + 1) = upd (putsF r26 bu i) (3 * (bu 0 i).toNatClampNeg + (bu 1 i).toNatClampNeg) (bu 2 i) from rfl, e0, e1, nI_clamp (show c < 2 ^ 31 by omega), nI_clamp (show f < 2 ^ 31 by omega)])
      refine ⟨S', (hstep 1 T t1).trans s1, s2, s3, fun g h1 h2 h3 h4 h5 => by rw [s4 g h1 h2 h3 h4 h5, tg g h1 h2 h3 h4 h5], fun m' hm' hne => ?_⟩
      obtain ⟨w1, w2⟩ := s5 m' hm' hne
      refine ⟨by rw [w1, t19, up_ne _ _ hne], fun k hk' => ?_⟩
      obtain ⟨v1, v2, v3⟩ := w2 k hk'
      rw [v1, v2, v3, t20, t21, t22, shG_out (by omega), shG_out (by omega), shG_out (by omega)]
      exact ⟨rfl, rfl, rfl⟩
    · have h0 := pr_flush0 (r := S) hm (by rw [h19, show b - i = 0 by omega])
      obtain ⟨S', s1, s2, s3, s4, s5⟩ := ih (i + 1) N S (by omega) (by omega) (by rw [h19]; congr 1; omega) (fun k hk' => by omega) (by
        rw [h26, if_neg (show ¬ i + 1 ≤ b by omega)]
        by_cases hib : i ≤ b
        · rw [if_pos hib, show i = b by omega]
        · rw [if_neg hib])
      exact ⟨S', (hstep 0 S h0).trans s1, s2, s3, s4, s5⟩
/-! the marks of the roots -/
def marksF (col vs : Nat → Int32) : Nat → Nat → Int32
  | 0 => col
  | k + 1 => markF (marksF col vs k) (vs k)
theorem marks_lp {n : Nat} {mu bu mem : QS} (hn : n ≤ 11) (hm : mem 0 0 = nI n) (hv : ∀ k, k < 4 → Ptr n (mu 3 k)) : ∀ d k N : Nat, k + d = 4 → d < N → qfix qf_Mut_answer_F35 N (nI k, mu, bu, qp mem 1 (marksF (mem 1) (mu 3) k)) = some (1, mu, bu, qp mem 1 (marksF (mem 1) (mu 3) 4)) := by
  intro d
  induction d with
  | zero =>
    intro k N hk hN
    obtain ⟨N, rfl⟩ : ∃ M, N = M + 1 := ⟨N - 1, by omega⟩
    obtain rfl : k = 4 := by omega
    show qf_Mut_answer_B35 (qfix qf_Mut_answer_F35 N) (nI 4) mu bu (qp mem 1 (marksF (mem 1) (mu 3) 4)) = _
    unfold qf_Mut_answer_B35
    rw [if_pos (by decide)]
  | succ d ih =>
    intro k N hk hN
    obtain ⟨N, rfl⟩ : ∃ M, N = M + 1 := ⟨N - 1, by omega⟩
    rw [← ih (k + 1) N (by omega) (by omega)]
    show qf_Mut_answer_B35 (qfix qf_Mut_answer_F35 N) (nI k) mu bu (qp mem 1 (marksF (mem 1) (mu 3) k)) = _
    unfold qf_Mut_answer_B35
    rw [if_neg (show ¬ (4 : Int32) ≤ nI k from nI_ge (a := k) (b := 4) (by omega) (by decide)), ck (by omega) (by decide), nI_clamp (show k < 2 ^ 31 by omega), pm_mark hn (show (qp mem 1 (marksF (mem 1) (mu 3) k)) 0 0 = nI n from hm) (hv k (by omega)), Option.bind_some, qp_qp, nI_1]
    rfl
theorem rmarks_lp {n m : Nat} {S : QS} (hn : n ≤ 11) (hm : m < 2) (hv : ∀ k, k < 4 → Ptr n (S 16 (7 * m + k))) : ∀ d k N : Nat, k + d = 4 → d < N → qfix qf_Ref_answer_F50 N (nI m, 3, nI k, qp S 25 (marksF (S 25) (fun k => S 16 (7 * m + k)) k)) = some (1, qp S 25 (marksF (S 25) (fun k => S 16 (7 * m + k)) 4)) := by
  intro d
  induction d with
  | zero =>
    intro k N hk hN
    obtain ⟨N, rfl⟩ : ∃ M, N = M + 1 := ⟨N - 1, by omega⟩
    obtain rfl : k = 4 := by omega
    show qf_Ref_answer_B50 (qfix qf_Ref_answer_F50 N) (nI m) 3 (nI 4) (qp S 25 (marksF (S 25) (fun k => S 16 (7 * m + k)) 4)) = _
    unfold qf_Ref_answer_B50
    rw [if_pos (by decide)]
  | succ d ih =>
    intro k N hk hN
    obtain ⟨N, rfl⟩ : ∃ M, N = M + 1 := ⟨N - 1, by omega⟩
    rw [← ih (k + 1) N (by omega) (by omega)]
    show qf_Ref_answer_B50 (qfix qf_Ref_answer_F50 N) (nI m) 3 (nI k) (qp S 25 (marksF (S 25) (fun k => S 16 (7 * m + k)) k)) = _
    unfold qf_Ref_answer_B50
    rw [if_neg (show ¬ (4 : Int32) ≤ nI k from nI_ge (a := k) (b := 4) (by omega) (by decide)), if_pos rfl, n7m, nI_add, ck (by omega) (by decide), nI_clamp (show 7 * m + k < 2 ^ 31 by omega), pr_mark hn (show Ptr n ((qp S 25 (marksF (S 25) (fun k => S 16 (7 * m + k)) k)) 16 (7 * m + k)) from hv k (by omega)), Option.bind_some, qp_qp, nI_1]
    rfl
theorem marks_congr {n : Nat} {f g vs ws : Nat → Int32} (hn : n ≤ 11) (hv : ∀ k, k < 4 → Ptr n (vs k)) (he : ∀ k, k < 4 → ws k = vs k) (h : ∀ c, c < n → g c = f c) : ∀ k, k ≤ 4 → ∀ c, c < n → marksF g ws k c = marksF f vs k c := by
  intro k
  induction k with
  | zero => intro _; exact h
  | succ k ih =>
    intro hk
    unfold marksF
    rw [he k (by omega)]
    exact markF_congr hn (hv k (by omega)) (ih (by omega))
