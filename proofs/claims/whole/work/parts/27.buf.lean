/-! ===== the pure part: buffers ===== -/
def lookF (c f : Int32) (b0 b1 b2 : Nat → Int32) (mv : Int32) : Nat → Int32
  | 0 => mv
  | k + 1 => if b0 k = c then (if b1 k = f then b2 k else lookF c f b0 b1 b2 mv k) else lookF c f b0 b1 b2 mv k
theorem lookF_s (c f : Int32) (b0 b1 b2 : Nat → Int32) (mv : Int32) (k : Nat) : lookF c f b0 b1 b2 mv (k + 1) = if b0 k = c then (if b1 k = f then b2 k else lookF c f b0 b1 b2 mv k) else lookF c f b0 b1 b2 mv k := rfl
theorem lookF_congr {c f : Int32} {b0 b1 b2 a0 a1 a2 : Nat → Int32} {mv mw : Int32} (h : mv = mw) : ∀ b : Nat, (∀ k, k < b → a0 k = b0 k ∧ a1 k = b1 k ∧ a2 k = b2 k) → lookF c f a0 a1 a2 mv b = lookF c f b0 b1 b2 mw b := by
  intro b
  induction b with
  | zero => intro _; exact h
  | succ b ih =>
    intro hk
    obtain ⟨e0, e1, e2⟩ := hk b (by omega)
    unfold lookF
    rw [e0, e1, e2, ih (fun k h => hk k (by omega))]
theorem addm1 (a : Int32) : a + (-1) = a - 1 := by
  rw [Int32.sub_eq_add_neg]
theorem look_lp {n c f : Nat} {bu mem : QS} (hn : n ≤ 11) (hm : mem 0 0 = nI n) (hc : c < n) (hf : f < 3) : ∀ k N : Nat, k ≤ 3 → k < N → qfix qf_Buf_look_F8 N (nI c, nI f, nI k - 1, bu, mem) = some (lookF (nI c) (nI f) (bu 0) (bu 1) (bu 2) (mem 2 (3 * c + f)) k) := by
  intro k
  induction k with
  | zero =>
    intro N _ hN
    obtain ⟨N, rfl⟩ : ∃ M, N = M + 1 := ⟨N - 1, by omega⟩
    show qf_Buf_look_B8 (qfix qf_Buf_look_F8 N) (nI c) (nI f) (nI 0 - 1) bu mem = _
    unfold qf_Buf_look_B8
    rw [if_pos (by decide), pm_read hn hm hc hf]
    rfl
  | succ k ih =>
    intro N hk hN
    obtain ⟨N, rfl⟩ : ∃ M, N = M + 1 := ⟨N - 1, by omega⟩
    show qf_Buf_look_B8 _ (nI c) (nI f) (nI (k + 1) - 1) bu mem = _
    unfold qf_Buf_look_B8 lookF
    rw [nI_pred, if_neg (nI_pos (by omega)), ck (by omega) (by decide), ck (by omega) (by decide), ck (by omega) (by decide), nI_clamp (by omega), addm1, ih N (by omega) (by omega)]
    by_cases h0 : bu 0 k = nI c
    · rw [if_pos h0, if_pos h0]
      by_cases h1 : bu 1 k = nI f
      · rw [if_pos h1, if_pos h1]
      · rw [if_neg h1, if_neg h1]
    · rw [if_neg h0, if_neg h0]
theorem pb_look {n c f b : Nat} {bu mem : QS} (hn : n ≤ 11) (hm : mem 0 0 = nI n) (hc : c < n) (hf : f < 3) (hb : bu 3 0 = nI b) (hb3 : b ≤ 3) : qf_Buf_look (nI c) (nI f) bu mem = some (lookF (nI c) (nI f) (bu 0) (bu 1) (bu 2) (mem 2 (3 * c + f)) b) := by
  unfold qf_Buf_look
  rw [hb]
  exact look_lp hn hm hc hf b qN hb3 (by unfold qN; omega)
theorem sees_lp {m c f b : Nat} {r : QS} {mv : Int32} (hm : m < 2) (hb : r 19 m = nI b) (hb3 : b ≤ 3) : ∀ d k N : Nat, k + d = b → d < N → qfix qf_Ref_sees_F15 N (nI m, nI c, nI f, lookF (nI c) (nI f) (fun k => r 20 (3 * m + k)) (fun k => r 21 (3 * m + k)) (fun k => r 22 (3 * m + k)) mv k, nI k, r) = some (lookF (nI c) (nI f) (fun k => r 20 (3 * m + k)) (fun k => r 21 (3 * m + k)) (fun k => r 22 (3 * m + k)) mv b) := by
  intro d
  induction d with
  | zero =>
    intro k N hk hN
    obtain ⟨N, rfl⟩ : ∃ M, N = M + 1 := ⟨N - 1, by omega⟩
    obtain rfl : k = b := by omega
    show qf_Ref_sees_B15 (qfix qf_Ref_sees_F15 N) (nI m) (nI c) (nI f) _ (nI k) r = _
    unfold qf_Ref_sees_B15
    rw [ck hm (by decide), nI_clamp (by omega), hb, if_pos (nI_le (by omega) (by omega))]
  | succ d ih =>
    intro k N hk hN
    obtain ⟨N, rfl⟩ : ∃ M, N = M + 1 := ⟨N - 1, by omega⟩
    have e := ih (k + 1) N (by omega) (by omega)
    show qf_Ref_sees_B15 _ (nI m) (nI c) (nI f) _ (nI k) r = _
    unfold qf_Ref_sees_B15
    rw [ck hm (by decide), nI_clamp (show m < 2 ^ 31 by omega), hb, if_neg (nI_ge (by omega) (by omega)), n3m, nI_add, ck (by omega) (by decide), ck (by omega) (by decide), ck (by omega) (by decide), nI_clamp (show 3 * m + k < 2 ^ 31 by omega), nI_1]
    rw [lookF_s] at e
    by_cases h0 : r 20 (3 * m + k) = nI c
    · rw [if_pos h0] at e ⊢
      by_cases h1 : r 21 (3 * m + k) = nI f
      · rw [if_pos h1] at e ⊢
        exact e
      · rw [if_neg h1] at e ⊢
        exact e
    · rw [if_neg h0] at e ⊢
      exact e
theorem pr_sees {m c f b : Nat} {r : QS} (hm : m < 2) (hc : c < 11) (hf : f < 3) (hb : r 19 m = nI b) (hb3 : b ≤ 3) : qf_Ref_sees (nI m) (nI c) (nI f) r = some (lookF (nI c) (nI f) (fun k => r 20 (3 * m + k)) (fun k => r 21 (3 * m + k)) (fun k => r 22 (3 * m + k)) (r 26 (3 * c + f)) b) := by
  unfold qf_Ref_sees
  rw [n3m, nI_add, ck (by omega) (by decide), nI_clamp (by omega)]
  exact sees_lp (mv := r 26 (3 * c + f)) hm hb hb3 b 0 qN (by omega) (by unfold qN; omega)
theorem look_ptr {n : Nat} {c f : Nat} {b0 b1 b2 : Nat → Int32} {mv : Int32} (hf : f < 2) (hmv : Ptr n mv) : ∀ b : Nat, (∀ k, k < b → ∃ c f, c < n ∧ f < 3 ∧ b0 k = nI c ∧ b1 k = nI f ∧ (f < 2 → Ptr n (b2 k))) → Ptr n (lookF (nI c) (nI f) b0 b1 b2 mv b) := by
  intro b
  induction b with
  | zero => intro _; exact hmv
  | succ b ih =>
    intro hk
    have hi := ih (fun k h => hk k (by omega))
    unfold lookF
    by_cases h0 : b0 b = nI c
    · rw [if_pos h0]
      by_cases h1 : b1 b = nI f
      · rw [if_pos h1]
        obtain ⟨c', f', hc', hf', e0, e1, hp⟩ := hk b (by omega)
        refine hp ?_
        have : f' = f := (nI_eq (by omega) (by omega)).mp (e1.symm.trans h1)
        omega
      · rw [if_neg h1]; exact hi
    · rw [if_neg h0]; exact hi
/-- what both sides see -/
theorem see_both {n m c f : Nat} {bu mem r : QS} (hn : n ≤ 11) (hm2 : m < 2) (hM : RMem n mem (r 0) (r 25) (r 26)) (hB : RBuf n m bu (r 19) (r 20) (r 21) (r 22)) (hc : c < n) (hf : f < 3) : ∃ v, qf_Buf_look (nI c) (nI f) bu mem = some v ∧ qf_Ref_sees (nI m) (nI c) (nI f) r = some v ∧ (f < 2 → Ptr n v) := by
  obtain ⟨b, hb3, hb, hb', hk⟩ := hB
  refine ⟨_, pb_look hn hM.1 hc hf hb hb3, ?_, fun h2 => look_ptr h2 (pm_ptr hM hc h2) b (fun k h => ?_)⟩
  · rw [pr_sees hm2 (by omega) hf hb' hb3]
    refine congrArg some (lookF_congr (hM.2.2.2.1 _ (by omega)) b (fun k h => ?_))
    obtain ⟨c', f', _, _, e0, e1, e2, e3, e4, _⟩ := hk k h
    exact ⟨e1.trans e0.symm, e3.trans e2.symm, e4⟩
  · obtain ⟨c', f', h1, h2', e0, e1, e2, e3, e4, hp⟩ := hk k h
    exact ⟨c', f', h1, h2', e0, e2, hp⟩
/-! the oldest store passes -/
def shG (f : Nat → Int32) (o s : Nat) : Nat → Int32 := fun k => if o ≤ k ∧ k < o + s then f (k + 1) else f k
theorem shG_0 (f : Nat → Int32) (o : Nat) : shG f o 0 = f := by
  funext k
  unfold shG
  rw [if_neg (by omega)]
theorem shG_s (f : Nat → Int32) (o s : Nat) : upd (shG f o s) (o + s) (shG f o s (o + s + 1)) = shG f o (s + 1) := by
  funext k
  unfold upd shG
  by_cases h : k = o + s
  · subst h
    rw [if_pos rfl, if_neg (by omega), if_pos (by omega)]
  · rw [if_neg h]
    by_cases h2 : o ≤ k ∧ k < o + s
    · rw [if_pos h2, if_pos (by omega)]
    · rw [if_neg h2, if_neg (by omega)]
theorem qp_qp (s : QS) (k : Nat) (f g : Nat → Int32) : qp (qp s k f) k g = qp s k g := by
  funext j
  by_cases h : j = k
  · subst h; rw [qp_eq, qp_eq]
  · rw [qp_ne _ _ h, qp_ne _ _ h, qp_ne _ _ h]
theorem qp_comm (s : QS) {k j : Nat} (f g : Nat → Int32) (h : k ≠ j) : qp (qp s k f) j g = qp (qp s j g) k f := by
  funext i
  by_cases h1 : i = j
  · subst h1; rw [qp_eq, qp_ne _ _ (Ne.symm h), qp_eq]
  · rw [qp_ne _ _ h1]
    by_cases h2 : i = k
    · subst h2; rw [qp_eq, qp_eq]
    · rw [qp_ne _ _ h2, qp_ne _ _ h2, qp_ne _ _ h1]
theorem qp3 (s : QS) {i j k : Nat} (hij : i ≠ j) (hik : i ≠ k) (hjk : j ≠ k) (a b c a' b' c' : Nat → Int32) : qp (qp (qp (qp (qp (qp s i a) j b) k c) i a') j b') k c' = qp (qp (qp s i a') j b') k c' := by
  funext g
  by_cases h1 : g = k
  · subst h1; rw [qp_eq, qp_eq]
  · rw [qp_ne _ _ h1, qp_ne _ _ h1]
    by_cases h2 : g = j
    · subst h2; rw [qp_eq, qp_eq]
    · rw [qp_ne _ _ h2, qp_ne _ _ h2]
      by_cases h3 : g = i
      · subst h3; rw [qp_eq, qp_eq]
      · rw [qp_ne _ _ h3, qp_ne _ _ h3, qp_ne _ _ h1, qp_ne _ _ h2, qp_ne _ _ h3]
theorem pass_lp {bu mem : QS} {b : Nat} (hb2 : b ≤ 2) : ∀ (d s N : Nat) (S : QS), s + d = b → d < N → S 3 0 = nI b → S 0 = shG (bu 0) 0 s → S 1 = shG (bu 1) 0 s → S 2 = shG (bu 2) 0 s → ∃ S', qfix qf_Buf_passOldest_F43 N (nI s, S, mem) = some (1, S', mem) ∧ S' 3 0 = nI b ∧ S' 0 = shG (bu 0) 0 b ∧ S' 1 = shG (bu 1) 0 b ∧ S' 2 = shG (bu 2) 0 b := by
  intro d
  induction d with
  | zero =>
    intro s N S hs hN hb h0 h1 h2
    obtain ⟨N, rfl⟩ : ∃ M, N = M + 1 := ⟨N - 1, by omega⟩
    obtain rfl : s = b := by omega
    refine ⟨S, ?_, hb, h0, h1, h2⟩
    show qf_Buf_passOldest_B43 (qfix qf_Buf_passOldest_F43 N) (nI s) S mem = _
    unfold qf_Buf_passOldest_B43
    rw [if_pos (show S 3 0 ≤ nI s by rw [hb]; exact nI_le (by omega) (by omega))]
  | succ d ih =>
    intro s N S hs hN hb h0 h1 h2
    obtain ⟨N, rfl⟩ : ∃ M, N = M + 1 := ⟨N - 1, by omega⟩
    have e0 := shG_s (bu 0) 0 s
    have e1 := shG_s (bu 1) 0 s
    have e2 := shG_s (bu 2) 0 s
    rw [Nat.zero_add, ← h0] at e0
    rw [Nat.zero_add, ← h1] at e1
    rw [Nat.zero_add, ← h2] at e2
    obtain ⟨S', e, r⟩ := ih (s + 1) N (qp (qp (qp S 0 (upd (S 0) s (S 0 (s + 1)))) 1 (upd (S 1) s (S 1 (s + 1)))) 2 (upd (S 2) s (S 2 (s + 1)))) (by omega) (by omega) hb e0 e1 e2
    refine ⟨S', ?_, r⟩
    rw [← e]
    show qf_Buf_passOldest_B43 (qfix qf_Buf_passOldest_F43 N) (nI s) S mem = _
    unfold qf_Buf_passOldest_B43
    rw [if_neg (show ¬ S 3 0 ≤ nI s by rw [hb]; exact nI_ge (by omega) (by omega)), nI_1, ck (by omega) (by decide), ck (by omega) (by decide), ck (by omega) (by decide), ck (by omega) (by decide), ck (by omega) (by decide), ck (by omega) (by decide), nI_clamp (show s < 2 ^ 31 by omega), nI_clamp (show s + 1 < 2 ^ 31 by omega)]
theorem flush_lp {r : QS} {m b : Nat} (hm : m < 2) (hb2 : b ≤ 2) : ∀ (d s N : Nat) (S : QS), s + d = b → d < N → S 19 m = nI b → S 20 = shG (r 20) (3 * m) s → S 21 = shG (r 21) (3 * m) s → S 22 = shG (r 22) (3 * m) s → ∃ S', qfix qf_Ref_flush_F57 N (nI m, nI (3 * m + s), S) = some (1, S') ∧ S' 20 = shG (r 20) (3 * m) b ∧ S' 21 = shG (r 21) (3 * m) b ∧ S' 22 = shG (r 22) (3 * m) b ∧ ∀ g, g ≠ 20 → g ≠ 21 → g ≠ 22 → S' g = S g := by
  intro d
  induction d with
  | zero =>
    intro s N S hs hN hb h0 h1 h2
    obtain ⟨N, rfl⟩ : ∃ M, N = M + 1 := ⟨N - 1, by omega⟩
    obtain rfl : s = b := by omega
    refine ⟨S, ?_, h0, h1, h2, fun _ _ _ _ => rfl⟩
    show qf_Ref_flush_B57 (qfix qf_Ref_flush_F57 N) (nI m) (nI (3 * m + s)) S = _
    unfold qf_Ref_flush_B57
    rw [ck hm (by decide), nI_clamp (show m < 2 ^ 31 by omega), hb, n3m, nI_add, if_pos (nI_le (by omega) (by omega))]
  | succ d ih =>
    intro s N S hs hN hb h0 h1 h2
    obtain ⟨N, rfl⟩ : ∃ M, N = M + 1 := ⟨N - 1, by omega⟩
    have e0 := shG_s (r 20) (3 * m) s
    have e1 := shG_s (r 21) (3 * m) s
    have e2 := shG_s (r 22) (3 * m) s
    rw [← h0] at e0
    rw [← h1] at e1
    rw [← h2] at e2
    obtain ⟨S', e, q0, q1, q2, q3⟩ := ih (s + 1) N (qp (qp (qp S 20 (upd (S 20) (3 * m + s) (S 20 (3 * m + s + 1)))) 21 (upd (S 21) (3 * m + s) (S 21 (3 * m + s + 1)))) 22 (upd (S 22) (3 * m + s) (S 22 (3 * m + s + 1)))) (by omega) (by omega) hb e0 e1 e2
    refine ⟨S', ?_, q0, q1, q2, fun g a b c => by rw [q3 g a b c, qp_ne _ _ c, qp_ne _ _ b, qp_ne _ _ a]⟩
    rw [← e]
    show qf_Ref_flush_B57 (qfix qf_Ref_flush_F57 N) (nI m) (nI (3 * m + s)) S = _
    unfold qf_Ref_flush_B57
    rw [ck hm (by decide), nI_clamp (show m < 2 ^ 31 by omega), hb, n3m, nI_add, if_neg (nI_ge (by omega) (by omega)), nI_1, ck (by omega) (by decide), ck (by omega) (by decide), ck (by omega) (by decide), ck (by omega) (by decide), ck (by omega) (by decide), ck (by omega) (by decide), nI_clamp (show 3 * m + s < 2 ^ 31 by omega), nI_clamp (show 3 * m + s + 1 < 2 ^ 31 by omega)]
    rfl
theorem qp_ext3 {S S' : QS} {i j k : Nat} (hij : i ≠ j) (hik : i ≠ k) (hjk : j ≠ k) (h : ∀ g, g ≠ i → g ≠ j → g ≠ k → S' g = S g) : S' = qp (qp (qp S i (S' i)) j (S' j)) k (S' k) := by
  funext g
  by_cases h1 : g = k
  · subst h1; rw [qp_eq]
  · rw [qp_ne _ _ h1]
    by_cases h2 : g = j
    · subst h2; rw [qp_eq]
    · rw [qp_ne _ _ h2]
      by_cases h3 : g = i
      · subst h3; rw [qp_eq]
      · rw [qp_ne _ _ h3]; exact h g h3 h2 h1
theorem RBuf_congr {n m : Nat} {bu : QS} {r19 r20 r21 r22 t19 t20 t21 t22 : Nat → Int32} (e9 : t19 m = r19 m) (e0 : ∀ k, k < 3 → t20 (3 * m + k) = r20 (3 * m + k)) (e1 : ∀ k, k < 3 → t21 (3 * m + k) = r21 (3 * m + k)) (e2 : ∀ k, k < 3 → t22 (3 * m + k) = r22 (3 * m + k)) (h : RBuf n m bu r19 r20 r21 r22) : RBuf n m bu t19 t20 t21 t22 := by
  obtain ⟨b, h3, hb, hb', hk⟩ := h
  refine ⟨b, h3, hb, e9.trans hb', fun k h => ?_⟩
  obtain ⟨c, f, a1, a2, a3, a4, a5, a6, a7, a8⟩ := hk k h
  exact ⟨c, f, a1, a2, a3, (e0 k (by omega)).trans a4, a5, (e1 k (by omega)).trans a6, (e2 k (by omega)).trans a7, a8⟩
theorem shG_out {f : Nat → Int32} {o s k : Nat} (h : k < o ∨ o + s ≤ k) : shG f o s k = f k := by
  unfold shG
  rw [if_neg (by omega)]
theorem shG_in {f : Nat → Int32} {o s k : Nat} (h : k < s) : shG f o s (o + k) = f (o + k + 1) := by
  unfold shG
  rw [if_pos (by omega)]
/-- one store passes on both sides; the other mutator's buffer stays -/
theorem pass_both {n m : Nat} {bu mem r : QS} (hn : n ≤ 11) (hm : m < 2) (hM : RMem n mem (r 0) (r 25) (r 26)) (hB : RBuf n m bu (r 19) (r 20) (r 21) (r 22)) : ∃ (a : Int32) (bu' mem' : QS) (t19 t20 t21 t22 t26 : Nat → Int32), (a = 0 ∨ a = 1) ∧ qf_Buf_passOldest bu mem = some (a, bu', mem') ∧ qf_Ref_flush (nI m) r = some (a, qp (qp (qp (qp (qp r 19 t19) 26 t26) 20 t20) 21 t21) 22 t22) ∧ RMem n mem' (r 0) (r 25) t26 ∧ RBuf n m bu' t19 t20 t21 t22 ∧ (∀ (b : Nat), bu 3 0 = nI b → b ≤ 3 → bu' 3 0 = nI (b - 1)) ∧ ∀ m', m' < 2 → m' ≠ m → ∀ bx, RBuf n m' bx (r 19) (r 20) (r 21) (r 22) → RBuf n m' bx t19 t20 t21 t22 := by
  obtain ⟨b, hb3, hb, hb', hk⟩ := hB
  by_cases h0 : b = 0
  · subst h0
    refine ⟨0, bu, mem, r 19, r 20, r 21, r 22, r 26, Or.inl rfl, ?_, ?_, hM, ⟨0, by omega, hb, hb', fun k h => by omega⟩, fun b e h => ?_, fun m' _ _ bx h => h⟩
    · unfold qf_Buf_passOldest
      rw [if_pos (hb.trans nI_0)]
    · unfold qf_Ref_flush
      rw [ck hm (by decide), nI_clamp (show m < 2 ^ 31 by omega), if_pos (hb'.trans nI_0), qp_self]
      rw [show qp (qp (qp (qp r 26 (r 26)) 20 (r 20)) 21 (r 21)) 22 (r 22) = r by rw [qp_self, qp_self, qp_self, qp_self]]
    · have : b = 0 := (nI_eq (by omega) (by omega)).mp (e.symm.trans hb)
      subst this
      exact hb
  · obtain ⟨b, rfl⟩ : ∃ a, b = a + 1 := ⟨b - 1, by omega⟩
    obtain ⟨c, f, hc, hf, a3, a4, a5, a6, a7, a8⟩ := hk 0 (by omega)
    rw [Nat.add_zero] at a4 a6 a7
    have hne : ¬ nI (b + 1) = 0 := nI_ne0 (by omega) (by omega)
    obtain ⟨S', e1, e2, e3, e4, e5⟩ := pass_lp (bu := bu) (mem := qp mem 2 (upd (mem 2) (3 * c + f) (bu 2 0))) (b := b) (by omega) b 0 qN (qp bu 3 (fun _ => nI b)) (by omega) (by unfold qN; omega) rfl (shG_0 _ _).symm (shG_0 _ _).symm (shG_0 _ _).symm
    obtain ⟨T', q1, q2, q3, q4, q5⟩ := flush_lp (r := r) (m := m) (b := b) hm (by omega) b 0 qN (qp (qp r 19 (upd (r 19) m (nI b))) 26 (upd (r 26) (3 * c + f) (r 22 (3 * m)))) (by omega) (by unfold qN; omega) (up_eq _ _ _) (shG_0 _ _).symm (shG_0 _ _).symm (shG_0 _ _).symm
    refine ⟨1, S', qp mem 2 (upd (mem 2) (3 * c + f) (bu 2 0)), upd (r 19) m (nI b), T' 20, T' 21, T' 22, upd (r 26) (3 * c + f) (r 22 (3 * m)), Or.inr rfl, ?_, ?_, ?_, ?_, ?_, ?_⟩
    · unfold qf_Buf_passOldest
      rw [if_neg (by rw [hb]; exact hne), show Int32.toNatClampNeg 0 = 0 from by decide, a3, a5, pm_put hn hM.1 hc hf, hb, nI_pred]
      exact e1
    · unfold qf_Ref_flush
      rw [ck hm (by decide), nI_clamp (show m < 2 ^ 31 by omega), hb', if_neg hne, n3m, ck (by omega) (by decide), ck (by omega) (by decide), ck (by omega) (by decide), nI_clamp (show 3 * m < 2 ^ 31 by omega), a4, a6, n3m, nI_add, ck (by omega) (by decide), ckc hm (by decide), ckc hm (by decide), nI_clamp (show 3 * c + f < 2 ^ 31 by omega), nI_pred]
      rw [← qp_ext3 (S := qp (qp r 19 (upd (r 19) m (nI b))) 26 (upd (r 26) (3 * c + f) (r 22 (3 * m)))) (by decide) (by decide) (by decide) q5]
      exact q1
    · rw [a7]
      exact RMem_put hc hf a8 hM
    · refine ⟨b, by omega, e2, up_eq _ _ _, fun k h => ?_⟩
      obtain ⟨c', f', z1, z2, z3, z4, z5, z6, z7, z8⟩ := hk (k + 1) (by omega)
      rw [e3, e4, e5, q2, q3, q4, shG_in h, shG_in h, shG_in h]
      have w : ∀ g : Nat → Int32, shG g 0 b k = g (k + 1) := fun g => by
        have := shG_in (f := g) (o := 0) (s := b) (k := k) h
        rw [Nat.zero_add] at this
        exact this
      rw [w, w, w]
      exact ⟨c', f', z1, z2, z3, z4, z5, z6, z7, z8⟩
    · intro b' e h
      have : b' = b + 1 := (nI_eq (by omega) (by omega)).mp (e.symm.trans hb)
      subst this
      exact e2
    · intro m' hm' hne' bx hx
      refine RBuf_congr (up_ne _ _ hne') (fun k h => ?_) (fun k h => ?_) (fun k h => ?_) hx
      · rw [q2]; exact shG_out (by omega)
      · rw [q3]; exact shG_out (by omega)
      · rw [q4]; exact shG_out (by omega)
