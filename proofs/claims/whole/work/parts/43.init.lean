/-! ===== the pure part: the two new objects ===== -/
theorem blank_any {n c : Nat} {S : QS} (hn : n ≤ 11) (hm : S 0 0 = nI n) (hc : c < n) : ∃ S', qf_Mem_blank (nI c) S = some S' ∧ S' 0 = S 0 ∧ S' 1 = S 1 ∧ S' 2 = upd (upd (upd (S 2) (3 * c + 0) (-1)) (3 * c + 1) (-1)) (3 * c + 2) 0 := by
  obtain ⟨S1, e1⟩ : ∃ S1, S1 = qp S 2 (upd (S 2) (3 * c + 0) (-1)) := ⟨_, rfl⟩
  obtain ⟨S2, e2⟩ : ∃ S2, S2 = qp S1 2 (upd (S1 2) (3 * c + 1) (-1)) := ⟨_, rfl⟩
  obtain ⟨S3, e3⟩ : ∃ S3, S3 = qp S2 2 (upd (S2 2) (3 * c + 2) 0) := ⟨_, rfl⟩
  have m1 : S1 0 0 = nI n := by rw [e1]; exact hm
  have m2 : S2 0 0 = nI n := by rw [e2]; exact m1
  refine ⟨S3, ?_, ?_, ?_, ?_⟩
  · unfold qf_Mem_blank
    show (qf_Mem_put (nI c) (nI 0) (-1) S).bind _ = _
    rw [pm_put hn hm hc (by omega), Option.bind_some, ← e1]
    show (qf_Mem_put (nI c) (nI 1) (-1) S1).bind _ = _
    rw [pm_put hn m1 hc (by omega), Option.bind_some, ← e2]
    show (qf_Mem_put (nI c) (nI 2) 0 S2).bind _ = _
    rw [pm_put hn m2 hc (by omega), Option.bind_some, ← e3]
  · rw [e3, e2, e1]; rfl
  · rw [e3, e2, e1]; rfl
  · rw [e3, qp_eq, e2, qp_eq, e1, qp_eq]
def iniF (j : Nat) : Int32 := if j % 3 = 2 then 0 else -1
theorem meminit_lp {n : Nat} (hn : n ≤ 11) : ∀ (d i N : Nat) (S : QS), i + d = n → d < N → S 0 0 = nI n → (∀ c, S 1 c = 0) → (∀ j, j < 3 * i → S 2 j = iniF j) → ∃ S', qfix qf_Mem_init_F27 N (nI n, nI i, S) = some S' ∧ S' 0 0 = nI n ∧ (∀ c, S' 1 c = 0) ∧ ∀ j, j < 3 * n → S' 2 j = iniF j := by
  intro d
  induction d with
  | zero =>
    intro i N S hi hN h0 h1 h2
    obtain ⟨N, rfl⟩ : ∃ M, N = M + 1 := ⟨N - 1, by omega⟩
    obtain rfl : i = n := by omega
    refine ⟨S, ?_, h0, h1, h2⟩
    show qf_Mem_init_B27 (qfix qf_Mem_init_F27 N) (nI i) (nI i) S = _
    unfold qf_Mem_init_B27
    rw [if_pos (nI_le (Nat.le_refl _) (by omega))]
  | succ d ih =>
    intro i N S hi hN h0 h1 h2
    obtain ⟨N, rfl⟩ : ∃ M, N = M + 1 := ⟨N - 1, by omega⟩
    obtain ⟨T, t0, t1, t2, t3⟩ := blank_any (c := i) hn h0 (by omega)
    obtain ⟨S', e, q⟩ := ih (i + 1) N T (by omega) (by omega) (by rw [t1]; exact h0) (fun c => by rw [t2]; exact h1 c) (fun j hj => by
      rw [t3]
      unfold iniF
      by_cases e2 : j = 3 * i + 2
      · subst e2; rw [up_eq, if_pos (by omega)]
      · rw [up_ne _ _ e2]
        by_cases e1 : j = 3 * i + 1
        · subst e1; rw [up_eq, if_neg (by omega)]
        · rw [up_ne _ _ e1]
          by_cases e0 : j = 3 * i + 0
          · subst e0; rw [up_eq, if_neg (by omega)]
          · rw [up_ne _ _ e0]
            exact h2 j (by omega))
    refine ⟨S', ?_, q⟩
    rw [← e]
    show qf_Mem_init_B27 (qfix qf_Mem_init_F27 N) (nI n) (nI i) S = _
    unfold qf_Mem_init_B27
    rw [if_neg (nI_ge (by omega) (by omega)), t0, Option.bind_some, nI_1]
theorem mem_init {n : Nat} (hn : n ≤ 11) : ∃ S, qf_Mem_init (nI n) = some S ∧ S 0 0 = nI n ∧ (∀ c, S 1 c = 0) ∧ ∀ j, j < 3 * n → S 2 j = iniF j := by
  obtain ⟨S, e, q⟩ := meminit_lp hn n 0 qN (qp qz 0 (fun _ => nI n)) (by omega) (by unfold qN; omega) rfl (fun _ => rfl) (fun j hj => by omega)
  refine ⟨S, ?_, q⟩
  unfold qf_Mem_init
  rw [n3m, nI_clamp (show n < 2 ^ 31 by omega), nI_clamp (show 3 * n < 2 ^ 31 by omega), if_neg (fun h => h.elim (nI_pos (by omega)) (fun h => h (by omega))), if_neg (fun h => h.elim (nI_pos (by omega)) (fun h => h (by omega)))]
  exact e
theorem i246 {m : Nat} (hm : m < 2) (K : (Int32 × QS) → Option QS) : ∀ (d k N : Nat) (S : QS), k + d = 4 → d < N → ∃ S', qfix (qf_Ref_init_F246 K) N (nI m, nI k, S) = K (nI (m + 1), S') ∧ (∀ g, g ≠ 16 → S' g = S g) ∧ ∀ j, S' 16 j = if 7 * m + k ≤ j ∧ j < 7 * m + 4 then -1 else S 16 j := by
  intro d
  induction d with
  | zero =>
    intro k N S hk hN
    obtain ⟨N, rfl⟩ : ∃ M, N = M + 1 := ⟨N - 1, by omega⟩
    obtain rfl : k = 4 := by omega
    refine ⟨S, ?_, fun _ _ => rfl, fun j => by rw [if_neg (by omega)]⟩
    show qf_Ref_init_B246 K (qfix (qf_Ref_init_F246 K) N) (nI m) (nI 4) S = _
    unfold qf_Ref_init_B246
    rw [if_pos (by decide), nI_1]
  | succ d ih =>
    intro k N S hk hN
    obtain ⟨N, rfl⟩ : ∃ M, N = M + 1 := ⟨N - 1, by omega⟩
    obtain ⟨S', e, q1, q2⟩ := ih (k + 1) N (qp S 16 (upd (S 16) (7 * m + k) (-1))) (by omega) (by omega)
    refine ⟨S', ?_, fun g h => by rw [q1 g h, qp_ne _ _ h], fun j => ?_⟩
    · rw [← e]
      show qf_Ref_init_B246 K (qfix (qf_Ref_init_F246 K) N) (nI m) (nI k) S = _
      unfold qf_Ref_init_B246
      rw [if_neg (show ¬ (4 : Int32) ≤ nI k from nI_ge (a := k) (b := 4) (by omega) (by decide)), n7m, nI_add, ck (by omega) (by decide), nI_clamp (show 7 * m + k < 2 ^ 31 by omega), nI_1]
    · rw [q2 j]
      show (if 7 * m + (k + 1) ≤ j ∧ j < 7 * m + 4 then (-1 : Int32) else upd (S 16) (7 * m + k) (-1) j) = _
      by_cases e1 : j = 7 * m + k
      · subst e1
        rw [if_neg (by omega), up_eq, if_pos (by omega)]
      · rw [up_ne _ _ e1]
        by_cases e2 : 7 * m + (k + 1) ≤ j ∧ j < 7 * m + 4
        · rw [if_pos e2, if_pos (by omega)]
        · rw [if_neg e2, if_neg (by omega)]
theorem i239s (N : Nat) (x : Int32) (S : QS) : qfix qf_Ref_init_F239 (N + 1) (x, S) = if 2 ≤ x then some S else qfix (qf_Ref_init_F246 (qfix qf_Ref_init_F239 N)) qN (x, 0, S) := rfl
theorem i239 (M : Nat) (hM : qN = M + 3) (S : QS) : ∃ S', qfix qf_Ref_init_F239 qN (nI 0, S) = some S' ∧ (∀ g, g ≠ 16 → S' g = S g) ∧ ∀ j, S' 16 j = if j < 4 ∨ (7 ≤ j ∧ j < 11) then -1 else S 16 j := by
  obtain ⟨S1, e1, g1, h1⟩ := i246 (m := 0) (by omega) (qfix qf_Ref_init_F239 (M + 2)) 4 0 qN S (by omega) (by unfold qN; omega)
  obtain ⟨S2, e2, g2, h2⟩ := i246 (m := 1) (by omega) (qfix qf_Ref_init_F239 (M + 1)) 4 0 qN S1 (by omega) (by unfold qN; omega)
  refine ⟨S2, ?_, fun g h => by rw [g2 g h, g1 g h], fun j => ?_⟩
  · have a1 : qfix qf_Ref_init_F239 (M + 3) (nI 0, S) = qfix (qf_Ref_init_F246 (qfix qf_Ref_init_F239 (M + 2))) qN (nI 0, nI 0, S) := by
      rw [i239s, if_neg (by decide), nI_0]
    have a2 : qfix qf_Ref_init_F239 (M + 2) (nI (0 + 1), S1) = qfix (qf_Ref_init_F246 (qfix qf_Ref_init_F239 (M + 1))) qN (nI 1, nI 0, S1) := by
      rw [i239s, if_neg (by decide), nI_0]
    have a3 : qfix qf_Ref_init_F239 (M + 1) (nI (1 + 1), S2) = some S2 := by
      rw [i239s, if_pos (by decide)]
    have a0 : qfix qf_Ref_init_F239 qN (nI 0, S) = qfix qf_Ref_init_F239 (M + 3) (nI 0, S) := congrArg (fun z => qfix qf_Ref_init_F239 z (nI 0, S)) hM
    exact a0.trans (a1.trans (e1.trans (a2.trans (e2.trans a3))))
  · rw [h2 j, h1 j]
    by_cases a : j < 4 ∨ (7 ≤ j ∧ j < 11)
    · rw [if_pos a]
      by_cases b : 7 * 1 + 0 ≤ j ∧ j < 7 * 1 + 4
      · rw [if_pos b]
      · rw [if_neg b, if_pos (by omega)]
    · rw [if_neg a, if_neg (by omega), if_neg (by omega)]
theorem i207s (N : Nat) (x : Int32) (S : QS) : qfix qf_Ref_init_F207 (N + 1) (x, S) = if 33 ≤ x then qfix qf_Ref_init_F239 qN (0, S) else if (x - x / 3 * 3) = 2 then qf_Ref_init_j230 (qfix qf_Ref_init_F207 N) x 0 x S else qf_Ref_init_j230 (qfix qf_Ref_init_F207 N) x (-1) x S := rfl
theorem i207 : ∀ (d k N : Nat) (S : QS), k + d = 33 → d < N → ∃ S', qfix qf_Ref_init_F207 N (nI k, S) = qfix qf_Ref_init_F239 qN (nI 0, S') ∧ (∀ g, g ≠ 26 → S' g = S g) ∧ ∀ j, S' 26 j = if k ≤ j ∧ j < 33 then iniF j else S 26 j := by
  intro d
  induction d with
  | zero =>
    intro k N S hk hN
    obtain ⟨N, rfl⟩ : ∃ M, N = M + 1 := ⟨N - 1, by omega⟩
    obtain rfl : k = 33 := by omega
    refine ⟨S, ?_, fun _ _ => rfl, fun j => by rw [if_neg (by omega)]⟩
    rw [i207s, if_pos (by decide), nI_0]
  | succ d ih =>
    intro k N S hk hN
    obtain ⟨N, rfl⟩ : ∃ M, N = M + 1 := ⟨N - 1, by omega⟩
    obtain ⟨S', e, q1, q2⟩ := ih (k + 1) N (qp S 26 (upd (S 26) k (iniF k))) (by omega) (by omega)
    have hmod : nI k - nI k / 3 * 3 = nI (k % 3) := pk_rem (d := 3) (by omega) (by decide) (by decide)
    refine ⟨S', ?_, fun g h => by rw [q1 g h, qp_ne _ _ h], fun j => ?_⟩
    · refine Eq.trans ?_ e
      rw [i207s]
      unfold qf_Ref_init_j230
      rw [if_neg (show ¬ (33 : Int32) ≤ nI k from nI_ge (a := k) (b := 33) (by omega) (by decide)), hmod, ck (by omega) (by decide), ck (by omega) (by decide), nI_clamp (show k < 2 ^ 31 by omega), nI_1]
      unfold iniF
      by_cases h2 : k % 3 = 2
      · rw [if_pos h2, h2, if_pos (show nI 2 = 2 from rfl)]
      · rw [if_neg h2, if_neg (show ¬ nI (k % 3) = 2 from nNe 2 rfl (by omega) (by decide) h2)]
    · rw [q2 j]
      show (if k + 1 ≤ j ∧ j < 33 then iniF j else upd (S 26) k (iniF k) j) = _
      by_cases e1 : j = k
      · subst e1
        rw [if_neg (by omega), up_eq, if_pos (by omega)]
      · rw [up_ne _ _ e1]
        by_cases e2 : k + 1 ≤ j ∧ j < 33
        · rw [if_pos e2, if_pos (by omega)]
        · rw [if_neg e2, if_neg (by omega)]
theorem init_both (x : Int32) : ∃ (n : Nat) (r src mem mu0 bu0 ou0 mu1 bu1 ou1 col : QS), qf_Qs_init x = some (src, mem, mu0, bu0, ou0, mu1, bu1, ou1, col) ∧ qf_Ref_init x = some r ∧ RAll n 0 r src mem mu0 bu0 ou0 mu1 bu1 ou1 col := by
  obtain ⟨j, hj, ej⟩ := pk_andE x (m := 7) 3 (by decide)
  have hj : j < 8 := hj
  have e4 : 4 + (x &&& 7) = nI (4 + j) := by
    rw [ej]
    exact nI_add 4 j
  obtain ⟨mem, m0, m1, m2, m3⟩ := mem_init (n := 4 + j) (by omega)
  obtain ⟨S1, s1, s2, s3⟩ := i207 33 0 qN (qp (qp qz 0 (fun _ => nI (4 + j))) 28 (fun _ => -1)) (by omega) (by unfold qN; omega)
  obtain ⟨r, t1, t2, t3⟩ := i239 997 rfl S1
  have hr : ∀ g, g ≠ 16 → g ≠ 26 → r g = (qp (qp qz 0 (fun _ => nI (4 + j))) 28 (fun _ => -1)) g := fun g a b => by rw [t2 g a, s2 g b]
  have h16 : ∀ i, r 16 i = if i < 4 ∨ (7 ≤ i ∧ i < 11) then -1 else 0 := fun i => by
    rw [t3 i, s2 16 (by decide)]
    rfl
  have h26 : ∀ i, i < 33 → r 26 i = iniF i := fun i hi => by
    rw [t2 26 (by decide), s3 i, if_pos (by omega)]
  have hmut : ∀ m : Nat, m < 2 → RMut (4 + j) m (qp qz 3 (upd (upd (upd (upd (fun _ => 0) (Int32.toNatClampNeg 0) (-1)) (Int32.toNatClampNeg 1) (-1)) (Int32.toNatClampNeg 2) (-1)) (Int32.toNatClampNeg 3) (-1))) (r 10) (r 11) (r 12) (r 13) (r 14) (r 15) (r 16) (r 17) (r 18) := fun m hm => by
    refine ⟨⟨0, 0, by omega, by omega, rfl, ?_, rfl, ?_, fun k hk => by omega⟩, ⟨fun k hk => ?_, fun k hk => ?_⟩, ⟨0, by omega, rfl, ?_⟩, ?_⟩
    · rw [hr 10 (by decide) (by decide)]; rfl
    · rw [hr 15 (by decide) (by decide)]; rfl
    · rw [h16, if_pos (by omega)]
      have hs : k = 0 ∨ k = 1 ∨ k = 2 ∨ k = 3 := by omega
      rcases hs with rfl | rfl | rfl | rfl <;> exact ⟨rfl, Or.inl rfl⟩
    · rw [h16, if_neg (by omega)]; rfl
    · rw [hr 17 (by decide) (by decide)]; rfl
    · rw [hr 18 (by decide) (by decide)]; rfl
  have hbuf : ∀ m : Nat, m < 2 → RBuf (4 + j) m qz (r 19) (r 20) (r 21) (r 22) := fun m hm => ⟨0, by omega, rfl, by rw [hr 19 (by decide) (by decide)]; rfl, fun k hk => by omega⟩
  have hout : ∀ m : Nat, m < 2 → ROut 0 m qz (r 23) (r 24) := fun m hm => ⟨0, by omega, rfl, by rw [hr 23 (by decide) (by decide)]; rfl, fun k hk => by rw [hr 24 (by decide) (by decide)]; rfl⟩
  refine ⟨4 + j, r, qz, mem, qp qz 3 (upd (upd (upd (upd (fun _ => 0) (Int32.toNatClampNeg 0) (-1)) (Int32.toNatClampNeg 1) (-1)) (Int32.toNatClampNeg 2) (-1)) (Int32.toNatClampNeg 3) (-1)), qz, qz, qp qz 3 (upd (upd (upd (upd (fun _ => 0) (Int32.toNatClampNeg 0) (-1)) (Int32.toNatClampNeg 1) (-1)) (Int32.toNatClampNeg 2) (-1)) (Int32.toNatClampNeg 3) (-1)), qz, qz, qp qz 2 (fun _ => -1), ?_, ?_, by omega, by omega, ⟨0, by omega, rfl, by rw [hr 2 (by decide) (by decide)]; rfl, fun i hi => by omega⟩, ⟨m1, by rw [hr 0 (by decide) (by decide)]; rfl, fun c hc => by rw [hr 25 (by decide) (by decide), m2 c]; rfl, fun i hi => by rw [h26 i (by omega), m3 i hi], fun c hc f hf => ?_⟩, hmut 0 (by omega), hbuf 0 (by omega), hout 0 (by omega), hmut 1 (by omega), hbuf 1 (by omega), hout 1 (by omega), ⟨0, by omega, rfl, by rw [hr 27 (by decide) (by decide)]; rfl, by rw [hr 28 (by decide) (by decide)]; rfl, Or.inl rfl, by rw [hr 29 (by decide) (by decide)]; rfl, fun h => by omega, by rw [hr 30 (by decide) (by decide)]; rfl⟩⟩
  · unfold qf_Qs_init
    rw [e4, m0]
    rfl
  · unfold qf_Ref_init
    rw [e4]
    exact s1.trans t1
  · rw [m3 _ (by omega)]
    unfold iniF
    rw [if_neg (by omega)]
    exact Or.inl rfl
