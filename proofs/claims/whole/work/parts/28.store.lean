/-! ===== the pure part: a store, a new cell ===== -/
theorem pr_stall {m : Nat} {r : QS} (hm : m < 2) : qf_Ref_stall (nI m) r = some (0, qp r 18 (upd (r 18) m (r 18 m + 1))) := by
  unfold qf_Ref_stall
  rw [ck hm (by decide), ck hm (by decide), nI_clamp (by omega)]
theorem nb0 : vp_nar .boolean (0 : Int32) = 0 := by decide
theorem nb1 : vp_nar .boolean (1 : Int32) = 1 := by decide
theorem bz {α : Type} {a : Int32} (ha : a = 0 ∨ a = 1) (x : Option α) : (if vp_nar .boolean a = a then x else none) = x := by
  rcases ha with rfl | rfl
  · rw [if_pos nb0]
  · rw [if_pos nb1]
theorem bzb {β : Type} {a : Int32} {z : β} (ha : a = 0 ∨ a = 1) : ((some (a, z)).bind fun q => if vp_nar .boolean q.1 = q.1 then some (q.1, q.2) else none) = some (a, z) := by
  show (if vp_nar .boolean a = a then some (a, z) else none) = _
  exact bz ha _
theorem RBuf_add {n m c f : Nat} {v : Int32} {bu : QS} {r19 r20 r21 r22 : Nat → Int32} {b : Nat} (hb2 : b ≤ 2) (hb : bu 3 0 = nI b) (hB : RBuf n m bu r19 r20 r21 r22) (hc : c < n) (hf : f < 3) (hv : f < 2 → Ptr n v) : RBuf n m (qp (qp (qp (qp bu 3 (fun _ => nI (b + 1))) 0 (upd (bu 0) b (nI c))) 1 (upd (bu 1) b (nI f))) 2 (upd (bu 2) b v)) (upd r19 m (nI (b + 1))) (upd r20 (3 * m + b) (nI c)) (upd r21 (3 * m + b) (nI f)) (upd r22 (3 * m + b) v) := by
  obtain ⟨b', h3, e, e', hk⟩ := hB
  obtain rfl : b' = b := (nI_eq (by omega) (by omega)).mp (e.symm.trans hb)
  refine ⟨b' + 1, by omega, rfl, up_eq _ _ _, fun k h => ?_⟩
  show ∃ c2 f2, c2 < n ∧ f2 < 3 ∧ upd (bu 0) b' (nI c) k = nI c2 ∧ upd r20 (3 * m + b') (nI c) (3 * m + k) = nI c2 ∧ upd (bu 1) b' (nI f) k = nI f2 ∧ upd r21 (3 * m + b') (nI f) (3 * m + k) = nI f2 ∧ upd r22 (3 * m + b') v (3 * m + k) = upd (bu 2) b' v k ∧ (f2 < 2 → Ptr n (upd (bu 2) b' v k))
  by_cases hkb : k = b'
  · subst hkb
    rw [up_eq, up_eq, up_eq, up_eq, up_eq, up_eq]
    exact ⟨c, f, hc, hf, rfl, rfl, rfl, rfl, rfl, hv⟩
  · have h1 : 3 * m + k ≠ 3 * m + b' := by omega
    rw [up_ne _ _ hkb, up_ne _ _ h1, up_ne _ _ hkb, up_ne _ _ h1, up_ne _ _ h1, up_ne _ _ hkb]
    exact hk k (by omega)
theorem RBuf_add_other {n m m' b : Nat} {x y z w : Int32} {bx : QS} {r19 r20 r21 r22 : Nat → Int32} (hb : b ≤ 2) (hne : m' ≠ m) (h : RBuf n m' bx r19 r20 r21 r22) : RBuf n m' bx (upd r19 m x) (upd r20 (3 * m + b) y) (upd r21 (3 * m + b) z) (upd r22 (3 * m + b) w) :=
  RBuf_congr (up_ne _ _ hne) (fun k hk => up_ne _ _ (by omega)) (fun k hk => up_ne _ _ (by omega)) (fun k hk => up_ne _ _ (by omega)) h
theorem pb_add {b : Nat} {bu : QS} {c f v : Int32} (hb : bu 3 0 = nI b) (hb2 : b ≤ 2) : qf_Buf_add c f v bu = some (qp (qp (qp (qp bu 3 (fun _ => nI (b + 1))) 0 (upd (bu 0) b c)) 1 (upd (bu 1) b f)) 2 (upd (bu 2) b v)) := by
  unfold qf_Buf_add
  rw [hb, ck (by omega) (by decide), ck (by omega) (by decide), ck (by omega) (by decide), nI_clamp (by omega), nI_1]
theorem pr_add {m b : Nat} {r : QS} {c f v : Int32} (hm : m < 2) (hb : r 19 m = nI b) (hb2 : b ≤ 2) : qf_Ref_store_j68 (nI m) c f v r = some (1, qp (qp (qp (qp (qp r 15 (upd (r 15) m (r 15 m + 1))) 19 (upd (r 19) m (nI (b + 1)))) 20 (upd (r 20) (3 * m + b) c)) 21 (upd (r 21) (3 * m + b) f)) 22 (upd (r 22) (3 * m + b) v)) := by
  unfold qf_Ref_store_j68
  simp only [nI_clamp (show m < 2 ^ 31 by omega), hb, n3m, nI_add, nI_1]
  rw [ckc hm (by decide), ck (by omega) (by decide), ck (by omega) (by decide), ck (by omega) (by decide), ckc hm (by decide), ckc hm (by decide), ckc hm (by decide), ckc hm (by decide), nI_clamp (show 3 * m + b < 2 ^ 31 by omega)]
/-- a store on both sides: it stalls on both, or is done on both -/
theorem store_both {n m f : Nat} {cell v : Int32} {mu bu mem r : QS} (hn : n ≤ 11) (hm : m < 2) (hM : RMem n mem (r 0) (r 25) (r 26)) (hB : RBuf n m bu (r 19) (r 20) (r 21) (r 22)) (hst : r 17 m = mu 5 0) (hcell : Ptr n cell) (hf : f < 3) (hv : f < 2 → Ptr n v) :
    (qf_Mut_store cell (nI f) v mu bu mem = some (0, bu, mem) ∧ qf_Ref_store (nI m) cell (nI f) v r = some (0, qp r 18 (upd (r 18) m (r 18 m + 1)))) ∨
    ∃ (bu' mem' : QS) (t25 t19 t20 t21 t22 : Nat → Int32), qf_Mut_store cell (nI f) v mu bu mem = some (1, bu', mem') ∧ qf_Ref_store (nI m) cell (nI f) v r = some (1, qp (qp (qp (qp (qp (qp r 25 t25) 15 (upd (r 15) m (r 15 m + 1))) 19 t19) 20 t20) 21 t21) 22 t22) ∧ RMem n mem' (r 0) t25 (r 26) ∧ RBuf n m bu' t19 t20 t21 t22 ∧ ∀ m', m' < 2 → m' ≠ m → ∀ bx, RBuf n m' bx (r 19) (r 20) (r 21) (r 22) → RBuf n m' bx t19 t20 t21 t22 := by
  have hB0 := hB
  obtain ⟨b, hb3, hb, hb', hk⟩ := hB0
  rcases hcell with rfl | ⟨c, hc, rfl⟩
  · refine Or.inr ⟨bu, mem, r 25, r 19, r 20, r 21, r 22, ?_, ?_, hM, hB, fun _ _ _ _ h => h⟩
    · unfold qf_Mut_store
      rw [if_pos rfl]
    · unfold qf_Ref_store
      rw [if_pos rfl, ck hm (by decide), ck hm (by decide), nI_clamp (by omega)]
      refine congrArg (fun z => some ((1 : Int32), z)) ?_
      rw [qp_self]
      funext g
      by_cases h1 : g = 22
      · subst h1; rw [qp_eq]; rfl
      · rw [qp_ne _ _ h1]
        by_cases h2 : g = 21
        · subst h2; rw [qp_eq]; rfl
        · rw [qp_ne _ _ h2]
          by_cases h3 : g = 20
          · subst h3; rw [qp_eq]; rfl
          · rw [qp_ne _ _ h3]
            by_cases h4 : g = 19
            · subst h4; rw [qp_eq]; rfl
            · rw [qp_ne _ _ h4]
  · have hne := nEqm1 (show c < 2 ^ 31 by omega)
    by_cases h3 : b = 3
    · subst h3
      refine Or.inl ⟨?_, ?_⟩
      · unfold qf_Mut_store qf_Buf_isFull
        rw [if_neg hne, hb, if_neg (by decide)]
        rfl
      · unfold qf_Ref_store
        rw [if_neg hne, ck hm (by decide), nI_clamp (by omega), if_pos (show r 19 m = 3 from hb'), pr_stall hm]
        exact bzb (Or.inl rfl)
    · have hb2 : b ≤ 2 := by omega
      have hfull : qf_Buf_isFull bu = some 0 := by
        unfold qf_Buf_isFull
        rw [hb, if_pos (show nI b < 3 from nI_lt (a := b) (b := 3) (by omega) (by decide))]
      have hn3 : ¬ nI b = 3 := fun e => h3 ((nI_eq (a := b) (b := 3) (by omega) (by decide)).mp e)
      have hj : ∀ mem2 : QS, qf_Mut_store_j51 (nI c) (nI f) v mu bu mem2 = some (1, qp (qp (qp (qp bu 3 (fun _ => nI (b + 1))) 0 (upd (bu 0) b (nI c))) 1 (upd (bu 1) b (nI f))) 2 (upd (bu 2) b v), mem2) := fun mem2 => by
        unfold qf_Mut_store_j51
        rw [pb_add hb hb2]
        rfl
      by_cases hmk : f = 2 ∨ mu 5 0 = 0
      · refine Or.inr ⟨_, mem, r 25, _, _, _, _, ?_, ?_, hM, RBuf_add hb2 hb hB hc hf hv, fun m' _ hne' bx hx => RBuf_add_other hb2 hne' hx⟩
        · unfold qf_Mut_store
          rw [if_neg hne, hfull, Option.bind_some, if_pos rfl, hj]
          by_cases h2 : nI f = 2
          · rw [if_pos h2]
          · rw [if_neg h2, if_pos (hmk.resolve_left (fun e => h2 (by rw [e]; rfl)))]
        · unfold qf_Ref_store
          rw [if_neg hne, ck hm (by decide), nI_clamp (by omega), hb', if_neg hn3, pr_add hm hb' hb2, qp_self]
          by_cases h2 : (2 : Int32) ≤ nI f
          · rw [if_pos h2]
          · rw [if_neg h2, ckc hm (by decide), hst, if_pos (hmk.resolve_left (fun e => h2 (by rw [e]; decide)))]
      · have hf2 : f < 2 := by omega
        have hs0 : ¬ mu 5 0 = 0 := fun e => hmk (Or.inr e)
        obtain ⟨w, w1, w2, w3⟩ := see_both (bu := bu) hn hm hM hB hc hf
        have hw := w3 hf2
        have hvv := hv hf2
        refine Or.inr ⟨_, qp (qp mem 1 (markF (mem 1) w)) 1 (markF (markF (mem 1) w) v), markF (markF (r 25) w) v, _, _, _, _, ?_, ?_, RMem_mark hn hvv (RMem_mark hn hw hM), RBuf_add hb2 hb hB hc hf hv, fun m' _ hne' bx hx => RBuf_add_other hb2 hne' hx⟩
        · unfold qf_Mut_store
          rw [if_neg hne, hfull, Option.bind_some, if_pos rfl, if_neg (show ¬ nI f = 2 from fun e => by
            have := (nI_eq (a := f) (b := 2) (by omega) (by decide)).mp e
            omega), if_neg hs0, w1]
          show (qf_Mem_mark w mem).bind _ = _
          rw [pm_mark hn hM.1 hw]
          show (qf_Mem_mark v _).bind _ = _
          rw [pm_mark hn (show (qp mem 1 (markF (mem 1) w)) 0 0 = nI n from hM.1) hvv]
          exact hj _
        · unfold qf_Ref_store
          rw [if_neg hne, ck hm (by decide), nI_clamp (by omega), hb', if_neg hn3, if_neg (show ¬ (2 : Int32) ≤ nI f from nI_ge (a := f) (b := 2) (by omega) (by decide)), ckc hm (by decide), hst, if_neg hs0, w2]
          show (qf_Ref_mark w r).bind _ = _
          rw [pr_mark hn hw]
          show (qf_Ref_mark v _).bind _ = _
          rw [pr_mark hn hvv]
          show qf_Ref_store_j68 (nI m) (nI c) (nI f) v (qp (qp r 25 (markF (r 25) w)) 25 (markF (markF (r 25) w) v)) = _
          rw [pr_add hm (show (qp (qp r 25 (markF (r 25) w)) 25 (markF (markF (r 25) w) v)) 19 m = nI b from hb') hb2, qp_qp]
          rfl
/-! a new cell -/
theorem fresh_lp {n m p : Nat} {r : QS} (hn : n ≤ 11) (hm : m < 2) (h0 : r 0 0 = nI n) : ∀ d i N : Nat, i + d = n → d < N → ((∀ j, i ≤ j → j < n → r 25 j ≠ 0) → qfix qf_Ref_fresh_F2 N (nI m, nI p, nI i, r) = some (0, qp r 18 (upd (r 18) m (r 18 m + 1)))) ∧ ∀ c, i ≤ c → c < n → r 25 c = 0 → (∀ j, i ≤ j → j < c → r 25 j ≠ 0) → qfix qf_Ref_fresh_F2 N (nI m, nI p, nI i, r) = qf_Ref_fresh_j39 (nI m) (nI p) (nI c) (if r 17 m < 2 then 1 else 3) (nI c) r := by
  intro d
  induction d with
  | zero =>
    intro i N hi hN
    obtain ⟨N, rfl⟩ : ∃ M, N = M + 1 := ⟨N - 1, by omega⟩
    refine ⟨fun _ => ?_, fun c h1 h2 => by omega⟩
    show qf_Ref_fresh_B2 (qfix qf_Ref_fresh_F2 N) (nI m) (nI p) (nI i) r = _
    unfold qf_Ref_fresh_B2
    rw [h0, if_pos (nI_le (by omega) (by omega)), pr_stall hm]
    exact bzb (Or.inl rfl)
  | succ d ih =>
    intro i N hi hN
    obtain ⟨N, rfl⟩ : ∃ M, N = M + 1 := ⟨N - 1, by omega⟩
    have e : qfix qf_Ref_fresh_F2 (N + 1) (nI m, nI p, nI i, r) = if r 25 i = 0 then qf_Ref_fresh_j39 (nI m) (nI p) (nI i) (if r 17 m < 2 then 1 else 3) (nI i) r else qfix qf_Ref_fresh_F2 N (nI m, nI p, nI (i + 1), r) := by
      show qf_Ref_fresh_B2 (qfix qf_Ref_fresh_F2 N) (nI m) (nI p) (nI i) r = _
      unfold qf_Ref_fresh_B2
      rw [h0, if_neg (nI_ge (by omega) (by omega)), ck (by omega) (by decide), ck hm (by decide), nI_clamp (show m < 2 ^ 31 by omega), nI_clamp (show i < 2 ^ 31 by omega), nI_1]
      by_cases hs : r 17 m < 2
      · rw [if_pos hs, if_pos hs]
      · rw [if_neg hs, if_neg hs]
    obtain ⟨q1, q2⟩ := ih (i + 1) N (by omega) (by omega)
    refine ⟨fun h => ?_, fun c h1 h2 h3 h4 => ?_⟩
    · rw [e, if_neg (h i (Nat.le_refl _) (by omega))]
      exact q1 (fun j a b => h j (by omega) b)
    · by_cases hc : c = i
      · subst hc
        rw [e, if_pos h3]
      · rw [e, if_neg (h4 i (Nat.le_refl _) (by omega))]
        exact q2 c (by omega) h2 h3 (fun j a b => h4 j (by omega) b)
theorem RMem_new {n c : Nat} {mem : QS} {x : Int32} {r0 r25 r26 : Nat → Int32} (hn : n ≤ 11) (hc : c < n) (h : RMem n mem r0 r25 r26) : qf_Mem_blank (nI c) (qp mem 1 (upd (mem 1) c x)) = some (qp (qp (qp (qp mem 1 (upd (mem 1) c x)) 2 (upd (mem 2) (3 * c + 0) (-1))) 2 (upd (upd (mem 2) (3 * c + 0) (-1)) (3 * c + 1) (-1))) 2 (upd (upd (upd (mem 2) (3 * c + 0) (-1)) (3 * c + 1) (-1)) (3 * c + 2) 0)) ∧ RMem n (qp (qp (qp (qp mem 1 (upd (mem 1) c x)) 2 (upd (mem 2) (3 * c + 0) (-1))) 2 (upd (upd (mem 2) (3 * c + 0) (-1)) (3 * c + 1) (-1))) 2 (upd (upd (upd (mem 2) (3 * c + 0) (-1)) (3 * c + 1) (-1)) (3 * c + 2) 0)) r0 (upd r25 c x) (upd (upd (upd r26 (3 * c + 0) (-1)) (3 * c + 1) (-1)) (3 * c + 2) 0) := by
  have h1 : RMem n (qp mem 1 (upd (mem 1) c x)) r0 (upd r25 c x) r26 := ⟨h.1, h.2.1, fun d hd => by
    show upd r25 c x d = upd (mem 1) c x d
    by_cases e : d = c
    · subst e; rw [up_eq, up_eq]
    · rw [up_ne _ _ e, up_ne _ _ e]; exact h.2.2.1 d hd, h.2.2.2.1, h.2.2.2.2⟩
  have h2 := RMem_put (v := -1) hc (show 0 < 3 by omega) (fun _ => Or.inl rfl) h1
  have h3 := RMem_put (v := -1) hc (show 1 < 3 by omega) (fun _ => Or.inl rfl) h2
  have h4 := RMem_put (v := 0) hc (show 2 < 3 by omega) (fun h => by omega) h3
  refine ⟨?_, h4⟩
  unfold qf_Mem_blank
  show (qf_Mem_put (nI c) (nI 0) (-1) _).bind _ = _
  rw [pm_put hn h1.1 hc (by omega)]
  show (qf_Mem_put (nI c) (nI 1) (-1) _).bind _ = _
  rw [pm_put hn h2.1 hc (by omega)]
  show (qf_Mem_put (nI c) (nI 2) 0 _).bind _ = _
  rw [pm_put hn h3.1 hc (by omega)]
  rfl
/-- a new cell on both sides: both stall, or both take the least free cell -/
theorem take_both {n m p : Nat} {mu mem r : QS} (hn : n ≤ 11) (hm : m < 2) (hp : p < 4) (hM : RMem n mem (r 0) (r 25) (r 26)) {st : Nat} (hst3 : st ≤ 3) (hst : mu 5 0 = nI st) (hst' : r 17 m = nI st) :
    (qf_Mut_takeCell (nI p) mu mem = some (0, mu, mem) ∧ qf_Ref_fresh (nI m) (nI (7 * m + p)) r = some (0, qp r 18 (upd (r 18) m (r 18 m + 1)))) ∨
    ∃ (c : Nat) (mem' : QS) (t25 t26 : Nat → Int32), c < n ∧ qf_Mut_takeCell (nI p) mu mem = some (1, qp mu 3 (upd (mu 3) p (nI c)), mem') ∧ qf_Ref_fresh (nI m) (nI (7 * m + p)) r = some (1, qp (qp (qp (qp r 15 (upd (r 15) m (r 15 m + 1))) 16 (upd (r 16) (7 * m + p) (nI c))) 25 t25) 26 t26) ∧ RMem n mem' (r 0) t25 t26 := by
  have hlp := fresh_lp (p := 7 * m + p) hn hm hM.2.1 n 0 qN (by omega) (by unfold qN; omega)
  have hcol : ∀ y : Int32, (y = if st < 2 then 1 else 3) → qf_Mut_takeCell (nI p) mu mem = qf_Mut_takeCell_j32 (nI p) y mu mem := by
    intro y hy
    unfold qf_Mut_takeCell
    rw [hst]
    have hs : st = 0 ∨ st = 1 ∨ st = 2 ∨ st = 3 := by omega
    rcases hs with rfl | rfl | rfl | rfl <;> subst hy <;> rfl
  have hcr : (if r 17 m < 2 then (1 : Int32) else 3) = if st < 2 then 1 else 3 := by
    rw [hst']
    have hs : st = 0 ∨ st = 1 ∨ st = 2 ∨ st = 3 := by omega
    rcases hs with rfl | rfl | rfl | rfl <;> rfl
  rcases pm_least 0 hn hM.1 with ⟨e, hno⟩ | ⟨c, hc, h0, hmin, e⟩
  · refine Or.inl ⟨?_, hlp.1 (fun j _ hj => by rw [hM.2.2.1 j hj]; exact hno j hj)⟩
    rw [hcol _ rfl]
    unfold qf_Mut_takeCell_j32 qf_Mem_takeFree
    rw [e]
    rfl
  · have hb := RMem_new (x := if st < 2 then 1 else 3) hn hc hM
    refine Or.inr ⟨c, _, _, _, hc, ?_, ?_, hb.2⟩
    · rw [hcol _ rfl]
      unfold qf_Mut_takeCell_j32 qf_Mem_takeFree
      have hne := nEqm1 (show c < 2 ^ 31 by omega)
      rw [e, Option.bind_some, if_neg hne, ck1 hn hM.1 hc, nI_clamp (show c < 2 ^ 31 by omega), hb.1, Option.bind_some, Option.bind_some, if_neg hne, ck hp (by decide), nI_clamp (show p < 2 ^ 31 by omega)]
    · have := hlp.2 c (Nat.zero_le _) hc (by rw [hM.2.2.1 c hc]; exact h0) (fun j _ hj => by rw [hM.2.2.1 j (by omega)]; exact hmin j hj)
      refine Eq.trans this ?_
      rw [hcr]
      unfold qf_Ref_fresh_j39
      rw [n3m, nI_1, show nI (3 * c) + 2 = nI (3 * c + 2) from nI_add (3 * c) 2, ck (by omega) (by decide), ck (by omega) (by decide), ck (by omega) (by decide), ck (by omega) (by decide), ck (by omega) (by decide), ck hm (by decide), ck hm (by decide), nI_clamp (show m < 2 ^ 31 by omega), nI_clamp (show c < 2 ^ 31 by omega), nI_clamp (show 3 * c < 2 ^ 31 by omega), nI_clamp (show 3 * c + 1 < 2 ^ 31 by omega), nI_clamp (show 3 * c + 2 < 2 ^ 31 by omega), nI_clamp (show 7 * m + p < 2 ^ 31 by omega)]
      rfl
