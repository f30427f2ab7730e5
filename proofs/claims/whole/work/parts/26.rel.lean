/-! ===== the pure part: numbers, relations ===== -/
def Ptr (n : Nat) (v : Int32) : Prop := v = -1 ∨ ∃ c, c < n ∧ v = nI c
def RMem (n : Nat) (mem : QS) (r0 r25 r26 : Nat → Int32) : Prop := mem 0 0 = nI n ∧ r0 0 = nI n ∧ (∀ c, c < n → r25 c = mem 1 c) ∧ (∀ j, j < 3 * n → r26 j = mem 2 j) ∧ ∀ c, c < n → ∀ f, f < 2 → Ptr n (mem 2 (3 * c + f))
def RBuf (n m : Nat) (bu : QS) (r19 r20 r21 r22 : Nat → Int32) : Prop := ∃ b, b ≤ 3 ∧ bu 3 0 = nI b ∧ r19 m = nI b ∧ ∀ k, k < b → ∃ c f, c < n ∧ f < 3 ∧ bu 0 k = nI c ∧ r20 (3 * m + k) = nI c ∧ bu 1 k = nI f ∧ r21 (3 * m + k) = nI f ∧ r22 (3 * m + k) = bu 2 k ∧ (f < 2 → Ptr n (bu 2 k))
def VI (cnt kd p q t : Nat) : Prop := kd ≤ 15 ∧ p < 4 ∧ q < 4 ∧ t < 60 ∧ (kd = 9 → q < 3) ∧ (kd = 10 → p < 3) ∧ (kd = 11 → p < 3 ∧ q < 3) ∧ (kd = 12 → p < 3 ∧ q < 3 ∧ t < 3) ∧ (kd = 13 → p < 3) ∧ (kd = 14 → p < 3) ∧ (kd = 15 → t < cnt ∧ q ≤ 1)
def RPrg (m cnt : Nat) (pr r11 r12 r13 r14 : Nat → Int32) : Prop := ∀ k, k < cnt → ∃ kd p q t, VI cnt kd p q t ∧ pr k = nI (kd + 16 * p + 64 * q + 256 * t) ∧ r11 (40 * m + k) = nI kd ∧ r12 (40 * m + k) = nI p ∧ r13 (40 * m + k) = nI q ∧ r14 (40 * m + k) = nI t
def RVar (n m : Nat) (mu3 mu4 r16 : Nat → Int32) : Prop := (∀ k, k < 4 → r16 (7 * m + k) = mu3 k ∧ Ptr n (mu3 k)) ∧ ∀ k, k < 3 → r16 (7 * m + 4 + k) = mu4 k
def RMut (n m : Nat) (mu : QS) (r10 r11 r12 r13 r14 r15 r16 r17 r18 : Nat → Int32) : Prop := (∃ cnt pos, cnt ≤ 40 ∧ pos ≤ cnt ∧ mu 1 0 = nI cnt ∧ r10 m = nI cnt ∧ mu 2 0 = nI pos ∧ r15 m = nI pos ∧ RPrg m cnt (mu 0) r11 r12 r13 r14) ∧ RVar n m (mu 3) (mu 4) r16 ∧ (∃ st, st ≤ 3 ∧ mu 5 0 = nI st ∧ r17 m = nI st) ∧ r18 m = mu 6 0
def ROut (B m : Nat) (ou : QS) (r23 r24 : Nat → Int32) : Prop := ∃ w, w ≤ B ∧ ou 1 0 = nI w ∧ r23 m = nI w ∧ ∀ j, j < 16 → r24 (16 * m + j) = ou 0 j
def RCol (n : Nat) (col : QS) (r27 r28 r29 r30 : Nat → Int32) : Prop := ∃ ph, ph ≤ 6 ∧ col 0 0 = nI ph ∧ r27 0 = nI ph ∧ r28 0 = col 2 0 ∧ Ptr n (col 2 0) ∧ r29 0 = col 3 0 ∧ (ph = 5 → ∃ w, w < n ∧ col 3 0 = nI w) ∧ r30 0 = col 1 0
def RSrc (src : QS) (r1 r2 : Nat → Int32) : Prop := ∃ t, t ≤ 60 ∧ src 1 0 = nI t ∧ r2 0 = nI t ∧ ∀ j, j < t → r1 j = src 0 j ∧ ∃ a, 32 ≤ a ∧ a ≤ 126 ∧ src 0 j = nI a
/-- the two sides of the law's loop -/
def RAll (n B : Nat) (r src mem mu0 bu0 ou0 mu1 bu1 ou1 col : QS) : Prop := 4 ≤ n ∧ n ≤ 11 ∧ RSrc src (r 1) (r 2) ∧ RMem n mem (r 0) (r 25) (r 26) ∧ RMut n 0 mu0 (r 10) (r 11) (r 12) (r 13) (r 14) (r 15) (r 16) (r 17) (r 18) ∧ RBuf n 0 bu0 (r 19) (r 20) (r 21) (r 22) ∧ ROut B 0 ou0 (r 23) (r 24) ∧ RMut n 1 mu1 (r 10) (r 11) (r 12) (r 13) (r 14) (r 15) (r 16) (r 17) (r 18) ∧ RBuf n 1 bu1 (r 19) (r 20) (r 21) (r 22) ∧ ROut B 1 ou1 (r 23) (r 24) ∧ RCol n col (r 27) (r 28) (r 29) (r 30)
/-! numbers -/
theorem n3m (c : Nat) : (3 : Int32) * nI c = nI (3 * c) := pk_mul 3 c
theorem n7m (c : Nat) : (7 : Int32) * nI c = nI (7 * c) := pk_mul 7 c
theorem n16m (c : Nat) : (16 : Int32) * nI c = nI (16 * c) := pk_mul 16 c
theorem n64m (c : Nat) : (64 : Int32) * nI c = nI (64 * c) := pk_mul 64 c
theorem n256m (c : Nat) : (256 : Int32) * nI c = nI (256 * c) := pk_mul 256 c
theorem n40m (c : Nat) : (40 : Int32) * nI c = nI (40 * c) := pk_mul 40 c
theorem nEqm1 {c : Nat} (h : c < 2 ^ 31) : ¬ nI c = -1 := fun e => by
  have h1 := nI_toInt h
  rw [e] at h1
  have h2 : (-1 : Int32).toInt = -1 := by decide
  omega
theorem qp_eq (s : QS) (k : Nat) (f : Nat → Int32) : qp s k f k = f := by simp [qp]
theorem qp_ne (s : QS) {k g : Nat} (f : Nat → Int32) (h : g ≠ k) : qp s k f g = s g := by
  have e : Nat.beq g k = false := by
    cases hb : Nat.beq g k with
    | false => rfl
    | true => exact absurd (Nat.eq_of_beq_eq_true hb) h
  simp [qp, e]
theorem up_eq (f : Nat → Int32) (k : Nat) (x : Int32) : upd f k x k = x := by simp [upd]
theorem up_ne (f : Nat → Int32) {k j : Nat} (x : Int32) (h : j ≠ k) : upd f k x j = f j := by simp [upd, h]
/-- a range check that passes -/
theorem ck {α : Type} {N j : Nat} (h : j < N) (hN : N < 2 ^ 31) (x : Option α) : (if (nI j < 0 ∨ N ≤ Int32.toNatClampNeg (nI j)) then none else x) = x := if_neg (nI_in h hN)
theorem ckc {α : Type} {N j : Nat} (h : j < N) (hN : N < 2 ^ 31) (x : Option α) : (if (nI j < 0 ∨ N ≤ j) then none else x) = x := if_neg (fun h9 => h9.elim (nI_pos (by omega)) (fun h8 => by omega))
theorem sN0 {j : Nat} (h : j < 2 ^ 31) : (nI j < 0) = False := eq_false (nI_pos h)
theorem sLe {N j : Nat} (h : j < N) : (N ≤ j) = False := eq_false (by omega)
theorem ck3 {α : Type} {n j : Nat} {mem : QS} (hn : n ≤ 11) (hm : mem 0 0 = nI n) (h : j < 3 * n) (x : Option α) : (if (nI j < 0 ∨ (3 * mem 0 0).toNatClampNeg ≤ Int32.toNatClampNeg (nI j)) then none else x) = x := by
  rw [hm, n3m, nI_clamp (by omega)]
  exact ck h (by omega) x
theorem ck1 {α : Type} {n j : Nat} {mem : QS} (hn : n ≤ 11) (hm : mem 0 0 = nI n) (h : j < n) (x : Option α) : (if (nI j < 0 ∨ (mem 0 0).toNatClampNeg ≤ Int32.toNatClampNeg (nI j)) then none else x) = x := by
  rw [hm, nI_clamp (by omega)]
  exact ck h (by omega) x
/-! memory: reads, writes, marks -/
theorem pm_read {n c f : Nat} {mem : QS} (hn : n ≤ 11) (hm : mem 0 0 = nI n) (hc : c < n) (hf : f < 3) : qf_Mem_read (nI c) (nI f) mem = some (mem 2 (3 * c + f)) := by
  unfold qf_Mem_read
  rw [n3m, nI_add, ck3 hn hm (by omega), nI_clamp (by omega)]
theorem pm_put {n c f : Nat} {v : Int32} {mem : QS} (hn : n ≤ 11) (hm : mem 0 0 = nI n) (hc : c < n) (hf : f < 3) : qf_Mem_put (nI c) (nI f) v mem = some (qp mem 2 (upd (mem 2) (3 * c + f) v)) := by
  unfold qf_Mem_put
  rw [n3m, nI_add, ck3 hn hm (by omega), nI_clamp (by omega)]
theorem qp_self (s : QS) (k : Nat) : qp s k (s k) = s := by
  funext g
  by_cases hg : g = k
  · subst hg; rw [qp_eq]
  · rw [qp_ne _ _ hg]
/-- what a mark makes of the colours -/
def markF (col : Nat → Int32) (v : Int32) : Nat → Int32 := if v = -1 then col else if col v.toNatClampNeg = 1 then upd col v.toNatClampNeg 2 else col
theorem pm_mark {n : Nat} {mem : QS} {v : Int32} (hn : n ≤ 11) (hm : mem 0 0 = nI n) (hv : Ptr n v) : qf_Mem_mark v mem = some (qp mem 1 (markF (mem 1) v)) := by
  unfold qf_Mem_mark markF
  rcases hv with rfl | ⟨c, hc, rfl⟩
  · rw [if_pos rfl, if_pos rfl, qp_self]
  · rw [if_neg (nEqm1 (by omega)), if_neg (nEqm1 (by omega)), ck1 hn hm hc, ck1 hn hm hc]
    by_cases h1 : mem 1 (nI c).toNatClampNeg = 1
    · rw [if_pos h1, if_pos h1]
    · rw [if_neg h1, if_neg h1, qp_self]
theorem pr_mark {n : Nat} {r : QS} {v : Int32} (hn : n ≤ 11) (hv : Ptr n v) : qf_Ref_mark v r = some (qp r 25 (markF (r 25) v)) := by
  unfold qf_Ref_mark markF
  rcases hv with rfl | ⟨c, hc, rfl⟩
  · rw [if_pos (by decide), if_pos rfl, qp_self]
  · rw [if_neg (nI_pos (by omega)), if_neg (nEqm1 (by omega)), ck (by omega) (by decide), ck (by omega) (by decide)]
    by_cases h1 : r 25 (nI c).toNatClampNeg = 1
    · rw [if_pos h1, if_pos h1]
    · rw [if_neg h1, if_neg h1, qp_self]
theorem markF_congr {n : Nat} {f g : Nat → Int32} {v : Int32} (hn : n ≤ 11) (hv : Ptr n v) (h : ∀ c, c < n → g c = f c) : ∀ c, c < n → markF g v c = markF f v c := by
  intro c hc
  unfold markF
  rcases hv with rfl | ⟨d, hd, rfl⟩
  · rw [if_pos rfl, if_pos rfl]; exact h c hc
  · rw [if_neg (nEqm1 (by omega)), if_neg (nEqm1 (by omega)), nI_clamp (by omega), h d hd]
    by_cases h1 : f d = 1
    · rw [if_pos h1, if_pos h1]
      by_cases e : c = d
      · subst e; rw [up_eq, up_eq]
      · rw [up_ne _ _ e, up_ne _ _ e]; exact h c hc
    · rw [if_neg h1, if_neg h1]; exact h c hc
theorem RMem_mark {n : Nat} {mem : QS} {r0 r25 r26 : Nat → Int32} {v : Int32} (hn : n ≤ 11) (hv : Ptr n v) (h : RMem n mem r0 r25 r26) : RMem n (qp mem 1 (markF (mem 1) v)) r0 (markF r25 v) r26 :=
  ⟨h.1, h.2.1, markF_congr hn hv h.2.2.1, h.2.2.2.1, h.2.2.2.2⟩
theorem RMem_put {n : Nat} {mem : QS} {r0 r25 r26 : Nat → Int32} {v : Int32} {c f : Nat} (hc : c < n) (hf : f < 3) (hv : f < 2 → Ptr n v) (h : RMem n mem r0 r25 r26) : RMem n (qp mem 2 (upd (mem 2) (3 * c + f) v)) r0 r25 (upd r26 (3 * c + f) v) := by
  refine ⟨h.1, h.2.1, h.2.2.1, fun j hj => ?_, fun d hd g hg => ?_⟩
  · show upd r26 (3 * c + f) v j = upd (mem 2) (3 * c + f) v j
    by_cases e : j = 3 * c + f
    · subst e; rw [up_eq, up_eq]
    · rw [up_ne _ _ e, up_ne _ _ e]; exact h.2.2.2.1 j hj
  · show Ptr n (upd (mem 2) (3 * c + f) v (3 * d + g))
    by_cases e : 3 * d + g = 3 * c + f
    · rw [e, up_eq]; exact hv (by omega)
    · rw [up_ne _ _ e]; exact h.2.2.2.2 d hd g hg
theorem pm_ptr {n : Nat} {mem : QS} {r0 r25 r26 : Nat → Int32} (h : RMem n mem r0 r25 r26) {c f : Nat} (hc : c < n) (hf : f < 2) : Ptr n (mem 2 (3 * c + f)) := h.2.2.2.2 c hc f hf
/-! the least cell of a colour -/
theorem qfix_s {A R : Type} (F : (A → Option R) → A → Option R) (n : Nat) (a : A) : qfix F (n + 1) a = F (qfix F n) a := rfl
theorem least_lp {n : Nat} {mem : QS} {w : Int32} (hn : n ≤ 11) (hm : mem 0 0 = nI n) : ∀ d i N : Nat, i + d = n → d < N → (qfix qf_Mem_leastOf_F2 N (w, nI i, mem) = some (-1) ∧ ∀ j, i ≤ j → j < n → mem 1 j ≠ w) ∨ ∃ c, i ≤ c ∧ c < n ∧ mem 1 c = w ∧ (∀ j, i ≤ j → j < c → mem 1 j ≠ w) ∧ qfix qf_Mem_leastOf_F2 N (w, nI i, mem) = some (nI c) := by
  intro d
  induction d with
  | zero =>
    intro i N hi hN
    obtain ⟨N, rfl⟩ : ∃ M, N = M + 1 := ⟨N - 1, by omega⟩
    refine Or.inl ⟨?_, fun j h1 h2 => by omega⟩
    show qf_Mem_leastOf_B2 _ w (nI i) mem = _
    unfold qf_Mem_leastOf_B2
    rw [hm, if_pos (nI_le (by omega) (by omega))]
  | succ d ih =>
    intro i N hi hN
    obtain ⟨N, rfl⟩ : ∃ M, N = M + 1 := ⟨N - 1, by omega⟩
    have e : qfix qf_Mem_leastOf_F2 (N + 1) (w, nI i, mem) = if mem 1 i = w then some (nI i) else qfix qf_Mem_leastOf_F2 N (w, nI (i + 1), mem) := by
      show qf_Mem_leastOf_B2 _ w (nI i) mem = _
      unfold qf_Mem_leastOf_B2
      rw [ck1 hn hm (by omega), hm, if_neg (nI_ge (by omega) (by omega)), nI_clamp (by omega), nI_1]
    by_cases hw : mem 1 i = w
    · exact Or.inr ⟨i, Nat.le_refl _, by omega, hw, fun j h1 h2 => by omega, by rw [e, if_pos hw]⟩
    · rw [e, if_neg hw]
      rcases ih (i + 1) N (by omega) (by omega) with ⟨h1, h2⟩ | ⟨c, h1, h2, h3, h4, h5⟩
      · exact Or.inl ⟨h1, fun j a b => by
          by_cases ej : j = i
          · subst ej; exact hw
          · exact h2 j (by omega) b⟩
      · exact Or.inr ⟨c, by omega, h2, h3, fun j a b => by
          by_cases ej : j = i
          · subst ej; exact hw
          · exact h4 j (by omega) b, h5⟩
theorem pm_least {n : Nat} {mem : QS} (w : Int32) (hn : n ≤ 11) (hm : mem 0 0 = nI n) : (qf_Mem_leastOf w mem = some (-1) ∧ ∀ j, j < n → mem 1 j ≠ w) ∨ ∃ c, c < n ∧ mem 1 c = w ∧ (∀ j, j < c → mem 1 j ≠ w) ∧ qf_Mem_leastOf w mem = some (nI c) := by
  rcases least_lp (w := w) hn hm n 0 qN (by omega) (by unfold qN; omega) with ⟨h1, h2⟩ | ⟨c, h1, h2, h3, h4, h5⟩
  · exact Or.inl ⟨h1, fun j hj => h2 j (Nat.zero_le _) hj⟩
  · exact Or.inr ⟨c, h2, h3, fun j hj => h4 j (Nat.zero_le _) hj, h5⟩
