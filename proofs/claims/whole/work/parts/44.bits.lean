/-! ===== the pure part: reached, reaches ===== -/
def bcN (w : Nat) : Nat → Nat
  | 0 => 0
  | k + 1 => bcN w k + (if w.testBit k then 1 else 0)
set_option maxRecDepth 100000 in
theorem bc_all : ∀ w : Fin 2048, qf_Jint_bitCount (nI w.val) = some (nI (bcN w.val 11)) := by decide +kernel
theorem bc_le (w : Nat) : ∀ k, bcN w k ≤ k := by
  intro k
  induction k with
  | zero => exact Nat.le_refl _
  | succ k ih =>
    show bcN w k + (if w.testBit k then 1 else 0) ≤ k + 1
    by_cases h : w.testBit k = true
    · rw [if_pos h]; omega
    · rw [if_neg h]; omega
theorem bc_up {w n : Nat} (h : w < 2 ^ n) : ∀ d, bcN w (n + d) = bcN w n := by
  intro d
  induction d with
  | zero => rfl
  | succ d ih =>
    show bcN w (n + d) + (if w.testBit (n + d) then 1 else 0) = bcN w n
    have e : w.testBit (n + d) = false := Nat.testBit_lt_two_pow (Nat.lt_of_lt_of_le h (Nat.pow_le_pow_right (by decide) (Nat.le_add_right _ _)))
    rw [ih, e]; rfl
theorem bc_count {n w : Nat} (hn : n ≤ 11) (h : w < 2 ^ n) : qf_Jint_bitCount (nI w) = some (nI (bcN w n)) := by
  have h1 : w < 2048 := Nat.lt_of_lt_of_le h (show 2 ^ n ≤ 2 ^ 11 from Nat.pow_le_pow_right (by decide) hn)
  have h2 := bc_all ⟨w, h1⟩
  obtain ⟨d, hd⟩ : ∃ d, 11 = n + d := ⟨11 - n, by omega⟩
  rw [hd, bc_up h d] at h2
  exact h2
/-! bits -/
def bitF (v : Int32) : Nat := if v = -1 then 0 else 2 ^ v.toNatClampNeg
theorem bitF_lt {n : Nat} {v : Int32} (hn : n ≤ 11) (hv : Ptr n v) : bitF v < 2 ^ n := by
  unfold bitF
  rcases hv with rfl | ⟨c, hc, rfl⟩
  · rw [if_pos rfl]; exact Nat.two_pow_pos n
  · rw [if_neg (nEqm1 (by omega)), nI_clamp (by omega)]
    exact Nat.pow_lt_pow_right (by decide) hc
theorem shl_all : ∀ c : Fin 11, (1 : Int32) <<< (nI c.val &&& 31) = nI (2 ^ c.val) := by decide
theorem shr_all : ∀ c : Fin 11, ((nI c.val &&& 31).toBitVec.smod 32).toNat = c.val := by decide
theorem set_of {n : Nat} {v : Int32} (hn : n ≤ 11) (hv : Ptr n v) : qf_Qs_setOf v = some (nI (bitF v)) := by
  unfold qf_Qs_setOf bitF
  rcases hv with rfl | ⟨c, hc, rfl⟩
  · rw [if_pos rfl, if_pos rfl]; rfl
  · rw [if_neg (nEqm1 (by omega)), if_neg (nEqm1 (by omega)), nI_clamp (by omega), shl_all ⟨c, by omega⟩]
theorem nI_or {a b : Nat} (ha : a < 2 ^ 11) (hb : b < 2 ^ 11) : nI a ||| nI b = nI (a ||| b) := by
  apply Int32.toBitVec_inj.mp
  apply BitVec.eq_of_toNat_eq
  have h : a ||| b < 2 ^ 11 := Nat.or_lt_two_pow ha hb
  rw [Int32.toBitVec_or, BitVec.toNat_or, pk_tn (by omega), pk_tn (by omega), pk_tn (by omega)]
theorem bit_test {c w : Nat} (hc : c < 11) (hw : w < 2 ^ 11) : (((nI w >>> (nI c &&& 31)) &&& 1) = 1) ↔ w.testBit c = true := by
  rw [pk_shrN (by omega) _ c (shr_all ⟨c, hc⟩), pk_andN (k := 1) (Nat.lt_of_le_of_lt (Nat.div_le_self _ _) (by omega)) (by decide), Nat.testBit_eq_decide_div_mod_eq, decide_eq_true_eq]
  have h1 : w / 2 ^ c % 2 ^ 1 < 2 := Nat.mod_lt _ (by decide)
  exact nI_eq (b := 1) (by omega) (by decide)
theorem or_lt {n a b : Nat} (ha : a < 2 ^ n) (hb : b < 2 ^ n) : a ||| b < 2 ^ n := Nat.or_lt_two_pow ha hb
theorem l11 {n a : Nat} (hn : n ≤ 11) (h : a < 2 ^ n) : a < 2 ^ 11 := Nat.lt_of_lt_of_le h (Nat.pow_le_pow_right (by decide) hn)
/-! the reference's held -/
def RH (w : Nat) (r : QS) : Prop := ∀ c, c < 11 → r 31 c = if w.testBit c then 1 else 0
theorem hold_ref {n w : Nat} {v : Int32} {r : QS} (hn : n ≤ 11) (hv : Ptr n v) (h : RH w r) : ∃ r', qf_Ref_hold v r = some r' ∧ RH (w ||| bitF v) r' ∧ ∀ g, g ≠ 31 → r' g = r g := by
  unfold qf_Ref_hold bitF
  rcases hv with rfl | ⟨c, hc, rfl⟩
  · refine ⟨r, by rw [if_pos (by decide)], ?_, fun _ _ => rfl⟩
    rw [if_pos rfl, Nat.or_zero]; exact h
  · refine ⟨qp r 31 (upd (r 31) c (vp_nar .boolean 1)), ?_, ?_, fun g hg => qp_ne _ _ hg⟩
    · rw [if_neg (nI_pos (by omega)), ck (by omega) (by decide), nI_clamp (by omega)]
    · rw [if_neg (nEqm1 (by omega)), nI_clamp (by omega)]
      intro d hd
      rw [qp_eq, Nat.testBit_or, Nat.testBit_two_pow]
      by_cases e : d = c
      · subst e
        rw [up_eq, decide_eq_true rfl, Bool.or_true, if_pos rfl]; rfl
      · rw [up_ne _ _ e, decide_eq_false (fun h => e h.symm), Bool.or_false]
        exact h d hd
