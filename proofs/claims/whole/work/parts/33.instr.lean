/-! ===== the pure part: instructions ===== -/
theorem in_k {kd p q t : Nat} (h1 : kd ≤ 15) (h2 : p < 4) (h3 : q < 4) (h4 : t < 60) : nI (kd + 16 * p + 64 * q + 256 * t) - nI (kd + 16 * p + 64 * q + 256 * t) / 16 * 16 = nI kd := by
  refine Eq.trans (pk_rem (a := kd + 16 * p + 64 * q + 256 * t) (d := 16) (by omega) (by decide) (by decide)) ?_
  congr 1; omega
theorem in_p {kd p q t : Nat} (h1 : kd ≤ 15) (h2 : p < 4) (h3 : q < 4) (h4 : t < 60) : nI (kd + 16 * p + 64 * q + 256 * t) / 16 - nI (kd + 16 * p + 64 * q + 256 * t) / 16 / 4 * 4 = nI p := by
  have e : nI (kd + 16 * p + 64 * q + 256 * t) / 16 = nI ((kd + 16 * p + 64 * q + 256 * t) / 16) := pk_div (d := 16) (by omega) (by decide) (by decide)
  rw [e]
  refine Eq.trans (pk_rem (a := (kd + 16 * p + 64 * q + 256 * t) / 16) (d := 4) (by omega) (by decide) (by decide)) ?_
  congr 1; omega
theorem in_q {kd p q t : Nat} (h1 : kd ≤ 15) (h2 : p < 4) (h3 : q < 4) (h4 : t < 60) : nI (kd + 16 * p + 64 * q + 256 * t) / 64 - nI (kd + 16 * p + 64 * q + 256 * t) / 64 / 4 * 4 = nI q := by
  have e : nI (kd + 16 * p + 64 * q + 256 * t) / 64 = nI ((kd + 16 * p + 64 * q + 256 * t) / 64) := pk_div (d := 64) (by omega) (by decide) (by decide)
  rw [e]
  refine Eq.trans (pk_rem (a := (kd + 16 * p + 64 * q + 256 * t) / 64) (d := 4) (by omega) (by decide) (by decide)) ?_
  congr 1; omega
theorem in_t {kd p q t : Nat} (h1 : kd ≤ 15) (h2 : p < 4) (h3 : q < 4) (h4 : t < 60) : nI (kd + 16 * p + 64 * q + 256 * t) / 256 = nI t := by
  refine Eq.trans (pk_div (a := kd + 16 * p + 64 * q + 256 * t) (d := 256) (by omega) (by decide) (by decide)) ?_
  congr 1; omega
theorem RVar_cell {n m p : Nat} {mu3 mu4 r16 : Nat → Int32} {v : Int32} (hp : p < 4) (hv : Ptr n v) (h : RVar n m mu3 mu4 r16) : RVar n m (upd mu3 p v) mu4 (upd r16 (7 * m + p) v) := by
  refine ⟨fun k hk => ?_, fun k hk => ?_⟩
  · by_cases e : k = p
    · subst e; rw [up_eq, up_eq]; exact ⟨rfl, hv⟩
    · rw [up_ne _ _ e, up_ne _ _ (show 7 * m + k ≠ 7 * m + p by omega)]; exact h.1 k hk
  · rw [up_ne _ _ (show 7 * m + 4 + k ≠ 7 * m + p by omega)]; exact h.2 k hk
theorem RVar_int {n m p : Nat} {mu3 mu4 r16 : Nat → Int32} {v : Int32} (hp : p < 3) (h : RVar n m mu3 mu4 r16) : RVar n m mu3 (upd mu4 p v) (upd r16 (7 * m + p + 4) v) := by
  refine ⟨fun k hk => ?_, fun k hk => ?_⟩
  · rw [up_ne _ _ (show 7 * m + k ≠ 7 * m + p + 4 by omega)]; exact h.1 k hk
  · by_cases e : k = p
    · subst e; rw [up_eq, show 7 * m + 4 + k = 7 * m + k + 4 by omega, up_eq]
    · rw [up_ne _ _ e, up_ne _ _ (show 7 * m + 4 + k ≠ 7 * m + p + 4 by omega)]; exact h.2 k hk
theorem RVar_other {n m m' i : Nat} {mu3 mu4 r16 : Nat → Int32} {v : Int32} (hm : m < 2) (hm' : m' < 2) (hne : m' ≠ m) (hi : 7 * m ≤ i ∧ i < 7 * m + 7) (h : RVar n m' mu3 mu4 r16) : RVar n m' mu3 mu4 (upd r16 i v) :=
  ⟨fun k hk => by rw [up_ne _ _ (show 7 * m' + k ≠ i by omega)]; exact h.1 k hk, fun k hk => by rw [up_ne _ _ (show 7 * m' + 4 + k ≠ i by omega)]; exact h.2 k hk⟩
theorem RMut_other {n m' : Nat} {mx : QS} {r10 r11 r12 r13 r14 r15 r16 r17 r18 t15 t16 t18 : Nat → Int32} (e15 : t15 m' = r15 m') (e18 : t18 m' = r18 m') (hv : ∀ mu3 mu4, RVar n m' mu3 mu4 r16 → RVar n m' mu3 mu4 t16) (h : RMut n m' mx r10 r11 r12 r13 r14 r15 r16 r17 r18) : RMut n m' mx r10 r11 r12 r13 r14 t15 t16 r17 t18 := by
  obtain ⟨⟨cnt, pos, a1, a2, a3, a4, a5, a6, a7⟩, h2, h3, h4⟩ := h
  exact ⟨⟨cnt, pos, a1, a2, a3, a4, a5, e15.trans a6, a7⟩, hv _ _ h2, h3, e18.trans h4⟩
/-- what a step of mutator m leaves -/
def StepOK (n B m : Nat) (r R mu bu ou mem : QS) : Prop := RMem n mem (R 0) (R 25) (R 26) ∧ RMut n m mu (R 10) (R 11) (R 12) (R 13) (R 14) (R 15) (R 16) (R 17) (R 18) ∧ RBuf n m bu (R 19) (R 20) (R 21) (R 22) ∧ ROut (B + 1) m ou (R 23) (R 24) ∧ (∀ m', m' < 2 → m' ≠ m → (∀ mx, RMut n m' mx (r 10) (r 11) (r 12) (r 13) (r 14) (r 15) (r 16) (r 17) (r 18) → RMut n m' mx (R 10) (R 11) (R 12) (R 13) (R 14) (R 15) (R 16) (R 17) (R 18)) ∧ (∀ bx, RBuf n m' bx (r 19) (r 20) (r 21) (r 22) → RBuf n m' bx (R 19) (R 20) (R 21) (R 22)) ∧ ∀ ox, ROut B m' ox (r 23) (r 24) → ROut (B + 1) m' ox (R 23) (R 24)) ∧ R 1 = r 1 ∧ R 2 = r 2 ∧ R 27 = r 27 ∧ R 28 = r 28 ∧ R 29 = r 29 ∧ R 30 = r 30
theorem ROut_le {B m : Nat} {ou : QS} {r23 r24 : Nat → Int32} (h : ROut B m ou r23 r24) : ROut (B + 1) m ou r23 r24 := by
  obtain ⟨w, a1, a2, a3, a4⟩ := h
  exact ⟨w, by omega, a2, a3, a4⟩
/-- a stall -/
theorem ok_stall {n B m : Nat} {mu bu ou mem r : QS} (hM : RMem n mem (r 0) (r 25) (r 26)) (hU : RMut n m mu (r 10) (r 11) (r 12) (r 13) (r 14) (r 15) (r 16) (r 17) (r 18)) (hB : RBuf n m bu (r 19) (r 20) (r 21) (r 22)) (hO : ROut B m ou (r 23) (r 24)) : StepOK n B m r (qp r 18 (upd (r 18) m (r 18 m + 1))) (qp mu 6 (fun _ => mu 6 0 + 1)) bu ou mem := by
  refine ⟨hM, ?_, hB, ROut_le hO, fun m' hm' hne => ⟨fun mx hx => RMut_other rfl (up_ne _ _ hne) (fun _ _ h => h) hx, fun _ h => h, fun _ h => ROut_le h⟩, rfl, rfl, rfl, rfl, rfl, rfl⟩
  obtain ⟨h1, h2, h3, h4⟩ := hU
  refine ⟨h1, h2, h3, ?_⟩
  show upd (r 18) m (r 18 m + 1) m = mu 6 0 + 1
  rw [up_eq, h4]
/-- a step that only moves on, and gives variables anew -/
theorem ok_var {n B m pos : Nat} {mu bu ou mem r : QS} {v3 v4 t16 : Nat → Int32} (hm : m < 2) (hM : RMem n mem (r 0) (r 25) (r 26)) (hU : RMut n m mu (r 10) (r 11) (r 12) (r 13) (r 14) (r 15) (r 16) (r 17) (r 18)) (hB : RBuf n m bu (r 19) (r 20) (r 21) (r 22)) (hO : ROut B m ou (r 23) (r 24)) (hpos : mu 2 0 = nI pos) (hlt : ∀ cnt, mu 1 0 = nI cnt → cnt ≤ 40 → pos < cnt) (hv : RVar n m v3 v4 t16) (hvo : ∀ m', m' < 2 → m' ≠ m → ∀ mu3 mu4, RVar n m' mu3 mu4 (r 16) → RVar n m' mu3 mu4 t16) : StepOK n B m r (qp (qp r 15 (upd (r 15) m (r 15 m + 1))) 16 t16) (qp (qp (qp mu 3 v3) 4 v4) 2 (fun _ => mu 2 0 + 1)) bu ou mem := by
  refine ⟨hM, ?_, hB, ROut_le hO, fun m' hm' hne => ⟨fun mx hx => RMut_other (up_ne _ _ hne) rfl (hvo m' hm' hne) hx, fun _ h => h, fun _ h => ROut_le h⟩, rfl, rfl, rfl, rfl, rfl, rfl⟩
  obtain ⟨⟨cnt, pos', a1, a2, a3, a4, a5, a6, a7⟩, h2, h3, h4⟩ := hU
  obtain rfl : pos' = pos := by
    have := (a5.symm.trans hpos)
    by_cases hp : pos < 2 ^ 31
    · exact (nI_eq (by omega) hp).mp this
    · exact absurd (hlt cnt a3 a1) (by omega)
  have hl := hlt cnt a3 a1
  refine ⟨⟨cnt, pos' + 1, a1, hl, a3, a4, ?_, ?_, a7⟩, hv, h3, h4⟩
  · show mu 2 0 + 1 = nI (pos' + 1)
    rw [a5, nI_1]
  · show upd (r 15) m (r 15 m + 1) m = nI (pos' + 1)
    rw [up_eq, a6, nI_1]
