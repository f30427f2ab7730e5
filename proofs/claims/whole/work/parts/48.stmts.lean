/-! ===== the pure part: shapes, the reference ===== -/
theorem fx0 {A : Nat → Nat} : fitD 0 A 0 (shn 0) = true ↔ (97 ≤ A 0 ∧ A 0 ≤ 100) ∧ A 1 = 61 ∧ A 2 = 42 ∧ A 3 = 59 := by
  simp [fitD, fitsB, shc, shn, shQ]
theorem fx1 {A : Nat → Nat} : fitD 1 A 0 (shn 1) = true ↔ (97 ≤ A 0 ∧ A 0 ≤ 100) ∧ A 1 = 61 ∧ A 2 = 45 ∧ A 3 = 59 := by
  simp [fitD, fitsB, shc, shn, shQ]
theorem fx2 {A : Nat → Nat} : fitD 2 A 0 (shn 2) = true ↔ (97 ≤ A 0 ∧ A 0 ≤ 100) ∧ A 1 = 61 ∧ (97 ≤ A 2 ∧ A 2 ≤ 100) ∧ A 3 = 59 := by
  simp [fitD, fitsB, shc, shn, shQ]
theorem fx3 {A : Nat → Nat} : fitD 3 A 0 (shn 3) = true ↔ (97 ≤ A 0 ∧ A 0 ≤ 100) ∧ A 1 = 61 ∧ (97 ≤ A 2 ∧ A 2 ≤ 100) ∧ A 3 = 46 ∧ A 4 = 108 ∧ A 5 = 59 := by
  simp [fitD, fitsB, shc, shn, shQ]
theorem fx4 {A : Nat → Nat} : fitD 4 A 0 (shn 4) = true ↔ (97 ≤ A 0 ∧ A 0 ≤ 100) ∧ A 1 = 61 ∧ (97 ≤ A 2 ∧ A 2 ≤ 100) ∧ A 3 = 46 ∧ A 4 = 114 ∧ A 5 = 59 := by
  simp [fitD, fitsB, shc, shn, shQ]
theorem fx5 {A : Nat → Nat} : fitD 5 A 0 (shn 5) = true ↔ (97 ≤ A 0 ∧ A 0 ≤ 100) ∧ A 1 = 46 ∧ A 2 = 108 ∧ A 3 = 61 ∧ (97 ≤ A 4 ∧ A 4 ≤ 100) ∧ A 5 = 59 := by
  simp [fitD, fitsB, shc, shn, shQ]
theorem fx6 {A : Nat → Nat} : fitD 6 A 0 (shn 6) = true ↔ (97 ≤ A 0 ∧ A 0 ≤ 100) ∧ A 1 = 46 ∧ A 2 = 114 ∧ A 3 = 61 ∧ (97 ≤ A 4 ∧ A 4 ≤ 100) ∧ A 5 = 59 := by
  simp [fitD, fitsB, shc, shn, shQ]
theorem fx7 {A : Nat → Nat} : fitD 7 A 0 (shn 7) = true ↔ (97 ≤ A 0 ∧ A 0 ≤ 100) ∧ A 1 = 46 ∧ A 2 = 108 ∧ A 3 = 61 ∧ A 4 = 45 ∧ A 5 = 59 := by
  simp [fitD, fitsB, shc, shn, shQ]
theorem fx8 {A : Nat → Nat} : fitD 8 A 0 (shn 8) = true ↔ (97 ≤ A 0 ∧ A 0 ≤ 100) ∧ A 1 = 46 ∧ A 2 = 114 ∧ A 3 = 61 ∧ A 4 = 45 ∧ A 5 = 59 := by
  simp [fitD, fitsB, shc, shn, shQ]
theorem fx9 {A : Nat → Nat} : fitD 9 A 0 (shn 9) = true ↔ (97 ≤ A 0 ∧ A 0 ≤ 100) ∧ A 1 = 46 ∧ A 2 = 110 ∧ A 3 = 61 ∧ (120 ≤ A 4 ∧ A 4 ≤ 122) ∧ A 5 = 59 := by
  simp [fitD, fitsB, shc, shn, shQ]
theorem fx10 {A : Nat → Nat} : fitD 10 A 0 (shn 10) = true ↔ (120 ≤ A 0 ∧ A 0 ≤ 122) ∧ A 1 = 61 ∧ (48 ≤ A 2 ∧ A 2 ≤ 57) ∧ A 3 = 59 := by
  simp [fitD, fitsB, shc, shn, shQ]
theorem fx11 {A : Nat → Nat} : fitD 11 A 0 (shn 11) = true ↔ (120 ≤ A 0 ∧ A 0 ≤ 122) ∧ A 1 = 61 ∧ (120 ≤ A 2 ∧ A 2 ≤ 122) ∧ A 3 = 59 := by
  simp [fitD, fitsB, shc, shn, shQ]
theorem fx12 {A : Nat → Nat} : fitD 12 A 0 (shn 12) = true ↔ (120 ≤ A 0 ∧ A 0 ≤ 122) ∧ A 1 = 61 ∧ (120 ≤ A 2 ∧ A 2 ≤ 122) ∧ A 3 = 43 ∧ (120 ≤ A 4 ∧ A 4 ≤ 122) ∧ A 5 = 59 := by
  simp [fitD, fitsB, shc, shn, shQ]
theorem fx13 {A : Nat → Nat} : fitD 13 A 0 (shn 13) = true ↔ (120 ≤ A 0 ∧ A 0 ≤ 122) ∧ A 1 = 61 ∧ (97 ≤ A 2 ∧ A 2 ≤ 100) ∧ A 3 = 46 ∧ A 4 = 110 ∧ A 5 = 59 := by
  simp [fitD, fitsB, shc, shn, shQ]
theorem fx14 {A : Nat → Nat} : fitD 14 A 0 (shn 14) = true ↔ A 0 = 33 ∧ (120 ≤ A 1 ∧ A 1 ≤ 122) ∧ A 2 = 59 := by
  simp [fitD, fitsB, shc, shn, shQ]
theorem numR {x : Nat} (h : 97 ≤ x ∧ x ≤ 100) : numQ x = x - 97 := by
  unfold numQ; rw [if_pos (by omega), if_neg (by omega)]
theorem numI {x : Nat} (h : 120 ≤ x ∧ x ≤ 122) : numQ x = x - 120 := by
  unfold numQ; rw [if_neg (by omega)]
theorem numD {x : Nat} (h : 48 ≤ x ∧ x ≤ 57) : numQ x = x - 48 := by
  unfold numQ; rw [if_pos (by omega), if_pos (by omega)]
theorem ox0 {A : Nat → Nat} (h : (97 ≤ A 0 ∧ A 0 ≤ 100) ∧ A 1 = 61 ∧ A 2 = 42 ∧ A 3 = 59) : opD 0 A 0 16 0 (shn 0) = 16 * (A 0 - 97) + 64 * 0 + 256 * 0 := by
  obtain ⟨h0, h1, h2, h3⟩ := h
  simp [opD, shc, shn, shQ, numR h0]
theorem ox1 {A : Nat → Nat} (h : (97 ≤ A 0 ∧ A 0 ≤ 100) ∧ A 1 = 61 ∧ A 2 = 45 ∧ A 3 = 59) : opD 1 A 0 16 0 (shn 1) = 16 * (A 0 - 97) + 64 * 0 + 256 * 0 := by
  obtain ⟨h0, h1, h2, h3⟩ := h
  simp [opD, shc, shn, shQ, numR h0]
theorem ox2 {A : Nat → Nat} (h : (97 ≤ A 0 ∧ A 0 ≤ 100) ∧ A 1 = 61 ∧ (97 ≤ A 2 ∧ A 2 ≤ 100) ∧ A 3 = 59) : opD 2 A 0 16 0 (shn 2) = 16 * (A 0 - 97) + 64 * (A 2 - 97) + 256 * 0 := by
  obtain ⟨h0, h1, h2, h3⟩ := h
  simp [opD, shc, shn, shQ, numR h0, numR h2]
theorem ox3 {A : Nat → Nat} (h : (97 ≤ A 0 ∧ A 0 ≤ 100) ∧ A 1 = 61 ∧ (97 ≤ A 2 ∧ A 2 ≤ 100) ∧ A 3 = 46 ∧ A 4 = 108 ∧ A 5 = 59) : opD 3 A 0 16 0 (shn 3) = 16 * (A 0 - 97) + 64 * (A 2 - 97) + 256 * 0 := by
  obtain ⟨h0, h1, h2, h3, h4, h5⟩ := h
  simp [opD, shc, shn, shQ, numR h0, numR h2]
theorem ox4 {A : Nat → Nat} (h : (97 ≤ A 0 ∧ A 0 ≤ 100) ∧ A 1 = 61 ∧ (97 ≤ A 2 ∧ A 2 ≤ 100) ∧ A 3 = 46 ∧ A 4 = 114 ∧ A 5 = 59) : opD 4 A 0 16 0 (shn 4) = 16 * (A 0 - 97) + 64 * (A 2 - 97) + 256 * 0 := by
  obtain ⟨h0, h1, h2, h3, h4, h5⟩ := h
  simp [opD, shc, shn, shQ, numR h0, numR h2]
theorem ox5 {A : Nat → Nat} (h : (97 ≤ A 0 ∧ A 0 ≤ 100) ∧ A 1 = 46 ∧ A 2 = 108 ∧ A 3 = 61 ∧ (97 ≤ A 4 ∧ A 4 ≤ 100) ∧ A 5 = 59) : opD 5 A 0 16 0 (shn 5) = 16 * (A 0 - 97) + 64 * (A 4 - 97) + 256 * 0 := by
  obtain ⟨h0, h1, h2, h3, h4, h5⟩ := h
  simp [opD, shc, shn, shQ, numR h0, numR h4]
theorem ox6 {A : Nat → Nat} (h : (97 ≤ A 0 ∧ A 0 ≤ 100) ∧ A 1 = 46 ∧ A 2 = 114 ∧ A 3 = 61 ∧ (97 ≤ A 4 ∧ A 4 ≤ 100) ∧ A 5 = 59) : opD 6 A 0 16 0 (shn 6) = 16 * (A 0 - 97) + 64 * (A 4 - 97) + 256 * 0 := by
  obtain ⟨h0, h1, h2, h3, h4, h5⟩ := h
  simp [opD, shc, shn, shQ, numR h0, numR h4]
theorem ox7 {A : Nat → Nat} (h : (97 ≤ A 0 ∧ A 0 ≤ 100) ∧ A 1 = 46 ∧ A 2 = 108 ∧ A 3 = 61 ∧ A 4 = 45 ∧ A 5 = 59) : opD 7 A 0 16 0 (shn 7) = 16 * (A 0 - 97) + 64 * 0 + 256 * 0 := by
  obtain ⟨h0, h1, h2, h3, h4, h5⟩ := h
  simp [opD, shc, shn, shQ, numR h0]
theorem ox8 {A : Nat → Nat} (h : (97 ≤ A 0 ∧ A 0 ≤ 100) ∧ A 1 = 46 ∧ A 2 = 114 ∧ A 3 = 61 ∧ A 4 = 45 ∧ A 5 = 59) : opD 8 A 0 16 0 (shn 8) = 16 * (A 0 - 97) + 64 * 0 + 256 * 0 := by
  obtain ⟨h0, h1, h2, h3, h4, h5⟩ := h
  simp [opD, shc, shn, shQ, numR h0]
theorem ox9 {A : Nat → Nat} (h : (97 ≤ A 0 ∧ A 0 ≤ 100) ∧ A 1 = 46 ∧ A 2 = 110 ∧ A 3 = 61 ∧ (120 ≤ A 4 ∧ A 4 ≤ 122) ∧ A 5 = 59) : opD 9 A 0 16 0 (shn 9) = 16 * (A 0 - 97) + 64 * (A 4 - 120) + 256 * 0 := by
  obtain ⟨h0, h1, h2, h3, h4, h5⟩ := h
  simp [opD, shc, shn, shQ, numR h0, numI h4]
theorem ox10 {A : Nat → Nat} (h : (120 ≤ A 0 ∧ A 0 ≤ 122) ∧ A 1 = 61 ∧ (48 ≤ A 2 ∧ A 2 ≤ 57) ∧ A 3 = 59) : opD 10 A 0 16 0 (shn 10) = 16 * (A 0 - 120) + 64 * 0 + 256 * (A 2 - 48) := by
  obtain ⟨h0, h1, h2, h3⟩ := h
  simp [opD, shc, shn, shQ, numI h0, numD h2]
theorem ox11 {A : Nat → Nat} (h : (120 ≤ A 0 ∧ A 0 ≤ 122) ∧ A 1 = 61 ∧ (120 ≤ A 2 ∧ A 2 ≤ 122) ∧ A 3 = 59) : opD 11 A 0 16 0 (shn 11) = 16 * (A 0 - 120) + 64 * (A 2 - 120) + 256 * 0 := by
  obtain ⟨h0, h1, h2, h3⟩ := h
  simp [opD, shc, shn, shQ, numI h0, numI h2]
theorem ox12 {A : Nat → Nat} (h : (120 ≤ A 0 ∧ A 0 ≤ 122) ∧ A 1 = 61 ∧ (120 ≤ A 2 ∧ A 2 ≤ 122) ∧ A 3 = 43 ∧ (120 ≤ A 4 ∧ A 4 ≤ 122) ∧ A 5 = 59) : opD 12 A 0 16 0 (shn 12) = 16 * (A 0 - 120) + 64 * (A 2 - 120) + 256 * (A 4 - 120) := by
  obtain ⟨h0, h1, h2, h3, h4, h5⟩ := h
  simp [opD, shc, shn, shQ, numI h0, numI h2, numI h4]
theorem ox13 {A : Nat → Nat} (h : (120 ≤ A 0 ∧ A 0 ≤ 122) ∧ A 1 = 61 ∧ (97 ≤ A 2 ∧ A 2 ≤ 100) ∧ A 3 = 46 ∧ A 4 = 110 ∧ A 5 = 59) : opD 13 A 0 16 0 (shn 13) = 16 * (A 0 - 120) + 64 * (A 2 - 97) + 256 * 0 := by
  obtain ⟨h0, h1, h2, h3, h4, h5⟩ := h
  simp [opD, shc, shn, shQ, numI h0, numR h2]
theorem ox14 {A : Nat → Nat} (h : A 0 = 33 ∧ (120 ≤ A 1 ∧ A 1 ≤ 122) ∧ A 2 = 59) : opD 14 A 0 16 0 (shn 14) = 16 * (A 1 - 120) + 64 * 0 + 256 * 0 := by
  obtain ⟨h0, h1, h2⟩ := h
  simp [opD, shc, shn, shQ, numI h1]
/-! ===== the pure part: statements, the reference ===== -/
theorem one0 : ((1 : Int32) = 0) = False := eq_false (by decide)
theorem zer0 : ((0 : Int32) = 0) = True := eq_true rfl
theorem cq33 {x : Nat} (h : x < 128) : (nI x = 33) = (x = 33) := propext (nI_eq (b := 33) (by omega) (by decide))
theorem cq40 {x : Nat} (h : x < 128) : (nI x = 40) = (x = 40) := propext (nI_eq (b := 40) (by omega) (by decide))
theorem cq41 {x : Nat} (h : x < 128) : (nI x = 41) = (x = 41) := propext (nI_eq (b := 41) (by omega) (by decide))
theorem cq42 {x : Nat} (h : x < 128) : (nI x = 42) = (x = 42) := propext (nI_eq (b := 42) (by omega) (by decide))
theorem cq43 {x : Nat} (h : x < 128) : (nI x = 43) = (x = 43) := propext (nI_eq (b := 43) (by omega) (by decide))
theorem cq45 {x : Nat} (h : x < 128) : (nI x = 45) = (x = 45) := propext (nI_eq (b := 45) (by omega) (by decide))
theorem cq46 {x : Nat} (h : x < 128) : (nI x = 46) = (x = 46) := propext (nI_eq (b := 46) (by omega) (by decide))
theorem cq59 {x : Nat} (h : x < 128) : (nI x = 59) = (x = 59) := propext (nI_eq (b := 59) (by omega) (by decide))
theorem cq61 {x : Nat} (h : x < 128) : (nI x = 61) = (x = 61) := propext (nI_eq (b := 61) (by omega) (by decide))
theorem cq108 {x : Nat} (h : x < 128) : (nI x = 108) = (x = 108) := propext (nI_eq (b := 108) (by omega) (by decide))
theorem cq110 {x : Nat} (h : x < 128) : (nI x = 110) = (x = 110) := propext (nI_eq (b := 110) (by omega) (by decide))
theorem cq114 {x : Nat} (h : x < 128) : (nI x = 114) = (x = 114) := propext (nI_eq (b := 114) (by omega) (by decide))
def cvI (x : Nat) : Int32 := if 97 ≤ x ∧ x ≤ 100 then nI (x - 97) else -1
def ivI (x : Nat) : Int32 := if 120 ≤ x ∧ x ≤ 122 then nI (x - 120) else -1
theorem cv_n {x : Nat} : (cvI x < 0) = ¬ (97 ≤ x ∧ x ≤ 100) := by
  unfold cvI
  by_cases h : 97 ≤ x ∧ x ≤ 100
  · rw [if_pos h]; exact propext ⟨fun a => absurd a (nI_pos (by omega)), fun a => absurd h a⟩
  · rw [if_neg h]; exact propext ⟨fun _ => h, fun _ => by decide⟩
theorem cv_p {x : Nat} : (0 ≤ cvI x) = (97 ≤ x ∧ x ≤ 100) := by
  unfold cvI
  by_cases h : 97 ≤ x ∧ x ≤ 100
  · rw [if_pos h]; exact propext ⟨fun _ => h, fun _ => nI_le (a := 0) (by omega) (by omega)⟩
  · rw [if_neg h]; exact propext ⟨fun a => absurd a (by decide), fun a => absurd a h⟩
theorem iv_n {x : Nat} : (ivI x < 0) = ¬ (120 ≤ x ∧ x ≤ 122) := by
  unfold ivI
  by_cases h : 120 ≤ x ∧ x ≤ 122
  · rw [if_pos h]; exact propext ⟨fun a => absurd a (nI_pos (by omega)), fun a => absurd h a⟩
  · rw [if_neg h]; exact propext ⟨fun _ => h, fun _ => by decide⟩
theorem d_lo {x : Nat} (h : x < 128) : (nI x < 48) = (x < 48) := propext (nI_ltI (b := 48) (by omega) (by decide))
theorem d_hi {x : Nat} (h : x < 128) : (57 < nI x) = (57 < x) := propext (nI_ltI (a := 57) (by decide) (by omega))
theorem nad2 (k : Nat) : nI k + 2 = nI (k + 2) := nI_add k 2
theorem nad3 (k : Nat) : nI k + 3 = nI (k + 3) := nI_add k 3
theorem nad4 (k : Nat) : nI k + 4 = nI (k + 4) := nI_add k 4
theorem nad5 (k : Nat) : nI k + 5 = nI (k + 5) := nI_add k 5
theorem cv_ref {k a : Nat} {r : QS} (ha : a < 128) (h : qf_Ref_at (nI k) r = some (nI a)) : qf_Ref_cellVariable (nI k) r = some (cvI a) := by
  unfold qf_Ref_cellVariable cvI
  rw [h, Option.bind_some]
  by_cases h1 : a < 97
  · rw [if_pos (show nI a < 97 from nI_lt (b := 97) h1 (by decide)), if_neg (by omega)]
  · rw [if_neg (show ¬ nI a < 97 from nI_nlt (b := 97) (by omega) (by omega))]
    by_cases h2 : 100 < a
    · rw [if_pos (show 100 < nI a from nI_lt (a := 100) h2 (by omega)), if_neg (by omega)]
    · rw [if_neg (show ¬ 100 < nI a from nI_nlt (a := 100) (by omega) (by decide)), if_pos (by omega)]
      exact congrArg some (pk_sub (b := 97) (by omega))
theorem iv_ref {k a : Nat} {r : QS} (ha : a < 128) (h : qf_Ref_at (nI k) r = some (nI a)) : qf_Ref_intVariable (nI k) r = some (ivI a) := by
  unfold qf_Ref_intVariable ivI
  rw [h, Option.bind_some]
  by_cases h1 : a < 120
  · rw [if_pos (show nI a < 120 from nI_lt (b := 120) h1 (by decide)), if_neg (by omega)]
  · rw [if_neg (show ¬ nI a < 120 from nI_nlt (b := 120) (by omega) (by omega))]
    by_cases h2 : 122 < a
    · rw [if_pos (show 122 < nI a from nI_lt (a := 122) h2 (by omega)), if_neg (by omega)]
    · rw [if_neg (show ¬ 122 < nI a from nI_nlt (a := 122) (by omega) (by decide)), if_pos (by omega)]
      exact congrArg some (pk_sub (b := 120) (by omega))
def addS (r : QS) (cnt : Nat) (kd p q x : Int32) : QS := qp (qp (qp (qp (qp r 7 (fun _ => nI (cnt + 1))) 3 (upd (r 3) cnt kd)) 4 (upd (r 4) cnt p)) 5 (upd (r 5) cnt q)) 6 (upd (r 6) cnt x)
theorem add_ref {r : QS} {cnt : Nat} (hc : cnt < 40) (h : r 7 0 = nI cnt) (kd p q x : Int32) : qf_Ref_add kd p q x r = some (addS r cnt kd p q x) := by
  unfold qf_Ref_add addS
  rw [h, ck hc (by decide), ck hc (by decide), ck hc (by decide), ck hc (by decide), nI_clamp (by omega), nI_1]
theorem rx0 {k a0 a1 a2 a3 a4 a5 : Nat} {r : QS} (l0 : a0 < 128) (h0 : qf_Ref_at (nI (k + 0)) r = some (nI a0)) (l1 : a1 < 128) (h1 : qf_Ref_at (nI (k + 1)) r = some (nI a1)) (l2 : a2 < 128) (h2 : qf_Ref_at (nI (k + 2)) r = some (nI a2)) (l3 : a3 < 128) (h3 : qf_Ref_at (nI (k + 3)) r = some (nI a3)) (l4 : a4 < 128) (h4 : qf_Ref_at (nI (k + 4)) r = some (nI a4)) (l5 : a5 < 128) (h5 : qf_Ref_at (nI (k + 5)) r = some (nI a5)) {cnt : Nat} (ha : ∀ kd p q x : Int32, qf_Ref_add kd p q x r = some (addS r cnt kd p q x)) (h : (97 ≤ a0 ∧ a0 ≤ 100) ∧ a1 = 61 ∧ a2 = 42 ∧ a3 = 59) : qf_Ref_cellStatement (nI k) r = some (4, addS r cnt 0 (nI (a0 - 97)) 0 0) := by
  have h0 : qf_Ref_at (nI k) r = some (nI a0) := h0
  have v0 := cv_ref l0 h0
  have i0 := iv_ref l0 h0
  have v1 := cv_ref l1 h1
  have i1 := iv_ref l1 h1
  have v2 := cv_ref l2 h2
  have i2 := iv_ref l2 h2
  have v3 := cv_ref l3 h3
  have i3 := iv_ref l3 h3
  have v4 := cv_ref l4 h4
  have i4 := iv_ref l4 h4
  have v5 := cv_ref l5 h5
  have i5 := iv_ref l5 h5
  obtain ⟨e0, e1, e2, e3⟩ := h
  unfold qf_Ref_cellStatement qf_Ref_cellStatement_j74 qf_Ref_cellStatement_j93 qf_Ref_cellStatement_j118 qf_Ref_cellStatement_j184 qf_Ref_cellStatement_j216 qf_Ref_storing qf_Ref_storing_j68 qf_Ref_storing_j85 qf_Ref_storing_j99 qf_Ref_storing_j116 qf_Ref_storing_j128 qf_Ref_storing_j139 qf_Ref_storing_j157
  simp only [nI_1, nad2, nad3, nad4, nad5, h0, h1, h2, h3, h4, h5, v0, v1, v2, v3, v4, v5, i0, i1, i2, i3, i4, i5, Option.bind_some, cq33, cq40, cq41, cq42, cq43, cq45, cq46, cq59, cq61, cq108, cq110, cq114, cv_n, cv_p, iv_n, d_lo, d_hi, one0, zer0, if_true, if_false, l0, l1, l2, l3, l4, l5]
  have f0 : ¬ a0 = 33 ∧ ¬ a0 = 40 ∧ ¬ a0 = 41 ∧ ¬ (120 ≤ a0 ∧ a0 ≤ 122) ∧ ¬ a0 = 45 ∧ ¬ a0 = 42 ∧ ¬ a0 < 48 ∧ 57 < a0 := by omega
  simp [ha, e0, f0, show cvI a0 = nI (a0 - 97) from if_pos e0, e1, e2, e3]
theorem rx1 {k a0 a1 a2 a3 a4 a5 : Nat} {r : QS} (l0 : a0 < 128) (h0 : qf_Ref_at (nI (k + 0)) r = some (nI a0)) (l1 : a1 < 128) (h1 : qf_Ref_at (nI (k + 1)) r = some (nI a1)) (l2 : a2 < 128) (h2 : qf_Ref_at (nI (k + 2)) r = some (nI a2)) (l3 : a3 < 128) (h3 : qf_Ref_at (nI (k + 3)) r = some (nI a3)) (l4 : a4 < 128) (h4 : qf_Ref_at (nI (k + 4)) r = some (nI a4)) (l5 : a5 < 128) (h5 : qf_Ref_at (nI (k + 5)) r = some (nI a5)) {cnt : Nat} (ha : ∀ kd p q x : Int32, qf_Ref_add kd p q x r = some (addS r cnt kd p q x)) (h : (97 ≤ a0 ∧ a0 ≤ 100) ∧ a1 = 61 ∧ a2 = 45 ∧ a3 = 59) : qf_Ref_cellStatement (nI k) r = some (4, addS r cnt 1 (nI (a0 - 97)) 0 0) := by
  have h0 : qf_Ref_at (nI k) r = some (nI a0) := h0
  have v0 := cv_ref l0 h0
  have i0 := iv_ref l0 h0
  have v1 := cv_ref l1 h1
  have i1 := iv_ref l1 h1
  have v2 := cv_ref l2 h2
  have i2 := iv_ref l2 h2
  have v3 := cv_ref l3 h3
  have i3 := iv_ref l3 h3
  have v4 := cv_ref l4 h4
  have i4 := iv_ref l4 h4
  have v5 := cv_ref l5 h5
  have i5 := iv_ref l5 h5
  obtain ⟨e0, e1, e2, e3⟩ := h
  unfold qf_Ref_cellStatement qf_Ref_cellStatement_j74 qf_Ref_cellStatement_j93 qf_Ref_cellStatement_j118 qf_Ref_cellStatement_j184 qf_Ref_cellStatement_j216 qf_Ref_storing qf_Ref_storing_j68 qf_Ref_storing_j85 qf_Ref_storing_j99 qf_Ref_storing_j116 qf_Ref_storing_j128 qf_Ref_storing_j139 qf_Ref_storing_j157
  simp only [nI_1, nad2, nad3, nad4, nad5, h0, h1, h2, h3, h4, h5, v0, v1, v2, v3, v4, v5, i0, i1, i2, i3, i4, i5, Option.bind_some, cq33, cq40, cq41, cq42, cq43, cq45, cq46, cq59, cq61, cq108, cq110, cq114, cv_n, cv_p, iv_n, d_lo, d_hi, one0, zer0, if_true, if_false, l0, l1, l2, l3, l4, l5]
  have f0 : ¬ a0 = 33 ∧ ¬ a0 = 40 ∧ ¬ a0 = 41 ∧ ¬ (120 ≤ a0 ∧ a0 ≤ 122) ∧ ¬ a0 = 45 ∧ ¬ a0 = 42 ∧ ¬ a0 < 48 ∧ 57 < a0 := by omega
  simp [ha, e0, f0, show cvI a0 = nI (a0 - 97) from if_pos e0, e1, e2, e3]
theorem rx2 {k a0 a1 a2 a3 a4 a5 : Nat} {r : QS} (l0 : a0 < 128) (h0 : qf_Ref_at (nI (k + 0)) r = some (nI a0)) (l1 : a1 < 128) (h1 : qf_Ref_at (nI (k + 1)) r = some (nI a1)) (l2 : a2 < 128) (h2 : qf_Ref_at (nI (k + 2)) r = some (nI a2)) (l3 : a3 < 128) (h3 : qf_Ref_at (nI (k + 3)) r = some (nI a3)) (l4 : a4 < 128) (h4 : qf_Ref_at (nI (k + 4)) r = some (nI a4)) (l5 : a5 < 128) (h5 : qf_Ref_at (nI (k + 5)) r = some (nI a5)) {cnt : Nat} (ha : ∀ kd p q x : Int32, qf_Ref_add kd p q x r = some (addS r cnt kd p q x)) (h : (97 ≤ a0 ∧ a0 ≤ 100) ∧ a1 = 61 ∧ (97 ≤ a2 ∧ a2 ≤ 100) ∧ a3 = 59) : qf_Ref_cellStatement (nI k) r = some (4, addS r cnt 2 (nI (a0 - 97)) (nI (a2 - 97)) 0) := by
  have h0 : qf_Ref_at (nI k) r = some (nI a0) := h0
  have v0 := cv_ref l0 h0
  have i0 := iv_ref l0 h0
  have v1 := cv_ref l1 h1
  have i1 := iv_ref l1 h1
  have v2 := cv_ref l2 h2
  have i2 := iv_ref l2 h2
  have v3 := cv_ref l3 h3
  have i3 := iv_ref l3 h3
  have v4 := cv_ref l4 h4
  have i4 := iv_ref l4 h4
  have v5 := cv_ref l5 h5
  have i5 := iv_ref l5 h5
  obtain ⟨e0, e1, e2, e3⟩ := h
  unfold qf_Ref_cellStatement qf_Ref_cellStatement_j74 qf_Ref_cellStatement_j93 qf_Ref_cellStatement_j118 qf_Ref_cellStatement_j184 qf_Ref_cellStatement_j216 qf_Ref_storing qf_Ref_storing_j68 qf_Ref_storing_j85 qf_Ref_storing_j99 qf_Ref_storing_j116 qf_Ref_storing_j128 qf_Ref_storing_j139 qf_Ref_storing_j157
  simp only [nI_1, nad2, nad3, nad4, nad5, h0, h1, h2, h3, h4, h5, v0, v1, v2, v3, v4, v5, i0, i1, i2, i3, i4, i5, Option.bind_some, cq33, cq40, cq41, cq42, cq43, cq45, cq46, cq59, cq61, cq108, cq110, cq114, cv_n, cv_p, iv_n, d_lo, d_hi, one0, zer0, if_true, if_false, l0, l1, l2, l3, l4, l5]
  have f0 : ¬ a0 = 33 ∧ ¬ a0 = 40 ∧ ¬ a0 = 41 ∧ ¬ (120 ≤ a0 ∧ a0 ≤ 122) ∧ ¬ a0 = 45 ∧ ¬ a0 = 42 ∧ ¬ a0 < 48 ∧ 57 < a0 := by omega
  have f2 : ¬ a2 = 33 ∧ ¬ a2 = 40 ∧ ¬ a2 = 41 ∧ ¬ (120 ≤ a2 ∧ a2 ≤ 122) ∧ ¬ a2 = 45 ∧ ¬ a2 = 42 ∧ ¬ a2 < 48 ∧ 57 < a2 := by omega
  simp [ha, e0, f0, show cvI a0 = nI (a0 - 97) from if_pos e0, e1, e2, f2, show cvI a2 = nI (a2 - 97) from if_pos e2, e3]
theorem rx3 {k a0 a1 a2 a3 a4 a5 : Nat} {r : QS} (l0 : a0 < 128) (h0 : qf_Ref_at (nI (k + 0)) r = some (nI a0)) (l1 : a1 < 128) (h1 : qf_Ref_at (nI (k + 1)) r = some (nI a1)) (l2 : a2 < 128) (h2 : qf_Ref_at (nI (k + 2)) r = some (nI a2)) (l3 : a3 < 128) (h3 : qf_Ref_at (nI (k + 3)) r = some (nI a3)) (l4 : a4 < 128) (h4 : qf_Ref_at (nI (k + 4)) r = some (nI a4)) (l5 : a5 < 128) (h5 : qf_Ref_at (nI (k + 5)) r = some (nI a5)) {cnt : Nat} (ha : ∀ kd p q x : Int32, qf_Ref_add kd p q x r = some (addS r cnt kd p q x)) (h : (97 ≤ a0 ∧ a0 ≤ 100) ∧ a1 = 61 ∧ (97 ≤ a2 ∧ a2 ≤ 100) ∧ a3 = 46 ∧ a4 = 108 ∧ a5 = 59) : qf_Ref_cellStatement (nI k) r = some (6, addS r cnt 3 (nI (a0 - 97)) (nI (a2 - 97)) 0) := by
  have h0 : qf_Ref_at (nI k) r = some (nI a0) := h0
  have v0 := cv_ref l0 h0
  have i0 := iv_ref l0 h0
  have v1 := cv_ref l1 h1
  have i1 := iv_ref l1 h1
  have v2 := cv_ref l2 h2
  have i2 := iv_ref l2 h2
  have v3 := cv_ref l3 h3
  have i3 := iv_ref l3 h3
  have v4 := cv_ref l4 h4
  have i4 := iv_ref l4 h4
  have v5 := cv_ref l5 h5
  have i5 := iv_ref l5 h5
  obtain ⟨e0, e1, e2, e3, e4, e5⟩ := h
  unfold qf_Ref_cellStatement qf_Ref_cellStatement_j74 qf_Ref_cellStatement_j93 qf_Ref_cellStatement_j118 qf_Ref_cellStatement_j184 qf_Ref_cellStatement_j216 qf_Ref_storing qf_Ref_storing_j68 qf_Ref_storing_j85 qf_Ref_storing_j99 qf_Ref_storing_j116 qf_Ref_storing_j128 qf_Ref_storing_j139 qf_Ref_storing_j157
  simp only [nI_1, nad2, nad3, nad4, nad5, h0, h1, h2, h3, h4, h5, v0, v1, v2, v3, v4, v5, i0, i1, i2, i3, i4, i5, Option.bind_some, cq33, cq40, cq41, cq42, cq43, cq45, cq46, cq59, cq61, cq108, cq110, cq114, cv_n, cv_p, iv_n, d_lo, d_hi, one0, zer0, if_true, if_false, l0, l1, l2, l3, l4, l5]
  have f0 : ¬ a0 = 33 ∧ ¬ a0 = 40 ∧ ¬ a0 = 41 ∧ ¬ (120 ≤ a0 ∧ a0 ≤ 122) ∧ ¬ a0 = 45 ∧ ¬ a0 = 42 ∧ ¬ a0 < 48 ∧ 57 < a0 := by omega
  have f2 : ¬ a2 = 33 ∧ ¬ a2 = 40 ∧ ¬ a2 = 41 ∧ ¬ (120 ≤ a2 ∧ a2 ≤ 122) ∧ ¬ a2 = 45 ∧ ¬ a2 = 42 ∧ ¬ a2 < 48 ∧ 57 < a2 := by omega
  simp [ha, e0, f0, show cvI a0 = nI (a0 - 97) from if_pos e0, e1, e2, f2, show cvI a2 = nI (a2 - 97) from if_pos e2, e3, e4, e5]
theorem rx4 {k a0 a1 a2 a3 a4 a5 : Nat} {r : QS} (l0 : a0 < 128) (h0 : qf_Ref_at (nI (k + 0)) r = some (nI a0)) (l1 : a1 < 128) (h1 : qf_Ref_at (nI (k + 1)) r = some (nI a1)) (l2 : a2 < 128) (h2 : qf_Ref_at (nI (k + 2)) r = some (nI a2)) (l3 : a3 < 128) (h3 : qf_Ref_at (nI (k + 3)) r = some (nI a3)) (l4 : a4 < 128) (h4 : qf_Ref_at (nI (k + 4)) r = some (nI a4)) (l5 : a5 < 128) (h5 : qf_Ref_at (nI (k + 5)) r = some (nI a5)) {cnt : Nat} (ha : ∀ kd p q x : Int32, qf_Ref_add kd p q x r = some (addS r cnt kd p q x)) (h : (97 ≤ a0 ∧ a0 ≤ 100) ∧ a1 = 61 ∧ (97 ≤ a2 ∧ a2 ≤ 100) ∧ a3 = 46 ∧ a4 = 114 ∧ a5 = 59) : qf_Ref_cellStatement (nI k) r = some (6, addS r cnt 4 (nI (a0 - 97)) (nI (a2 - 97)) 0) := by
  have h0 : qf_Ref_at (nI k) r = some (nI a0) := h0
  have v0 := cv_ref l0 h0
  have i0 := iv_ref l0 h0
  have v1 := cv_ref l1 h1
  have i1 := iv_ref l1 h1
  have v2 := cv_ref l2 h2
  have i2 := iv_ref l2 h2
  have v3 := cv_ref l3 h3
  have i3 := iv_ref l3 h3
  have v4 := cv_ref l4 h4
  have i4 := iv_ref l4 h4
  have v5 := cv_ref l5 h5
  have i5 := iv_ref l5 h5
  obtain ⟨e0, e1, e2, e3, e4, e5⟩ := h
  unfold qf_Ref_cellStatement qf_Ref_cellStatement_j74 qf_Ref_cellStatement_j93 qf_Ref_cellStatement_j118 qf_Ref_cellStatement_j184 qf_Ref_cellStatement_j216 qf_Ref_storing qf_Ref_storing_j68 qf_Ref_storing_j85 qf_Ref_storing_j99 qf_Ref_storing_j116 qf_Ref_storing_j128 qf_Ref_storing_j139 qf_Ref_storing_j157
  simp only [nI_1, nad2, nad3, nad4, nad5, h0, h1, h2, h3, h4, h5, v0, v1, v2, v3, v4, v5, i0, i1, i2, i3, i4, i5, Option.bind_some, cq33, cq40, cq41, cq42, cq43, cq45, cq46, cq59, cq61, cq108, cq110, cq114, cv_n, cv_p, iv_n, d_lo, d_hi, one0, zer0, if_true, if_false, l0, l1, l2, l3, l4, l5]
  have f0 : ¬ a0 = 33 ∧ ¬ a0 = 40 ∧ ¬ a0 = 41 ∧ ¬ (120 ≤ a0 ∧ a0 ≤ 122) ∧ ¬ a0 = 45 ∧ ¬ a0 = 42 ∧ ¬ a0 < 48 ∧ 57 < a0 := by omega
  have f2 : ¬ a2 = 33 ∧ ¬ a2 = 40 ∧ ¬ a2 = 41 ∧ ¬ (120 ≤ a2 ∧ a2 ≤ 122) ∧ ¬ a2 = 45 ∧ ¬ a2 = 42 ∧ ¬ a2 < 48 ∧ 57 < a2 := by omega
  simp [ha, e0, f0, show cvI a0 = nI (a0 - 97) from if_pos e0, e1, e2, f2, show cvI a2 = nI (a2 - 97) from if_pos e2, e3, e4, e5]
theorem rx5 {k a0 a1 a2 a3 a4 a5 : Nat} {r : QS} (l0 : a0 < 128) (h0 : qf_Ref_at (nI (k + 0)) r = some (nI a0)) (l1 : a1 < 128) (h1 : qf_Ref_at (nI (k + 1)) r = some (nI a1)) (l2 : a2 < 128) (h2 : qf_Ref_at (nI (k + 2)) r = some (nI a2)) (l3 : a3 < 128) (h3 : qf_Ref_at (nI (k + 3)) r = some (nI a3)) (l4 : a4 < 128) (h4 : qf_Ref_at (nI (k + 4)) r = some (nI a4)) (l5 : a5 < 128) (h5 : qf_Ref_at (nI (k + 5)) r = some (nI a5)) {cnt : Nat} (ha : ∀ kd p q x : Int32, qf_Ref_add kd p q x r = some (addS r cnt kd p q x)) (h : (97 ≤ a0 ∧ a0 ≤ 100) ∧ a1 = 46 ∧ a2 = 108 ∧ a3 = 61 ∧ (97 ≤ a4 ∧ a4 ≤ 100) ∧ a5 = 59) : qf_Ref_cellStatement (nI k) r = some (6, addS r cnt 5 (nI (a0 - 97)) (nI (a4 - 97)) 0) := by
  have h0 : qf_Ref_at (nI k) r = some (nI a0) := h0
  have v0 := cv_ref l0 h0
  have i0 := iv_ref l0 h0
  have v1 := cv_ref l1 h1
  have i1 := iv_ref l1 h1
  have v2 := cv_ref l2 h2
  have i2 := iv_ref l2 h2
  have v3 := cv_ref l3 h3
  have i3 := iv_ref l3 h3
  have v4 := cv_ref l4 h4
  have i4 := iv_ref l4 h4
  have v5 := cv_ref l5 h5
  have i5 := iv_ref l5 h5
  obtain ⟨e0, e1, e2, e3, e4, e5⟩ := h
  unfold qf_Ref_cellStatement qf_Ref_cellStatement_j74 qf_Ref_cellStatement_j93 qf_Ref_cellStatement_j118 qf_Ref_cellStatement_j184 qf_Ref_cellStatement_j216 qf_Ref_storing qf_Ref_storing_j68 qf_Ref_storing_j85 qf_Ref_storing_j99 qf_Ref_storing_j116 qf_Ref_storing_j128 qf_Ref_storing_j139 qf_Ref_storing_j157
  simp only [nI_1, nad2, nad3, nad4, nad5, h0, h1, h2, h3, h4, h5, v0, v1, v2, v3, v4, v5, i0, i1, i2, i3, i4, i5, Option.bind_some, cq33, cq40, cq41, cq42, cq43, cq45, cq46, cq59, cq61, cq108, cq110, cq114, cv_n, cv_p, iv_n, d_lo, d_hi, one0, zer0, if_true, if_false, l0, l1, l2, l3, l4, l5]
  have f0 : ¬ a0 = 33 ∧ ¬ a0 = 40 ∧ ¬ a0 = 41 ∧ ¬ (120 ≤ a0 ∧ a0 ≤ 122) ∧ ¬ a0 = 45 ∧ ¬ a0 = 42 ∧ ¬ a0 < 48 ∧ 57 < a0 := by omega
  have f4 : ¬ a4 = 33 ∧ ¬ a4 = 40 ∧ ¬ a4 = 41 ∧ ¬ (120 ≤ a4 ∧ a4 ≤ 122) ∧ ¬ a4 = 45 ∧ ¬ a4 = 42 ∧ ¬ a4 < 48 ∧ 57 < a4 := by omega
  simp [ha, e0, f0, show cvI a0 = nI (a0 - 97) from if_pos e0, e1, e2, e3, e4, f4, show cvI a4 = nI (a4 - 97) from if_pos e4, e5]
theorem rx6 {k a0 a1 a2 a3 a4 a5 : Nat} {r : QS} (l0 : a0 < 128) (h0 : qf_Ref_at (nI (k + 0)) r = some (nI a0)) (l1 : a1 < 128) (h1 : qf_Ref_at (nI (k + 1)) r = some (nI a1)) (l2 : a2 < 128) (h2 : qf_Ref_at (nI (k + 2)) r = some (nI a2)) (l3 : a3 < 128) (h3 : qf_Ref_at (nI (k + 3)) r = some (nI a3)) (l4 : a4 < 128) (h4 : qf_Ref_at (nI (k + 4)) r = some (nI a4)) (l5 : a5 < 128) (h5 : qf_Ref_at (nI (k + 5)) r = some (nI a5)) {cnt : Nat} (ha : ∀ kd p q x : Int32, qf_Ref_add kd p q x r = some (addS r cnt kd p q x)) (h : (97 ≤ a0 ∧ a0 ≤ 100) ∧ a1 = 46 ∧ a2 = 114 ∧ a3 = 61 ∧ (97 ≤ a4 ∧ a4 ≤ 100) ∧ a5 = 59) : qf_Ref_cellStatement (nI k) r = some (6, addS r cnt 6 (nI (a0 - 97)) (nI (a4 - 97)) 0) := by
  have h0 : qf_Ref_at (nI k) r = some (nI a0) := h0
  have v0 := cv_ref l0 h0
  have i0 := iv_ref l0 h0
  have v1 := cv_ref l1 h1
  have i1 := iv_ref l1 h1
  have v2 := cv_ref l2 h2
  have i2 := iv_ref l2 h2
  have v3 := cv_ref l3 h3
  have i3 := iv_ref l3 h3
  have v4 := cv_ref l4 h4
  have i4 := iv_ref l4 h4
  have v5 := cv_ref l5 h5
  have i5 := iv_ref l5 h5
  obtain ⟨e0, e1, e2, e3, e4, e5⟩ := h
  unfold qf_Ref_cellStatement qf_Ref_cellStatement_j74 qf_Ref_cellStatement_j93 qf_Ref_cellStatement_j118 qf_Ref_cellStatement_j184 qf_Ref_cellStatement_j216 qf_Ref_storing qf_Ref_storing_j68 qf_Ref_storing_j85 qf_Ref_storing_j99 qf_Ref_storing_j116 qf_Ref_storing_j128 qf_Ref_storing_j139 qf_Ref_storing_j157
  simp only [nI_1, nad2, nad3, nad4, nad5, h0, h1, h2, h3, h4, h5, v0, v1, v2, v3, v4, v5, i0, i1, i2, i3, i4, i5, Option.bind_some, cq33, cq40, cq41, cq42, cq43, cq45, cq46, cq59, cq61, cq108, cq110, cq114, cv_n, cv_p, iv_n, d_lo, d_hi, one0, zer0, if_true, if_false, l0, l1, l2, l3, l4, l5]
  have f0 : ¬ a0 = 33 ∧ ¬ a0 = 40 ∧ ¬ a0 = 41 ∧ ¬ (120 ≤ a0 ∧ a0 ≤ 122) ∧ ¬ a0 = 45 ∧ ¬ a0 = 42 ∧ ¬ a0 < 48 ∧ 57 < a0 := by omega
  have f4 : ¬ a4 = 33 ∧ ¬ a4 = 40 ∧ ¬ a4 = 41 ∧ ¬ (120 ≤ a4 ∧ a4 ≤ 122) ∧ ¬ a4 = 45 ∧ ¬ a4 = 42 ∧ ¬ a4 < 48 ∧ 57 < a4 := by omega
  simp [ha, e0, f0, show cvI a0 = nI (a0 - 97) from if_pos e0, e1, e2, e3, e4, f4, show cvI a4 = nI (a4 - 97) from if_pos e4, e5]
theorem rx7 {k a0 a1 a2 a3 a4 a5 : Nat} {r : QS} (l0 : a0 < 128) (h0 : qf_Ref_at (nI (k + 0)) r = some (nI a0)) (l1 : a1 < 128) (h1 : qf_Ref_at (nI (k + 1)) r = some (nI a1)) (l2 : a2 < 128) (h2 : qf_Ref_at (nI (k + 2)) r = some (nI a2)) (l3 : a3 < 128) (h3 : qf_Ref_at (nI (k + 3)) r = some (nI a3)) (l4 : a4 < 128) (h4 : qf_Ref_at (nI (k + 4)) r = some (nI a4)) (l5 : a5 < 128) (h5 : qf_Ref_at (nI (k + 5)) r = some (nI a5)) {cnt : Nat} (ha : ∀ kd p q x : Int32, qf_Ref_add kd p q x r = some (addS r cnt kd p q x)) (h : (97 ≤ a0 ∧ a0 ≤ 100) ∧ a1 = 46 ∧ a2 = 108 ∧ a3 = 61 ∧ a4 = 45 ∧ a5 = 59) : qf_Ref_cellStatement (nI k) r = some (6, addS r cnt 7 (nI (a0 - 97)) 0 0) := by
  have h0 : qf_Ref_at (nI k) r = some (nI a0) := h0
  have v0 := cv_ref l0 h0
  have i0 := iv_ref l0 h0
  have v1 := cv_ref l1 h1
  have i1 := iv_ref l1 h1
  have v2 := cv_ref l2 h2
  have i2 := iv_ref l2 h2
  have v3 := cv_ref l3 h3
  have i3 := iv_ref l3 h3
  have v4 := cv_ref l4 h4
  have i4 := iv_ref l4 h4
  have v5 := cv_ref l5 h5
  have i5 := iv_ref l5 h5
  obtain ⟨e0, e1, e2, e3, e4, e5⟩ := h
  unfold qf_Ref_cellStatement qf_Ref_cellStatement_j74 qf_Ref_cellStatement_j93 qf_Ref_cellStatement_j118 qf_Ref_cellStatement_j184 qf_Ref_cellStatement_j216 qf_Ref_storing qf_Ref_storing_j68 qf_Ref_storing_j85 qf_Ref_storing_j99 qf_Ref_storing_j116 qf_Ref_storing_j128 qf_Ref_storing_j139 qf_Ref_storing_j157
  simp only [nI_1, nad2, nad3, nad4, nad5, h0, h1, h2, h3, h4, h5, v0, v1, v2, v3, v4, v5, i0, i1, i2, i3, i4, i5, Option.bind_some, cq33, cq40, cq41, cq42, cq43, cq45, cq46, cq59, cq61, cq108, cq110, cq114, cv_n, cv_p, iv_n, d_lo, d_hi, one0, zer0, if_true, if_false, l0, l1, l2, l3, l4, l5]
  have f0 : ¬ a0 = 33 ∧ ¬ a0 = 40 ∧ ¬ a0 = 41 ∧ ¬ (120 ≤ a0 ∧ a0 ≤ 122) ∧ ¬ a0 = 45 ∧ ¬ a0 = 42 ∧ ¬ a0 < 48 ∧ 57 < a0 := by omega
  simp [ha, e0, f0, show cvI a0 = nI (a0 - 97) from if_pos e0, e1, e2, e3, e4, e5]
theorem rx8 {k a0 a1 a2 a3 a4 a5 : Nat} {r : QS} (l0 : a0 < 128) (h0 : qf_Ref_at (nI (k + 0)) r = some (nI a0)) (l1 : a1 < 128) (h1 : qf_Ref_at (nI (k + 1)) r = some (nI a1)) (l2 : a2 < 128) (h2 : qf_Ref_at (nI (k + 2)) r = some (nI a2)) (l3 : a3 < 128) (h3 : qf_Ref_at (nI (k + 3)) r = some (nI a3)) (l4 : a4 < 128) (h4 : qf_Ref_at (nI (k + 4)) r = some (nI a4)) (l5 : a5 < 128) (h5 : qf_Ref_at (nI (k + 5)) r = some (nI a5)) {cnt : Nat} (ha : ∀ kd p q x : Int32, qf_Ref_add kd p q x r = some (addS r cnt kd p q x)) (h : (97 ≤ a0 ∧ a0 ≤ 100) ∧ a1 = 46 ∧ a2 = 114 ∧ a3 = 61 ∧ a4 = 45 ∧ a5 = 59) : qf_Ref_cellStatement (nI k) r = some (6, addS r cnt 8 (nI (a0 - 97)) 0 0) := by
  have h0 : qf_Ref_at (nI k) r = some (nI a0) := h0
  have v0 := cv_ref l0 h0
  have i0 := iv_ref l0 h0
  have v1 := cv_ref l1 h1
  have i1 := iv_ref l1 h1
  have v2 := cv_ref l2 h2
  have i2 := iv_ref l2 h2
  have v3 := cv_ref l3 h3
  have i3 := iv_ref l3 h3
  have v4 := cv_ref l4 h4
  have i4 := iv_ref l4 h4
  have v5 := cv_ref l5 h5
  have i5 := iv_ref l5 h5
  obtain ⟨e0, e1, e2, e3, e4, e5⟩ := h
  unfold qf_Ref_cellStatement qf_Ref_cellStatement_j74 qf_Ref_cellStatement_j93 qf_Ref_cellStatement_j118 qf_Ref_cellStatement_j184 qf_Ref_cellStatement_j216 qf_Ref_storing qf_Ref_storing_j68 qf_Ref_storing_j85 qf_Ref_storing_j99 qf_Ref_storing_j116 qf_Ref_storing_j128 qf_Ref_storing_j139 qf_Ref_storing_j157
  simp only [nI_1, nad2, nad3, nad4, nad5, h0, h1, h2, h3, h4, h5, v0, v1, v2, v3, v4, v5, i0, i1, i2, i3, i4, i5, Option.bind_some, cq33, cq40, cq41, cq42, cq43, cq45, cq46, cq59, cq61, cq108, cq110, cq114, cv_n, cv_p, iv_n, d_lo, d_hi, one0, zer0, if_true, if_false, l0, l1, l2, l3, l4, l5]
  have f0 : ¬ a0 = 33 ∧ ¬ a0 = 40 ∧ ¬ a0 = 41 ∧ ¬ (120 ≤ a0 ∧ a0 ≤ 122) ∧ ¬ a0 = 45 ∧ ¬ a0 = 42 ∧ ¬ a0 < 48 ∧ 57 < a0 := by omega
  simp [ha, e0, f0, show cvI a0 = nI (a0 - 97) from if_pos e0, e1, e2, e3, e4, e5]
theorem rx9 {k a0 a1 a2 a3 a4 a5 : Nat} {r : QS} (l0 : a0 < 128) (h0 : qf_Ref_at (nI (k + 0)) r = some (nI a0)) (l1 : a1 < 128) (h1 : qf_Ref_at (nI (k + 1)) r = some (nI a1)) (l2 : a2 < 128) (h2 : qf_Ref_at (nI (k + 2)) r = some (nI a2)) (l3 : a3 < 128) (h3 : qf_Ref_at (nI (k + 3)) r = some (nI a3)) (l4 : a4 < 128) (h4 : qf_Ref_at (nI (k + 4)) r = some (nI a4)) (l5 : a5 < 128) (h5 : qf_Ref_at (nI (k + 5)) r = some (nI a5)) {cnt : Nat} (ha : ∀ kd p q x : Int32, qf_Ref_add kd p q x r = some (addS r cnt kd p q x)) (h : (97 ≤ a0 ∧ a0 ≤ 100) ∧ a1 = 46 ∧ a2 = 110 ∧ a3 = 61 ∧ (120 ≤ a4 ∧ a4 ≤ 122) ∧ a5 = 59) : qf_Ref_cellStatement (nI k) r = some (6, addS r cnt 9 (nI (a0 - 97)) (nI (a4 - 120)) 0) := by
  have h0 : qf_Ref_at (nI k) r = some (nI a0) := h0
  have v0 := cv_ref l0 h0
  have i0 := iv_ref l0 h0
  have v1 := cv_ref l1 h1
  have i1 := iv_ref l1 h1
  have v2 := cv_ref l2 h2
  have i2 := iv_ref l2 h2
  have v3 := cv_ref l3 h3
  have i3 := iv_ref l3 h3
  have v4 := cv_ref l4 h4
  have i4 := iv_ref l4 h4
  have v5 := cv_ref l5 h5
  have i5 := iv_ref l5 h5
  obtain ⟨e0, e1, e2, e3, e4, e5⟩ := h
  unfold qf_Ref_cellStatement qf_Ref_cellStatement_j74 qf_Ref_cellStatement_j93 qf_Ref_cellStatement_j118 qf_Ref_cellStatement_j184 qf_Ref_cellStatement_j216 qf_Ref_storing qf_Ref_storing_j68 qf_Ref_storing_j85 qf_Ref_storing_j99 qf_Ref_storing_j116 qf_Ref_storing_j128 qf_Ref_storing_j139 qf_Ref_storing_j157
  simp only [nI_1, nad2, nad3, nad4, nad5, h0, h1, h2, h3, h4, h5, v0, v1, v2, v3, v4, v5, i0, i1, i2, i3, i4, i5, Option.bind_some, cq33, cq40, cq41, cq42, cq43, cq45, cq46, cq59, cq61, cq108, cq110, cq114, cv_n, cv_p, iv_n, d_lo, d_hi, one0, zer0, if_true, if_false, l0, l1, l2, l3, l4, l5]
  have f0 : ¬ a0 = 33 ∧ ¬ a0 = 40 ∧ ¬ a0 = 41 ∧ ¬ (120 ≤ a0 ∧ a0 ≤ 122) ∧ ¬ a0 = 45 ∧ ¬ a0 = 42 ∧ ¬ a0 < 48 ∧ 57 < a0 := by omega
  have f4 : ¬ a4 = 33 ∧ ¬ a4 = 40 ∧ ¬ a4 = 41 ∧ ¬ (97 ≤ a4 ∧ a4 ≤ 100) ∧ ¬ a4 = 45 ∧ ¬ a4 = 42 ∧ ¬ a4 < 48 ∧ 57 < a4 := by omega
  simp [ha, e0, f0, show cvI a0 = nI (a0 - 97) from if_pos e0, e1, e2, e3, e4, f4, show ivI a4 = nI (a4 - 120) from if_pos e4, e5]
theorem rx10 {k a0 a1 a2 a3 a4 a5 : Nat} {r : QS} (l0 : a0 < 128) (h0 : qf_Ref_at (nI (k + 0)) r = some (nI a0)) (l1 : a1 < 128) (h1 : qf_Ref_at (nI (k + 1)) r = some (nI a1)) (l2 : a2 < 128) (h2 : qf_Ref_at (nI (k + 2)) r = some (nI a2)) (l3 : a3 < 128) (h3 : qf_Ref_at (nI (k + 3)) r = some (nI a3)) (l4 : a4 < 128) (h4 : qf_Ref_at (nI (k + 4)) r = some (nI a4)) (l5 : a5 < 128) (h5 : qf_Ref_at (nI (k + 5)) r = some (nI a5)) {cnt : Nat} (ha : ∀ kd p q x : Int32, qf_Ref_add kd p q x r = some (addS r cnt kd p q x)) (h : (120 ≤ a0 ∧ a0 ≤ 122) ∧ a1 = 61 ∧ (48 ≤ a2 ∧ a2 ≤ 57) ∧ a3 = 59) : qf_Ref_intStatement (nI k) r = some (4, addS r cnt 10 (nI (a0 - 120)) 0 (nI (a2 - 48))) := by
  have h0 : qf_Ref_at (nI k) r = some (nI a0) := h0
  have v0 := cv_ref l0 h0
  have i0 := iv_ref l0 h0
  have v1 := cv_ref l1 h1
  have i1 := iv_ref l1 h1
  have v2 := cv_ref l2 h2
  have i2 := iv_ref l2 h2
  have v3 := cv_ref l3 h3
  have i3 := iv_ref l3 h3
  have v4 := cv_ref l4 h4
  have i4 := iv_ref l4 h4
  have v5 := cv_ref l5 h5
  have i5 := iv_ref l5 h5
  obtain ⟨e0, e1, e2, e3⟩ := h
  unfold qf_Ref_intStatement qf_Ref_intStatement_j70 qf_Ref_intStatement_j134 qf_Ref_intStatement_j172
  simp only [nI_1, nad2, nad3, nad4, nad5, h0, h1, h2, h3, h4, h5, v0, v1, v2, v3, v4, v5, i0, i1, i2, i3, i4, i5, Option.bind_some, cq33, cq40, cq41, cq42, cq43, cq45, cq46, cq59, cq61, cq108, cq110, cq114, cv_n, cv_p, iv_n, d_lo, d_hi, one0, zer0, if_true, if_false, l0, l1, l2, l3, l4, l5]
  have f0 : ¬ a0 = 33 ∧ ¬ a0 = 40 ∧ ¬ a0 = 41 ∧ ¬ (97 ≤ a0 ∧ a0 ≤ 100) ∧ ¬ a0 = 45 ∧ ¬ a0 = 42 ∧ ¬ a0 < 48 ∧ 57 < a0 := by omega
  have f2 : ¬ a2 < 48 ∧ ¬ 57 < a2 := by omega
  simp [ha, e0, f0, show ivI a0 = nI (a0 - 120) from if_pos e0, e1, f2, show nI a2 - 48 = nI (a2 - 48) from pk_sub (b := 48) (by omega), e3]
theorem rx11 {k a0 a1 a2 a3 a4 a5 : Nat} {r : QS} (l0 : a0 < 128) (h0 : qf_Ref_at (nI (k + 0)) r = some (nI a0)) (l1 : a1 < 128) (h1 : qf_Ref_at (nI (k + 1)) r = some (nI a1)) (l2 : a2 < 128) (h2 : qf_Ref_at (nI (k + 2)) r = some (nI a2)) (l3 : a3 < 128) (h3 : qf_Ref_at (nI (k + 3)) r = some (nI a3)) (l4 : a4 < 128) (h4 : qf_Ref_at (nI (k + 4)) r = some (nI a4)) (l5 : a5 < 128) (h5 : qf_Ref_at (nI (k + 5)) r = some (nI a5)) {cnt : Nat} (ha : ∀ kd p q x : Int32, qf_Ref_add kd p q x r = some (addS r cnt kd p q x)) (h : (120 ≤ a0 ∧ a0 ≤ 122) ∧ a1 = 61 ∧ (120 ≤ a2 ∧ a2 ≤ 122) ∧ a3 = 59) : qf_Ref_intStatement (nI k) r = some (4, addS r cnt 11 (nI (a0 - 120)) (nI (a2 - 120)) 0) := by
  have h0 : qf_Ref_at (nI k) r = some (nI a0) := h0
  have v0 := cv_ref l0 h0
  have i0 := iv_ref l0 h0
  have v1 := cv_ref l1 h1
  have i1 := iv_ref l1 h1
  have v2 := cv_ref l2 h2
  have i2 := iv_ref l2 h2
  have v3 := cv_ref l3 h3
  have i3 := iv_ref l3 h3
  have v4 := cv_ref l4 h4
  have i4 := iv_ref l4 h4
  have v5 := cv_ref l5 h5
  have i5 := iv_ref l5 h5
  obtain ⟨e0, e1, e2, e3⟩ := h
  unfold qf_Ref_intStatement qf_Ref_intStatement_j70 qf_Ref_intStatement_j134 qf_Ref_intStatement_j172
  simp only [nI_1, nad2, nad3, nad4, nad5, h0, h1, h2, h3, h4, h5, v0, v1, v2, v3, v4, v5, i0, i1, i2, i3, i4, i5, Option.bind_some, cq33, cq40, cq41, cq42, cq43, cq45, cq46, cq59, cq61, cq108, cq110, cq114, cv_n, cv_p, iv_n, d_lo, d_hi, one0, zer0, if_true, if_false, l0, l1, l2, l3, l4, l5]
  have f0 : ¬ a0 = 33 ∧ ¬ a0 = 40 ∧ ¬ a0 = 41 ∧ ¬ (97 ≤ a0 ∧ a0 ≤ 100) ∧ ¬ a0 = 45 ∧ ¬ a0 = 42 ∧ ¬ a0 < 48 ∧ 57 < a0 := by omega
  have f2 : ¬ a2 = 33 ∧ ¬ a2 = 40 ∧ ¬ a2 = 41 ∧ ¬ (97 ≤ a2 ∧ a2 ≤ 100) ∧ ¬ a2 = 45 ∧ ¬ a2 = 42 ∧ ¬ a2 < 48 ∧ 57 < a2 := by omega
  simp [ha, e0, f0, show ivI a0 = nI (a0 - 120) from if_pos e0, e1, e2, f2, show ivI a2 = nI (a2 - 120) from if_pos e2, e3]
theorem rx12 {k a0 a1 a2 a3 a4 a5 : Nat} {r : QS} (l0 : a0 < 128) (h0 : qf_Ref_at (nI (k + 0)) r = some (nI a0)) (l1 : a1 < 128) (h1 : qf_Ref_at (nI (k + 1)) r = some (nI a1)) (l2 : a2 < 128) (h2 : qf_Ref_at (nI (k + 2)) r = some (nI a2)) (l3 : a3 < 128) (h3 : qf_Ref_at (nI (k + 3)) r = some (nI a3)) (l4 : a4 < 128) (h4 : qf_Ref_at (nI (k + 4)) r = some (nI a4)) (l5 : a5 < 128) (h5 : qf_Ref_at (nI (k + 5)) r = some (nI a5)) {cnt : Nat} (ha : ∀ kd p q x : Int32, qf_Ref_add kd p q x r = some (addS r cnt kd p q x)) (h : (120 ≤ a0 ∧ a0 ≤ 122) ∧ a1 = 61 ∧ (120 ≤ a2 ∧ a2 ≤ 122) ∧ a3 = 43 ∧ (120 ≤ a4 ∧ a4 ≤ 122) ∧ a5 = 59) : qf_Ref_intStatement (nI k) r = some (6, addS r cnt 12 (nI (a0 - 120)) (nI (a2 - 120)) (nI (a4 - 120))) := by
  have h0 : qf_Ref_at (nI k) r = some (nI a0) := h0
  have v0 := cv_ref l0 h0
  have i0 := iv_ref l0 h0
  have v1 := cv_ref l1 h1
  have i1 := iv_ref l1 h1
  have v2 := cv_ref l2 h2
  have i2 := iv_ref l2 h2
  have v3 := cv_ref l3 h3
  have i3 := iv_ref l3 h3
  have v4 := cv_ref l4 h4
  have i4 := iv_ref l4 h4
  have v5 := cv_ref l5 h5
  have i5 := iv_ref l5 h5
  obtain ⟨e0, e1, e2, e3, e4, e5⟩ := h
  unfold qf_Ref_intStatement qf_Ref_intStatement_j70 qf_Ref_intStatement_j134 qf_Ref_intStatement_j172
  simp only [nI_1, nad2, nad3, nad4, nad5, h0, h1, h2, h3, h4, h5, v0, v1, v2, v3, v4, v5, i0, i1, i2, i3, i4, i5, Option.bind_some, cq33, cq40, cq41, cq42, cq43, cq45, cq46, cq59, cq61, cq108, cq110, cq114, cv_n, cv_p, iv_n, d_lo, d_hi, one0, zer0, if_true, if_false, l0, l1, l2, l3, l4, l5]
  have f0 : ¬ a0 = 33 ∧ ¬ a0 = 40 ∧ ¬ a0 = 41 ∧ ¬ (97 ≤ a0 ∧ a0 ≤ 100) ∧ ¬ a0 = 45 ∧ ¬ a0 = 42 ∧ ¬ a0 < 48 ∧ 57 < a0 := by omega
  have f2 : ¬ a2 = 33 ∧ ¬ a2 = 40 ∧ ¬ a2 = 41 ∧ ¬ (97 ≤ a2 ∧ a2 ≤ 100) ∧ ¬ a2 = 45 ∧ ¬ a2 = 42 ∧ ¬ a2 < 48 ∧ 57 < a2 := by omega
  have f4 : ¬ a4 = 33 ∧ ¬ a4 = 40 ∧ ¬ a4 = 41 ∧ ¬ (97 ≤ a4 ∧ a4 ≤ 100) ∧ ¬ a4 = 45 ∧ ¬ a4 = 42 ∧ ¬ a4 < 48 ∧ 57 < a4 := by omega
  simp [ha, e0, f0, show ivI a0 = nI (a0 - 120) from if_pos e0, e1, e2, f2, show ivI a2 = nI (a2 - 120) from if_pos e2, e3, e4, f4, show ivI a4 = nI (a4 - 120) from if_pos e4, e5]
theorem rx13 {k a0 a1 a2 a3 a4 a5 : Nat} {r : QS} (l0 : a0 < 128) (h0 : qf_Ref_at (nI (k + 0)) r = some (nI a0)) (l1 : a1 < 128) (h1 : qf_Ref_at (nI (k + 1)) r = some (nI a1)) (l2 : a2 < 128) (h2 : qf_Ref_at (nI (k + 2)) r = some (nI a2)) (l3 : a3 < 128) (h3 : qf_Ref_at (nI (k + 3)) r = some (nI a3)) (l4 : a4 < 128) (h4 : qf_Ref_at (nI (k + 4)) r = some (nI a4)) (l5 : a5 < 128) (h5 : qf_Ref_at (nI (k + 5)) r = some (nI a5)) {cnt : Nat} (ha : ∀ kd p q x : Int32, qf_Ref_add kd p q x r = some (addS r cnt kd p q x)) (h : (120 ≤ a0 ∧ a0 ≤ 122) ∧ a1 = 61 ∧ (97 ≤ a2 ∧ a2 ≤ 100) ∧ a3 = 46 ∧ a4 = 110 ∧ a5 = 59) : qf_Ref_intStatement (nI k) r = some (6, addS r cnt 13 (nI (a0 - 120)) (nI (a2 - 97)) 0) := by
  have h0 : qf_Ref_at (nI k) r = some (nI a0) := h0
  have v0 := cv_ref l0 h0
  have i0 := iv_ref l0 h0
  have v1 := cv_ref l1 h1
  have i1 := iv_ref l1 h1
  have v2 := cv_ref l2 h2
  have i2 := iv_ref l2 h2
  have v3 := cv_ref l3 h3
  have i3 := iv_ref l3 h3
  have v4 := cv_ref l4 h4
  have i4 := iv_ref l4 h4
  have v5 := cv_ref l5 h5
  have i5 := iv_ref l5 h5
  obtain ⟨e0, e1, e2, e3, e4, e5⟩ := h
  unfold qf_Ref_intStatement qf_Ref_intStatement_j70 qf_Ref_intStatement_j134 qf_Ref_intStatement_j172
  simp only [nI_1, nad2, nad3, nad4, nad5, h0, h1, h2, h3, h4, h5, v0, v1, v2, v3, v4, v5, i0, i1, i2, i3, i4, i5, Option.bind_some, cq33, cq40, cq41, cq42, cq43, cq45, cq46, cq59, cq61, cq108, cq110, cq114, cv_n, cv_p, iv_n, d_lo, d_hi, one0, zer0, if_true, if_false, l0, l1, l2, l3, l4, l5]
  have f0 : ¬ a0 = 33 ∧ ¬ a0 = 40 ∧ ¬ a0 = 41 ∧ ¬ (97 ≤ a0 ∧ a0 ≤ 100) ∧ ¬ a0 = 45 ∧ ¬ a0 = 42 ∧ ¬ a0 < 48 ∧ 57 < a0 := by omega
  have f2 : ¬ a2 = 33 ∧ ¬ a2 = 40 ∧ ¬ a2 = 41 ∧ ¬ (120 ≤ a2 ∧ a2 ≤ 122) ∧ ¬ a2 = 45 ∧ ¬ a2 = 42 ∧ ¬ a2 < 48 ∧ 57 < a2 := by omega
  simp [ha, e0, f0, show ivI a0 = nI (a0 - 120) from if_pos e0, e1, e2, f2, show cvI a2 = nI (a2 - 97) from if_pos e2, e3, e4, e5]
theorem rx14 {k a0 a1 a2 a3 a4 a5 : Nat} {r : QS} (l0 : a0 < 128) (h0 : qf_Ref_at (nI (k + 0)) r = some (nI a0)) (l1 : a1 < 128) (h1 : qf_Ref_at (nI (k + 1)) r = some (nI a1)) (l2 : a2 < 128) (h2 : qf_Ref_at (nI (k + 2)) r = some (nI a2)) (l3 : a3 < 128) (h3 : qf_Ref_at (nI (k + 3)) r = some (nI a3)) (l4 : a4 < 128) (h4 : qf_Ref_at (nI (k + 4)) r = some (nI a4)) (l5 : a5 < 128) (h5 : qf_Ref_at (nI (k + 5)) r = some (nI a5)) {cnt : Nat} (ha : ∀ kd p q x : Int32, qf_Ref_add kd p q x r = some (addS r cnt kd p q x)) (h : a0 = 33 ∧ (120 ≤ a1 ∧ a1 ≤ 122) ∧ a2 = 59) : qf_Ref_loop (nI k) r = some (3, addS r cnt 14 (nI (a1 - 120)) 0 0) := by
  have h0 : qf_Ref_at (nI k) r = some (nI a0) := h0
  have v0 := cv_ref l0 h0
  have i0 := iv_ref l0 h0
  have v1 := cv_ref l1 h1
  have i1 := iv_ref l1 h1
  have v2 := cv_ref l2 h2
  have i2 := iv_ref l2 h2
  have v3 := cv_ref l3 h3
  have i3 := iv_ref l3 h3
  have v4 := cv_ref l4 h4
  have i4 := iv_ref l4 h4
  have v5 := cv_ref l5 h5
  have i5 := iv_ref l5 h5
  obtain ⟨e0, e1, e2⟩ := h
  unfold qf_Ref_loop qf_Ref_loop_j49 qf_Ref_loop_j118
  simp only [nI_1, nad2, nad3, nad4, nad5, h0, h1, h2, h3, h4, h5, v0, v1, v2, v3, v4, v5, i0, i1, i2, i3, i4, i5, Option.bind_some, cq33, cq40, cq41, cq42, cq43, cq45, cq46, cq59, cq61, cq108, cq110, cq114, cv_n, cv_p, iv_n, d_lo, d_hi, one0, zer0, if_true, if_false, l0, l1, l2, l3, l4, l5]
  have f1 : ¬ a1 = 33 ∧ ¬ a1 = 40 ∧ ¬ a1 = 41 ∧ ¬ (97 ≤ a1 ∧ a1 ≤ 100) ∧ ¬ a1 = 45 ∧ ¬ a1 = 42 ∧ ¬ a1 < 48 ∧ 57 < a1 := by omega
  simp [ha, e0, e1, f1, show ivI a1 = nI (a1 - 120) from if_pos e1, e2]
theorem itc {α : Type} {c : Prop} {inst : Decidable c} {A B C : α} (h1 : c → A = C) (h2 : ¬ c → B = C) : @ite _ c inst A B = C := by
  by_cases h : c
  · rw [if_pos h]; exact h1 h
  · rw [if_neg h]; exact h2 h
theorem rf_loop {k a0 a1 a2 a3 a4 a5 : Nat} {r : QS} (l0 : a0 < 128) (h0 : qf_Ref_at (nI (k + 0)) r = some (nI a0)) (l1 : a1 < 128) (h1 : qf_Ref_at (nI (k + 1)) r = some (nI a1)) (l2 : a2 < 128) (h2 : qf_Ref_at (nI (k + 2)) r = some (nI a2)) (l3 : a3 < 128) (h3 : qf_Ref_at (nI (k + 3)) r = some (nI a3)) (l4 : a4 < 128) (h4 : qf_Ref_at (nI (k + 4)) r = some (nI a4)) (l5 : a5 < 128) (h5 : qf_Ref_at (nI (k + 5)) r = some (nI a5)) (x0 : ¬ a0 = 40) (x1 : ¬ a0 = 41) (n14 : ¬ (a0 = 33 ∧ (120 ≤ a1 ∧ a1 ≤ 122) ∧ a2 = 59)) : qf_Ref_loop (nI k) r = some (0, r) := by
  have h0 : qf_Ref_at (nI k) r = some (nI a0) := h0
  have v0 := cv_ref l0 h0
  have i0 := iv_ref l0 h0
  have v1 := cv_ref l1 h1
  have i1 := iv_ref l1 h1
  have v2 := cv_ref l2 h2
  have i2 := iv_ref l2 h2
  have v3 := cv_ref l3 h3
  have i3 := iv_ref l3 h3
  have v4 := cv_ref l4 h4
  have i4 := iv_ref l4 h4
  have v5 := cv_ref l5 h5
  have i5 := iv_ref l5 h5
  unfold qf_Ref_loop qf_Ref_loop_j49 qf_Ref_loop_j118
  simp only [nI_1, nad2, nad3, nad4, nad5, h0, h1, h2, h3, h4, h5, v0, v1, v2, v3, v4, v5, i0, i1, i2, i3, i4, i5, Option.bind_some, cq33, cq40, cq41, cq42, cq43, cq45, cq46, cq59, cq61, cq108, cq110, cq114, cv_n, cv_p, iv_n, d_lo, d_hi, one0, zer0, if_true, if_false, l0, l1, l2, l3, l4, l5]
  repeat' refine itc (fun _ => ?_) (fun _ => ?_)
  all_goals first | with_reducible rfl | (exfalso; clear n14; omega) | exact absurd (by clear n14; omega) n14
theorem rf_storing {k a0 a1 a2 a3 a4 a5 : Nat} {r : QS} (l0 : a0 < 128) (h0 : qf_Ref_at (nI (k + 0)) r = some (nI a0)) (l1 : a1 < 128) (h1 : qf_Ref_at (nI (k + 1)) r = some (nI a1)) (l2 : a2 < 128) (h2 : qf_Ref_at (nI (k + 2)) r = some (nI a2)) (l3 : a3 < 128) (h3 : qf_Ref_at (nI (k + 3)) r = some (nI a3)) (l4 : a4 < 128) (h4 : qf_Ref_at (nI (k + 4)) r = some (nI a4)) (l5 : a5 < 128) (h5 : qf_Ref_at (nI (k + 5)) r = some (nI a5)) {z : Int32} (x0 : 97 ≤ a0 ∧ a0 ≤ 100) (x1 : a1 = 46) (n5 : ¬ ((97 ≤ a0 ∧ a0 ≤ 100) ∧ a1 = 46 ∧ a2 = 108 ∧ a3 = 61 ∧ (97 ≤ a4 ∧ a4 ≤ 100) ∧ a5 = 59)) (n6 : ¬ ((97 ≤ a0 ∧ a0 ≤ 100) ∧ a1 = 46 ∧ a2 = 114 ∧ a3 = 61 ∧ (97 ≤ a4 ∧ a4 ≤ 100) ∧ a5 = 59)) (n7 : ¬ ((97 ≤ a0 ∧ a0 ≤ 100) ∧ a1 = 46 ∧ a2 = 108 ∧ a3 = 61 ∧ a4 = 45 ∧ a5 = 59)) (n8 : ¬ ((97 ≤ a0 ∧ a0 ≤ 100) ∧ a1 = 46 ∧ a2 = 114 ∧ a3 = 61 ∧ a4 = 45 ∧ a5 = 59)) (n9 : ¬ ((97 ≤ a0 ∧ a0 ≤ 100) ∧ a1 = 46 ∧ a2 = 110 ∧ a3 = 61 ∧ (120 ≤ a4 ∧ a4 ≤ 122) ∧ a5 = 59)) : qf_Ref_storing (nI k) z r = some (0, r) := by
  have h0 : qf_Ref_at (nI k) r = some (nI a0) := h0
  have v0 := cv_ref l0 h0
  have i0 := iv_ref l0 h0
  have v1 := cv_ref l1 h1
  have i1 := iv_ref l1 h1
  have v2 := cv_ref l2 h2
  have i2 := iv_ref l2 h2
  have v3 := cv_ref l3 h3
  have i3 := iv_ref l3 h3
  have v4 := cv_ref l4 h4
  have i4 := iv_ref l4 h4
  have v5 := cv_ref l5 h5
  have i5 := iv_ref l5 h5
  unfold qf_Ref_storing qf_Ref_storing_j68 qf_Ref_storing_j85 qf_Ref_storing_j99 qf_Ref_storing_j116 qf_Ref_storing_j128 qf_Ref_storing_j139 qf_Ref_storing_j157
  simp only [nI_1, nad2, nad3, nad4, nad5, h0, h1, h2, h3, h4, h5, v0, v1, v2, v3, v4, v5, i0, i1, i2, i3, i4, i5, Option.bind_some, cq33, cq40, cq41, cq42, cq43, cq45, cq46, cq59, cq61, cq108, cq110, cq114, cv_n, cv_p, iv_n, d_lo, d_hi, one0, zer0, if_true, if_false, l0, l1, l2, l3, l4, l5]
  repeat' refine itc (fun _ => ?_) (fun _ => ?_)
  all_goals first | with_reducible rfl | (exfalso; clear n5 n6 n7 n8 n9; omega) | exact absurd (by clear n5 n6 n7 n8 n9; omega) n5 | exact absurd (by clear n5 n6 n7 n8 n9; omega) n6 | exact absurd (by clear n5 n6 n7 n8 n9; omega) n7 | exact absurd (by clear n5 n6 n7 n8 n9; omega) n8 | exact absurd (by clear n5 n6 n7 n8 n9; omega) n9
theorem rf_cell {k a0 a1 a2 a3 a4 a5 : Nat} {r : QS} (l0 : a0 < 128) (h0 : qf_Ref_at (nI (k + 0)) r = some (nI a0)) (l1 : a1 < 128) (h1 : qf_Ref_at (nI (k + 1)) r = some (nI a1)) (l2 : a2 < 128) (h2 : qf_Ref_at (nI (k + 2)) r = some (nI a2)) (l3 : a3 < 128) (h3 : qf_Ref_at (nI (k + 3)) r = some (nI a3)) (l4 : a4 < 128) (h4 : qf_Ref_at (nI (k + 4)) r = some (nI a4)) (l5 : a5 < 128) (h5 : qf_Ref_at (nI (k + 5)) r = some (nI a5)) (n0 : ¬ ((97 ≤ a0 ∧ a0 ≤ 100) ∧ a1 = 61 ∧ a2 = 42 ∧ a3 = 59)) (n1 : ¬ ((97 ≤ a0 ∧ a0 ≤ 100) ∧ a1 = 61 ∧ a2 = 45 ∧ a3 = 59)) (n2 : ¬ ((97 ≤ a0 ∧ a0 ≤ 100) ∧ a1 = 61 ∧ (97 ≤ a2 ∧ a2 ≤ 100) ∧ a3 = 59)) (n3 : ¬ ((97 ≤ a0 ∧ a0 ≤ 100) ∧ a1 = 61 ∧ (97 ≤ a2 ∧ a2 ≤ 100) ∧ a3 = 46 ∧ a4 = 108 ∧ a5 = 59)) (n4 : ¬ ((97 ≤ a0 ∧ a0 ≤ 100) ∧ a1 = 61 ∧ (97 ≤ a2 ∧ a2 ≤ 100) ∧ a3 = 46 ∧ a4 = 114 ∧ a5 = 59)) (n5 : ¬ ((97 ≤ a0 ∧ a0 ≤ 100) ∧ a1 = 46 ∧ a2 = 108 ∧ a3 = 61 ∧ (97 ≤ a4 ∧ a4 ≤ 100) ∧ a5 = 59)) (n6 : ¬ ((97 ≤ a0 ∧ a0 ≤ 100) ∧ a1 = 46 ∧ a2 = 114 ∧ a3 = 61 ∧ (97 ≤ a4 ∧ a4 ≤ 100) ∧ a5 = 59)) (n7 : ¬ ((97 ≤ a0 ∧ a0 ≤ 100) ∧ a1 = 46 ∧ a2 = 108 ∧ a3 = 61 ∧ a4 = 45 ∧ a5 = 59)) (n8 : ¬ ((97 ≤ a0 ∧ a0 ≤ 100) ∧ a1 = 46 ∧ a2 = 114 ∧ a3 = 61 ∧ a4 = 45 ∧ a5 = 59)) (n9 : ¬ ((97 ≤ a0 ∧ a0 ≤ 100) ∧ a1 = 46 ∧ a2 = 110 ∧ a3 = 61 ∧ (120 ≤ a4 ∧ a4 ≤ 122) ∧ a5 = 59)) : qf_Ref_cellStatement (nI k) r = some (0, r) := by
  have hst : (97 ≤ a0 ∧ a0 ≤ 100) → a1 = 46 → ∀ z, qf_Ref_storing (nI k) z r = some (0, r) := fun x0 x1 z => rf_storing l0 h0 l1 h1 l2 h2 l3 h3 l4 h4 l5 h5 x0 x1 n5 n6 n7 n8 n9
  have h0 : qf_Ref_at (nI k) r = some (nI a0) := h0
  have v0 := cv_ref l0 h0
  have i0 := iv_ref l0 h0
  have v1 := cv_ref l1 h1
  have i1 := iv_ref l1 h1
  have v2 := cv_ref l2 h2
  have i2 := iv_ref l2 h2
  have v3 := cv_ref l3 h3
  have i3 := iv_ref l3 h3
  have v4 := cv_ref l4 h4
  have i4 := iv_ref l4 h4
  have v5 := cv_ref l5 h5
  have i5 := iv_ref l5 h5
  unfold qf_Ref_cellStatement qf_Ref_cellStatement_j74 qf_Ref_cellStatement_j93 qf_Ref_cellStatement_j118 qf_Ref_cellStatement_j184 qf_Ref_cellStatement_j216
  simp only [nI_1, nad2, nad3, nad4, nad5, h0, h1, h2, h3, h4, h5, v0, v1, v2, v3, v4, v5, i0, i1, i2, i3, i4, i5, Option.bind_some, cq33, cq40, cq41, cq42, cq43, cq45, cq46, cq59, cq61, cq108, cq110, cq114, cv_n, cv_p, iv_n, d_lo, d_hi, one0, zer0, if_true, if_false, l0, l1, l2, l3, l4, l5]
  repeat' refine itc (fun _ => ?_) (fun _ => ?_)
  all_goals first | with_reducible rfl | (rw [hst (by clear n0 n1 n2 n3 n4 n5 n6 n7 n8 n9; omega) (by clear n0 n1 n2 n3 n4 n5 n6 n7 n8 n9; omega)]; rfl) | (exfalso; clear n0 n1 n2 n3 n4 n5 n6 n7 n8 n9; omega) | exact absurd (by clear n0 n1 n2 n3 n4 n5 n6 n7 n8 n9; omega) n0 | exact absurd (by clear n0 n1 n2 n3 n4 n5 n6 n7 n8 n9; omega) n1 | exact absurd (by clear n0 n1 n2 n3 n4 n5 n6 n7 n8 n9; omega) n2 | exact absurd (by clear n0 n1 n2 n3 n4 n5 n6 n7 n8 n9; omega) n3 | exact absurd (by clear n0 n1 n2 n3 n4 n5 n6 n7 n8 n9; omega) n4
theorem rf_int {k a0 a1 a2 a3 a4 a5 : Nat} {r : QS} (l0 : a0 < 128) (h0 : qf_Ref_at (nI (k + 0)) r = some (nI a0)) (l1 : a1 < 128) (h1 : qf_Ref_at (nI (k + 1)) r = some (nI a1)) (l2 : a2 < 128) (h2 : qf_Ref_at (nI (k + 2)) r = some (nI a2)) (l3 : a3 < 128) (h3 : qf_Ref_at (nI (k + 3)) r = some (nI a3)) (l4 : a4 < 128) (h4 : qf_Ref_at (nI (k + 4)) r = some (nI a4)) (l5 : a5 < 128) (h5 : qf_Ref_at (nI (k + 5)) r = some (nI a5))  (n10 : ¬ ((120 ≤ a0 ∧ a0 ≤ 122) ∧ a1 = 61 ∧ (48 ≤ a2 ∧ a2 ≤ 57) ∧ a3 = 59)) (n11 : ¬ ((120 ≤ a0 ∧ a0 ≤ 122) ∧ a1 = 61 ∧ (120 ≤ a2 ∧ a2 ≤ 122) ∧ a3 = 59)) (n12 : ¬ ((120 ≤ a0 ∧ a0 ≤ 122) ∧ a1 = 61 ∧ (120 ≤ a2 ∧ a2 ≤ 122) ∧ a3 = 43 ∧ (120 ≤ a4 ∧ a4 ≤ 122) ∧ a5 = 59)) (n13 : ¬ ((120 ≤ a0 ∧ a0 ≤ 122) ∧ a1 = 61 ∧ (97 ≤ a2 ∧ a2 ≤ 100) ∧ a3 = 46 ∧ a4 = 110 ∧ a5 = 59)) : qf_Ref_intStatement (nI k) r = some (0, r) := by
  have h0 : qf_Ref_at (nI k) r = some (nI a0) := h0
  have v0 := cv_ref l0 h0
  have i0 := iv_ref l0 h0
  have v1 := cv_ref l1 h1
  have i1 := iv_ref l1 h1
  have v2 := cv_ref l2 h2
  have i2 := iv_ref l2 h2
  have v3 := cv_ref l3 h3
  have i3 := iv_ref l3 h3
  have v4 := cv_ref l4 h4
  have i4 := iv_ref l4 h4
  have v5 := cv_ref l5 h5
  have i5 := iv_ref l5 h5
  unfold qf_Ref_intStatement qf_Ref_intStatement_j70 qf_Ref_intStatement_j134 qf_Ref_intStatement_j172
  simp only [nI_1, nad2, nad3, nad4, nad5, h0, h1, h2, h3, h4, h5, v0, v1, v2, v3, v4, v5, i0, i1, i2, i3, i4, i5, Option.bind_some, cq33, cq40, cq41, cq42, cq43, cq45, cq46, cq59, cq61, cq108, cq110, cq114, cv_n, cv_p, iv_n, d_lo, d_hi, one0, zer0, if_true, if_false, l0, l1, l2, l3, l4, l5]
  repeat' refine itc (fun _ => ?_) (fun _ => ?_)
  all_goals first | with_reducible rfl | (exfalso; clear n10 n11 n12 n13; omega) | exact absurd (by clear n10 n11 n12 n13; omega) n10 | exact absurd (by clear n10 n11 n12 n13; omega) n11 | exact absurd (by clear n10 n11 n12 n13; omega) n12 | exact absurd (by clear n10 n11 n12 n13; omega) n13
