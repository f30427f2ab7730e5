/-! ===== the pure part: the calls that only read; go, repeat, write ===== -/
theorem mut_cases (x : Int32) : x = nI 0 ∨ x = nI 1 ∨ (qf_Qs_isMutator x = some 0 ∧ qf_Ref_isMutator x = some 0) := by
  rcases pk_ix x (n := 2) (by decide) with h | h | ⟨j, hj, rfl⟩
  · refine Or.inr (Or.inr ⟨by unfold qf_Qs_isMutator; rw [if_pos h], ?_⟩)
    unfold qf_Ref_isMutator
    rw [if_neg (fun e => by rw [e] at h; exact absurd h (by decide)), if_neg (fun e => by rw [e] at h; exact absurd h (by decide))]
  · have h2 : (2 : Int32) ≤ x := h
    refine Or.inr (Or.inr ⟨?_, ?_⟩)
    · unfold qf_Qs_isMutator
      rw [if_pos h2, ite_self]
    · unfold qf_Ref_isMutator
      rw [if_neg (fun e => by rw [e] at h2; exact absurd h2 (by decide)), if_neg (fun e => by rw [e] at h2; exact absurd h2 (by decide))]
  · have : j = 0 ∨ j = 1 := by omega
    rcases this with rfl | rfl
    · exact Or.inl rfl
    · exact Or.inr (Or.inl rfl)
theorem mq0 : qf_Qs_isMutator (nI 0) = some 1 := by decide
theorem mq1 : qf_Qs_isMutator (nI 1) = some 1 := by decide
theorem mr0 : qf_Ref_isMutator (nI 0) = some 1 := by decide
theorem mr1 : qf_Ref_isMutator (nI 1) = some 1 := by decide
theorem position_both {n B : Nat} {r src mem mu0 bu0 ou0 mu1 bu1 ou1 col : QS} (x : Int32) (h : RAll n B r src mem mu0 bu0 ou0 mu1 bu1 ou1 col) : ∃ a, qf_Qs_position x mu0 mu1 = some a ∧ qf_Ref_position x r = some a := by
  obtain ⟨h1, h2, h3, h4, h5, h6, h7, h8, h9, h10, h11⟩ := h
  obtain ⟨⟨c0, p0, a1, a2, a3, a4, a5, a6, a7⟩, _⟩ := h5
  obtain ⟨⟨c1, p1, b1, b2, b3, b4, b5, b6, b7⟩, _⟩ := h8
  unfold qf_Qs_position qf_Ref_position
  rcases mut_cases x with rfl | rfl | ⟨e1, e2⟩
  · exact ⟨mu0 2 0, by rw [mq0]; rfl, by rw [mr0, a5, ← a6]; rfl⟩
  · exact ⟨mu1 2 0, by rw [mq1]; rfl, by rw [mr1, b5, ← b6]; rfl⟩
  · exact ⟨-1, by rw [e1]; rfl, by rw [e2]; rfl⟩
theorem status_both {n B : Nat} {r src mem mu0 bu0 ou0 mu1 bu1 ou1 col : QS} (x : Int32) (h : RAll n B r src mem mu0 bu0 ou0 mu1 bu1 ou1 col) : ∃ a, qf_Qs_status x mu0 mu1 = some a ∧ qf_Ref_status x r = some a := by
  obtain ⟨h1, h2, h3, h4, h5, h6, h7, h8, h9, h10, h11⟩ := h
  obtain ⟨s0, a1, a2, a3⟩ := h5.2.2.1
  obtain ⟨s1, b1, b2, b3⟩ := h8.2.2.1
  unfold qf_Qs_status qf_Ref_status
  rcases mut_cases x with rfl | rfl | ⟨e1, e2⟩
  · exact ⟨mu0 5 0, by rw [mq0]; rfl, by rw [mr0, a2, ← a3]; rfl⟩
  · exact ⟨mu1 5 0, by rw [mq1]; rfl, by rw [mr1, b2, ← b3]; rfl⟩
  · exact ⟨-1, by rw [e1]; rfl, by rw [e2]; rfl⟩
theorem stalls_both {n B : Nat} {r src mem mu0 bu0 ou0 mu1 bu1 ou1 col : QS} (x : Int32) (h : RAll n B r src mem mu0 bu0 ou0 mu1 bu1 ou1 col) : ∃ a, qf_Qs_stalls x mu0 mu1 = some a ∧ qf_Ref_stalls x r = some a := by
  obtain ⟨h1, h2, h3, h4, h5, h6, h7, h8, h9, h10, h11⟩ := h
  have a3 := h5.2.2.2
  have b3 := h8.2.2.2
  unfold qf_Qs_stalls qf_Ref_stalls
  rcases mut_cases x with rfl | rfl | ⟨e1, e2⟩
  · exact ⟨mu0 6 0, by rw [mq0]; rfl, by rw [mr0, ← a3]; rfl⟩
  · exact ⟨mu1 6 0, by rw [mq1]; rfl, by rw [mr1, ← b3]; rfl⟩
  · exact ⟨-1, by rw [e1]; rfl, by rw [e2]; rfl⟩
theorem buffered_both {n B : Nat} {r src mem mu0 bu0 ou0 mu1 bu1 ou1 col : QS} (x : Int32) (h : RAll n B r src mem mu0 bu0 ou0 mu1 bu1 ou1 col) : ∃ a, qf_Qs_buffered x mu0 bu0 mu1 bu1 = some a ∧ qf_Ref_buffered x r = some a := by
  obtain ⟨h1, h2, h3, h4, h5, h6, h7, h8, h9, h10, h11⟩ := h
  obtain ⟨s0, a1, a2, a3, _⟩ := h6
  obtain ⟨s1, b1, b2, b3, _⟩ := h9
  unfold qf_Qs_buffered qf_Ref_buffered
  rcases mut_cases x with rfl | rfl | ⟨e1, e2⟩
  · exact ⟨bu0 3 0, by rw [mq0]; rfl, by rw [mr0, a2, ← a3]; rfl⟩
  · exact ⟨bu1 3 0, by rw [mq1]; rfl, by rw [mr1, b2, ← b3]; rfl⟩
  · exact ⟨-1, by rw [e1]; rfl, by rw [e2]; rfl⟩
theorem outputs_both {n B : Nat} {r src mem mu0 bu0 ou0 mu1 bu1 ou1 col : QS} (x : Int32) (h : RAll n B r src mem mu0 bu0 ou0 mu1 bu1 ou1 col) : ∃ a, qf_Qs_outputs x mu0 ou0 mu1 ou1 = some a ∧ qf_Ref_outputs x r = some a := by
  obtain ⟨h1, h2, h3, h4, h5, h6, h7, h8, h9, h10, h11⟩ := h
  obtain ⟨s0, a1, a2, a3, _⟩ := h7
  obtain ⟨s1, b1, b2, b3, _⟩ := h10
  unfold qf_Qs_outputs qf_Ref_outputs
  rcases mut_cases x with rfl | rfl | ⟨e1, e2⟩
  · exact ⟨ou0 1 0, by rw [mq0]; rfl, by rw [mr0, a2, ← a3]; rfl⟩
  · exact ⟨ou1 1 0, by rw [mq1]; rfl, by rw [mr1, b2, ← b3]; rfl⟩
  · exact ⟨-1, by rw [e1]; rfl, by rw [e2]; rfl⟩
theorem phase_both {n B : Nat} {r src mem mu0 bu0 ou0 mu1 bu1 ou1 col : QS} (h : RAll n B r src mem mu0 bu0 ou0 mu1 bu1 ou1 col) : ∃ a, qf_Qs_phase col = some a ∧ qf_Ref_phase r = some a := by
  obtain ⟨h1, h2, h3, h4, h5, h6, h7, h8, h9, h10, ⟨ph, p0, p1, p2, _⟩⟩ := h
  exact ⟨nI ph, congrArg some p1, congrArg some p2⟩
theorem cycles_both {n B : Nat} {r src mem mu0 bu0 ou0 mu1 bu1 ou1 col : QS} (h : RAll n B r src mem mu0 bu0 ou0 mu1 bu1 ou1 col) : ∃ a, qf_Qs_cycles col = some a ∧ qf_Ref_cycles r = some a := by
  obtain ⟨h1, h2, h3, h4, h5, h6, h7, h8, h9, h10, ⟨ph, p0, p1, p2, p3, p4, p5, p6, p7⟩⟩ := h
  exact ⟨col 1 0, rfl, congrArg some p7⟩
theorem RAll_le {n B C : Nat} {r src mem mu0 bu0 ou0 mu1 bu1 ou1 col : QS} (hBC : B ≤ C) (h : RAll n B r src mem mu0 bu0 ou0 mu1 bu1 ou1 col) : RAll n C r src mem mu0 bu0 ou0 mu1 bu1 ou1 col := by
  obtain ⟨h1, h2, h3, h4, h5, h6, ⟨w, a1, a2⟩, h8, h9, ⟨w', b1, b2⟩, h11⟩ := h
  exact ⟨h1, h2, h3, h4, h5, h6, ⟨w, by omega, a2⟩, h8, h9, ⟨w', by omega, b2⟩, h11⟩
theorem go_both {n B : Nat} {r src mem mu0 bu0 ou0 mu1 bu1 ou1 col : QS} (x c : Int32) (hB : B + 60 < 2 ^ 30) (h : RAll n B r src mem mu0 bu0 ou0 mu1 bu1 ou1 col) : ∃ (a : Int32) (mem' mu0' bu0' ou0' mu1' bu1' ou1' col' R : QS), qf_Qs_go x c mem mu0 bu0 ou0 mu1 bu1 ou1 col = some (a, mem', mu0', bu0', ou0', mu1', bu1', ou1', col') ∧ qf_Ref_go x c r = some (a, R) ∧ RAll n (B + 60) R src mem' mu0' bu0' ou0' mu1' bu1' ou1' col' := by
  unfold qf_Qs_go qf_Ref_go
  by_cases h1 : c < 0
  · rw [if_pos h1, if_pos h1]
    exact ⟨_, _, _, _, _, _, _, _, _, _, rfl, rfl, RAll_le (by omega) h⟩
  · rw [if_neg h1, if_neg h1]
    by_cases h2 : c ≤ 10
    · rw [if_pos h2, if_pos h2]
      obtain ⟨j, hj, rfl⟩ := nI_of2 (M := 10) (n := 10) (by decide) h1 h2
      obtain ⟨a, m1, u1, b1, o1, u2, b2, o2, c1, R, q1, q2, q3⟩ := go_lp (x := x) hj j 0 qN B 0 r mem mu0 bu0 ou0 mu1 bu1 ou1 col (by omega) (by unfold qN; omega) (by omega) h
      exact ⟨a, m1, u1, b1, o1, u2, b2, o2, c1, R, q1, q2, RAll_le (by omega) q3⟩
    · rw [if_neg h2, if_neg h2]
      exact ⟨_, _, _, _, _, _, _, _, _, _, rfl, rfl, RAll_le (by omega) h⟩
theorem repeat_both {n B : Nat} {r src mem mu0 bu0 ou0 mu1 bu1 ou1 col : QS} (x c : Int32) (hB : B + 60 < 2 ^ 30) (h : RAll n B r src mem mu0 bu0 ou0 mu1 bu1 ou1 col) : ∃ (a : Int32) (mem' mu0' bu0' ou0' mu1' bu1' ou1' col' R : QS), qf_Qs_repeat x c mem mu0 bu0 ou0 mu1 bu1 ou1 col = some (a, mem', mu0', bu0', ou0', mu1', bu1', ou1', col') ∧ qf_Ref_repeat x c r = some (a, R) ∧ RAll n (B + 60) R src mem' mu0' bu0' ou0' mu1' bu1' ou1' col' := by
  unfold qf_Qs_repeat qf_Ref_repeat
  have triv : ∃ (a : Int32) (mem' mu0' bu0' ou0' mu1' bu1' ou1' col' R : QS), some ((-1 : Int32), mem, mu0, bu0, ou0, mu1, bu1, ou1, col) = some (a, mem', mu0', bu0', ou0', mu1', bu1', ou1', col') ∧ some ((-1 : Int32), r) = some (a, R) ∧ RAll n (B + 60) R src mem' mu0' bu0' ou0' mu1' bu1' ou1' col' := ⟨_, _, _, _, _, _, _, _, _, _, rfl, rfl, RAll_le (by omega) h⟩
  rcases pk_ix x (n := 8) (by decide) with hx | hx | ⟨e, he, rfl⟩
  · rw [if_pos hx, if_pos hx]; exact triv
  · have h8 : (8 : Int32) ≤ x := hx
    have h0 : ¬ x < 0 := fun hlt => by
      have e1 := Int32.lt_iff_toInt_lt.mp hlt
      have e2 := Int32.le_iff_toInt_le.mp h8
      have e3 : (8 : Int32).toInt = 8 := by decide
      have e4 : (0 : Int32).toInt = 0 := by decide
      omega
    have h7 : (7 : Int32) < x := Int32.lt_iff_toInt_lt.mpr (by
      have e2 := Int32.le_iff_toInt_le.mp h8
      have e3 : (8 : Int32).toInt = 8 := by decide
      have e4 : (7 : Int32).toInt = 7 := by decide
      omega)
    rw [if_neg h0, if_neg h0, if_pos h8, if_pos h7]; exact triv
  · rw [if_neg (nI_pos (by omega)), if_neg (nI_pos (by omega)), if_neg (show ¬ (8 : Int32) ≤ nI e from nI_ge (a := e) (b := 8) (by omega) (by decide)), if_neg (show ¬ (7 : Int32) < nI e from nI_nlt (a := 7) (b := e) (by omega) (by decide))]
    by_cases h1 : c < 0
    · rw [if_pos h1, if_pos h1]; exact triv
    · rw [if_neg h1, if_neg h1]
      by_cases h2 : c ≤ 60
      · rw [if_pos h2, if_pos h2]
        obtain ⟨j, hj, rfl⟩ := nI_of2 (M := 60) (n := 60) (by decide) h1 h2
        obtain ⟨a, m1, u1, b1, o1, u2, b2, o2, c1, R, q1, q2, q3⟩ := rep_lp hj he j 0 qN B 0 r mem mu0 bu0 ou0 mu1 bu1 ou1 col (by omega) (by unfold qN; omega) (by omega) h
        exact ⟨a, m1, u1, b1, o1, u2, b2, o2, c1, R, q1, q2, RAll_le (by omega) q3⟩
      · rw [if_neg h2, if_neg h2]; exact triv
