/-! ===== the pure part: one item of the text, both sides ===== -/
def RTx (t : Nat) (src r : QS) : Prop := src 1 0 = nI t ∧ r 2 0 = nI t ∧ ∀ j, j < t → r 1 j = src 0 j ∧ ∃ a, 32 ≤ a ∧ a ≤ 126 ∧ src 0 j = nI a
def chA (t : Nat) (src : QS) (k i : Nat) : Nat := if k + i < t then (src 0 (k + i)).toNatClampNeg else 32
theorem chA_lt {t k i : Nat} {src r : QS} (h : RTx t src r) : chA t src k i < 128 := by
  unfold chA
  by_cases hi : k + i < t
  · rw [if_pos hi]
    obtain ⟨-, a, h1, h2, e⟩ := h.2.2 _ hi
    rw [e, nI_clamp (by omega)]; omega
  · rw [if_neg hi]; decide
theorem chA_cl {t k i : Nat} {src r : QS} (h : RTx t src r) (hi : k + i < t) : src 0 (k + i) = nI (chA t src k i) := by
  unfold chA
  rw [if_pos hi]
  obtain ⟨-, a, h1, h2, e⟩ := h.2.2 _ hi
  rw [e, nI_clamp (by omega)]
theorem chA_out {t k i : Nat} {src : QS} (hi : t ≤ k + i) : chA t src k i = 32 := by
  unfold chA; rw [if_neg (by omega)]
theorem ch_all : ∀ a : Fin 127, vp_nar .char (nI a.val) = nI a.val := by decide
theorem at_ref {t k i : Nat} {src r : QS} (ht : t ≤ 60) (hk : k < 100) (hi : i < 100) (h : RTx t src r) : qf_Ref_at (nI (k + i)) r = some (nI (chA t src k i)) := by
  unfold qf_Ref_at
  rw [h.2.1]
  by_cases h9 : k + i < t
  · obtain ⟨e1, a, h1, h2, e⟩ := h.2.2 _ h9
    rw [if_neg (nI_ge h9 (by omega)), ck (show k + i < 60 by omega) (by decide), nI_clamp (show k + i < 2 ^ 31 by omega), e1, ← chA_cl h h9, e, if_pos (ch_all ⟨a, by omega⟩)]
  · rw [if_pos (nI_le (by omega) (by omega)), chA_out (by omega)]
    rfl
/-! the body of the reference's loop -/
theorem body_s (N : Nat) (x : Int32) (r : QS) : qfix qf_Ref_read_F12 (N + 1) (x, r) = qf_Ref_read_B12 (qfix qf_Ref_read_F12 N) x r := rfl
theorem body_l {K : (Int32 × QS) → Option (Int32 × QS)} {t k n : Nat} {r r' : QS} (hk : k < t) (ht : t ≤ 60) (h2 : r 2 0 = nI t) (hn : 1 ≤ n) (hn6 : n ≤ 6) (h : qf_Ref_loop (nI k) r = some (nI n, r')) : qf_Ref_read_B12 K (nI k) r = K (nI (k + n), r') := by
  unfold qf_Ref_read_B12 qf_Ref_read_j39 qf_Ref_read_j53
  have p1 : ¬ nI n ≤ 0 := nI_ge (a := 0) hn (by omega)
  have p2 : 0 < nI n := nI_lt (a := 0) hn (by omega)
  rw [h2, if_neg (nI_ge hk (by omega)), h, Option.bind_some]
  show (if nI n ≤ 0 then _ else _) = _
  rw [if_neg p1]
  show (if nI n ≤ 0 then _ else _) = _
  rw [if_neg p1]
  show (if 0 < nI n then _ else _) = _
  rw [if_pos p2, nI_add]
theorem body_c {K : (Int32 × QS) → Option (Int32 × QS)} {t k n : Nat} {r r' : QS} (hk : k < t) (ht : t ≤ 60) (h2 : r 2 0 = nI t) (hn : 1 ≤ n) (hn6 : n ≤ 6) (h : qf_Ref_loop (nI k) r = some (0, r)) (h' : qf_Ref_cellStatement (nI k) r = some (nI n, r')) : qf_Ref_read_B12 K (nI k) r = K (nI (k + n), r') := by
  unfold qf_Ref_read_B12 qf_Ref_read_j39 qf_Ref_read_j53
  have p1 : ¬ nI n ≤ 0 := nI_ge (a := 0) hn (by omega)
  have p2 : 0 < nI n := nI_lt (a := 0) hn (by omega)
  rw [h2, if_neg (nI_ge hk (by omega)), h, Option.bind_some]
  show (if (0 : Int32) ≤ 0 then _ else _) = _
  rw [if_pos (by decide), h', Option.bind_some]
  show (if nI n ≤ 0 then _ else _) = _
  rw [if_neg p1]
  show (if 0 < nI n then _ else _) = _
  rw [if_pos p2, nI_add]
theorem body_i {K : (Int32 × QS) → Option (Int32 × QS)} {t k n : Nat} {r r' : QS} (hk : k < t) (ht : t ≤ 60) (h2 : r 2 0 = nI t) (hn : 1 ≤ n) (hn6 : n ≤ 6) (h : qf_Ref_loop (nI k) r = some (0, r)) (h' : qf_Ref_cellStatement (nI k) r = some (0, r)) (h'' : qf_Ref_intStatement (nI k) r = some (nI n, r')) : qf_Ref_read_B12 K (nI k) r = K (nI (k + n), r') := by
  unfold qf_Ref_read_B12 qf_Ref_read_j39 qf_Ref_read_j53
  have p2 : 0 < nI n := nI_lt (a := 0) hn (by omega)
  rw [h2, if_neg (nI_ge hk (by omega)), h, Option.bind_some]
  show (if (0 : Int32) ≤ 0 then _ else _) = _
  rw [if_pos (by decide), h', Option.bind_some]
  show (if (0 : Int32) ≤ 0 then _ else _) = _
  rw [if_pos (by decide), h'', Option.bind_some]
  show (if 0 < nI n then _ else _) = _
  rw [if_pos p2, nI_add]
theorem body_n {K : (Int32 × QS) → Option (Int32 × QS)} {t k : Nat} {r : QS} (hk : k < t) (ht : t ≤ 60) (h2 : r 2 0 = nI t) (h : qf_Ref_loop (nI k) r = some (0, r)) (h' : qf_Ref_cellStatement (nI k) r = some (0, r)) (h'' : qf_Ref_intStatement (nI k) r = some (0, r)) : qf_Ref_read_B12 K (nI k) r = some (0, r) := by
  unfold qf_Ref_read_B12 qf_Ref_read_j39 qf_Ref_read_j53
  rw [h2, if_neg (nI_ge hk (by omega)), h, Option.bind_some]
  show (if (0 : Int32) ≤ 0 then _ else _) = _
  rw [if_pos (by decide), h', Option.bind_some]
  show (if (0 : Int32) ≤ 0 then _ else _) = _
  rw [if_pos (by decide), h'', Option.bind_some]
  show (if (0 : Int32) < 0 then _ else _) = _
  rw [if_neg (by decide)]
theorem sx0 {t k cnt : Nat} {src r : QS} (ht : t ≤ 60) (hk : k < t) (h : RTx t src r) (hc : cnt < 40) (h7 : r 7 0 = nI cnt) (hf : fitD 0 (chA t src k) 0 (shn 0) = true) : ∃ p q x, opD 0 (chA t src k) 0 16 0 (shn 0) = 16 * p + 64 * q + 256 * x ∧ VI (cnt + 1) 0 p q x ∧ ∀ K, qf_Ref_read_B12 K (nI k) r = K (nI (k + 4), addS r cnt (nI 0) (nI p) (nI q) (nI x)) := by
  have hk9 : k < 100 := by omega
  have hf := fx0.mp hf
  have e := ox0 hf
  have hx := rx0 (chA_lt h) (at_ref (i := 0) ht hk9 (by decide) h) (chA_lt h) (at_ref (i := 1) ht hk9 (by decide) h) (chA_lt h) (at_ref (i := 2) ht hk9 (by decide) h) (chA_lt h) (at_ref (i := 3) ht hk9 (by decide) h) (chA_lt h) (at_ref (i := 4) ht hk9 (by decide) h) (chA_lt h) (at_ref (i := 5) ht hk9 (by decide) h) (add_ref hc h7) hf
  obtain ⟨e0, e1, e2, e3⟩ := hf
  refine ⟨(chA t src k 0 - 97), 0, 0, e, by unfold VI; omega, fun K => ?_⟩
  have hl : qf_Ref_loop (nI k) r = some (0, r) := rf_loop (chA_lt h) (at_ref (i := 0) ht hk9 (by decide) h) (chA_lt h) (at_ref (i := 1) ht hk9 (by decide) h) (chA_lt h) (at_ref (i := 2) ht hk9 (by decide) h) (chA_lt h) (at_ref (i := 3) ht hk9 (by decide) h) (chA_lt h) (at_ref (i := 4) ht hk9 (by decide) h) (chA_lt h) (at_ref (i := 5) ht hk9 (by decide) h) (by omega) (by omega) (by omega)
  exact body_c hk ht h.2.1 (n := 4) (by decide) (by decide) hl hx
theorem sx1 {t k cnt : Nat} {src r : QS} (ht : t ≤ 60) (hk : k < t) (h : RTx t src r) (hc : cnt < 40) (h7 : r 7 0 = nI cnt) (hf : fitD 1 (chA t src k) 0 (shn 1) = true) : ∃ p q x, opD 1 (chA t src k) 0 16 0 (shn 1) = 16 * p + 64 * q + 256 * x ∧ VI (cnt + 1) 1 p q x ∧ ∀ K, qf_Ref_read_B12 K (nI k) r = K (nI (k + 4), addS r cnt (nI 1) (nI p) (nI q) (nI x)) := by
  have hk9 : k < 100 := by omega
  have hf := fx1.mp hf
  have e := ox1 hf
  have hx := rx1 (chA_lt h) (at_ref (i := 0) ht hk9 (by decide) h) (chA_lt h) (at_ref (i := 1) ht hk9 (by decide) h) (chA_lt h) (at_ref (i := 2) ht hk9 (by decide) h) (chA_lt h) (at_ref (i := 3) ht hk9 (by decide) h) (chA_lt h) (at_ref (i := 4) ht hk9 (by decide) h) (chA_lt h) (at_ref (i := 5) ht hk9 (by decide) h) (add_ref hc h7) hf
  obtain ⟨e0, e1, e2, e3⟩ := hf
  refine ⟨(chA t src k 0 - 97), 0, 0, e, by unfold VI; omega, fun K => ?_⟩
  have hl : qf_Ref_loop (nI k) r = some (0, r) := rf_loop (chA_lt h) (at_ref (i := 0) ht hk9 (by decide) h) (chA_lt h) (at_ref (i := 1) ht hk9 (by decide) h) (chA_lt h) (at_ref (i := 2) ht hk9 (by decide) h) (chA_lt h) (at_ref (i := 3) ht hk9 (by decide) h) (chA_lt h) (at_ref (i := 4) ht hk9 (by decide) h) (chA_lt h) (at_ref (i := 5) ht hk9 (by decide) h) (by omega) (by omega) (by omega)
  exact body_c hk ht h.2.1 (n := 4) (by decide) (by decide) hl hx
theorem sx2 {t k cnt : Nat} {src r : QS} (ht : t ≤ 60) (hk : k < t) (h : RTx t src r) (hc : cnt < 40) (h7 : r 7 0 = nI cnt) (hf : fitD 2 (chA t src k) 0 (shn 2) = true) : ∃ p q x, opD 2 (chA t src k) 0 16 0 (shn 2) = 16 * p + 64 * q + 256 * x ∧ VI (cnt + 1) 2 p q x ∧ ∀ K, qf_Ref_read_B12 K (nI k) r = K (nI (k + 4), addS r cnt (nI 2) (nI p) (nI q) (nI x)) := by
  have hk9 : k < 100 := by omega
  have hf := fx2.mp hf
  have e := ox2 hf
  have hx := rx2 (chA_lt h) (at_ref (i := 0) ht hk9 (by decide) h) (chA_lt h) (at_ref (i := 1) ht hk9 (by decide) h) (chA_lt h) (at_ref (i := 2) ht hk9 (by decide) h) (chA_lt h) (at_ref (i := 3) ht hk9 (by decide) h) (chA_lt h) (at_ref (i := 4) ht hk9 (by decide) h) (chA_lt h) (at_ref (i := 5) ht hk9 (by decide) h) (add_ref hc h7) hf
  obtain ⟨e0, e1, e2, e3⟩ := hf
  refine ⟨(chA t src k 0 - 97), (chA t src k 2 - 97), 0, e, by unfold VI; omega, fun K => ?_⟩
  have hl : qf_Ref_loop (nI k) r = some (0, r) := rf_loop (chA_lt h) (at_ref (i := 0) ht hk9 (by decide) h) (chA_lt h) (at_ref (i := 1) ht hk9 (by decide) h) (chA_lt h) (at_ref (i := 2) ht hk9 (by decide) h) (chA_lt h) (at_ref (i := 3) ht hk9 (by decide) h) (chA_lt h) (at_ref (i := 4) ht hk9 (by decide) h) (chA_lt h) (at_ref (i := 5) ht hk9 (by decide) h) (by omega) (by omega) (by omega)
  exact body_c hk ht h.2.1 (n := 4) (by decide) (by decide) hl hx
theorem sx3 {t k cnt : Nat} {src r : QS} (ht : t ≤ 60) (hk : k < t) (h : RTx t src r) (hc : cnt < 40) (h7 : r 7 0 = nI cnt) (hf : fitD 3 (chA t src k) 0 (shn 3) = true) : ∃ p q x, opD 3 (chA t src k) 0 16 0 (shn 3) = 16 * p + 64 * q + 256 * x ∧ VI (cnt + 1) 3 p q x ∧ ∀ K, qf_Ref_read_B12 K (nI k) r = K (nI (k + 6), addS r cnt (nI 3) (nI p) (nI q) (nI x)) := by
  have hk9 : k < 100 := by omega
  have hf := fx3.mp hf
  have e := ox3 hf
  have hx := rx3 (chA_lt h) (at_ref (i := 0) ht hk9 (by decide) h) (chA_lt h) (at_ref (i := 1) ht hk9 (by decide) h) (chA_lt h) (at_ref (i := 2) ht hk9 (by decide) h) (chA_lt h) (at_ref (i := 3) ht hk9 (by decide) h) (chA_lt h) (at_ref (i := 4) ht hk9 (by decide) h) (chA_lt h) (at_ref (i := 5) ht hk9 (by decide) h) (add_ref hc h7) hf
  obtain ⟨e0, e1, e2, e3, e4, e5⟩ := hf
  refine ⟨(chA t src k 0 - 97), (chA t src k 2 - 97), 0, e, by unfold VI; omega, fun K => ?_⟩
  have hl : qf_Ref_loop (nI k) r = some (0, r) := rf_loop (chA_lt h) (at_ref (i := 0) ht hk9 (by decide) h) (chA_lt h) (at_ref (i := 1) ht hk9 (by decide) h) (chA_lt h) (at_ref (i := 2) ht hk9 (by decide) h) (chA_lt h) (at_ref (i := 3) ht hk9 (by decide) h) (chA_lt h) (at_ref (i := 4) ht hk9 (by decide) h) (chA_lt h) (at_ref (i := 5) ht hk9 (by decide) h) (by omega) (by omega) (by omega)
  exact body_c hk ht h.2.1 (n := 6) (by decide) (by decide) hl hx
theorem sx4 {t k cnt : Nat} {src r : QS} (ht : t ≤ 60) (hk : k < t) (h : RTx t src r) (hc : cnt < 40) (h7 : r 7 0 = nI cnt) (hf : fitD 4 (chA t src k) 0 (shn 4) = true) : ∃ p q x, opD 4 (chA t src k) 0 16 0 (shn 4) = 16 * p + 64 * q + 256 * x ∧ VI (cnt + 1) 4 p q x ∧ ∀ K, qf_Ref_read_B12 K (nI k) r = K (nI (k + 6), addS r cnt (nI 4) (nI p) (nI q) (nI x)) := by
  have hk9 : k < 100 := by omega
  have hf := fx4.mp hf
  have e := ox4 hf
  have hx := rx4 (chA_lt h) (at_ref (i := 0) ht hk9 (by decide) h) (chA_lt h) (at_ref (i := 1) ht hk9 (by decide) h) (chA_lt h) (at_ref (i := 2) ht hk9 (by decide) h) (chA_lt h) (at_ref (i := 3) ht hk9 (by decide) h) (chA_lt h) (at_ref (i := 4) ht hk9 (by decide) h) (chA_lt h) (at_ref (i := 5) ht hk9 (by decide) h) (add_ref hc h7) hf
  obtain ⟨e0, e1, e2, e3, e4, e5⟩ := hf
  refine ⟨(chA t src k 0 - 97), (chA t src k 2 - 97), 0, e, by unfold VI; omega, fun K => ?_⟩
  have hl : qf_Ref_loop (nI k) r = some (0, r) := rf_loop (chA_lt h) (at_ref (i := 0) ht hk9 (by decide) h) (chA_lt h) (at_ref (i := 1) ht hk9 (by decide) h) (chA_lt h) (at_ref (i := 2) ht hk9 (by decide) h) (chA_lt h) (at_ref (i := 3) ht hk9 (by decide) h) (chA_lt h) (at_ref (i := 4) ht hk9 (by decide) h) (chA_lt h) (at_ref (i := 5) ht hk9 (by decide) h) (by omega) (by omega) (by omega)
  exact body_c hk ht h.2.1 (n := 6) (by decide) (by decide) hl hx
theorem sx5 {t k cnt : Nat} {src r : QS} (ht : t ≤ 60) (hk : k < t) (h : RTx t src r) (hc : cnt < 40) (h7 : r 7 0 = nI cnt) (hf : fitD 5 (chA t src k) 0 (shn 5) = true) : ∃ p q x, opD 5 (chA t src k) 0 16 0 (shn 5) = 16 * p + 64 * q + 256 * x ∧ VI (cnt + 1) 5 p q x ∧ ∀ K, qf_Ref_read_B12 K (nI k) r = K (nI (k + 6), addS r cnt (nI 5) (nI p) (nI q) (nI x)) := by
  have hk9 : k < 100 := by omega
  have hf := fx5.mp hf
  have e := ox5 hf
  have hx := rx5 (chA_lt h) (at_ref (i := 0) ht hk9 (by decide) h) (chA_lt h) (at_ref (i := 1) ht hk9 (by decide) h) (chA_lt h) (at_ref (i := 2) ht hk9 (by decide) h) (chA_lt h) (at_ref (i := 3) ht hk9 (by decide) h) (chA_lt h) (at_ref (i := 4) ht hk9 (by decide) h) (chA_lt h) (at_ref (i := 5) ht hk9 (by decide) h) (add_ref hc h7) hf
  obtain ⟨e0, e1, e2, e3, e4, e5⟩ := hf
  refine ⟨(chA t src k 0 - 97), (chA t src k 4 - 97), 0, e, by unfold VI; omega, fun K => ?_⟩
  have hl : qf_Ref_loop (nI k) r = some (0, r) := rf_loop (chA_lt h) (at_ref (i := 0) ht hk9 (by decide) h) (chA_lt h) (at_ref (i := 1) ht hk9 (by decide) h) (chA_lt h) (at_ref (i := 2) ht hk9 (by decide) h) (chA_lt h) (at_ref (i := 3) ht hk9 (by decide) h) (chA_lt h) (at_ref (i := 4) ht hk9 (by decide) h) (chA_lt h) (at_ref (i := 5) ht hk9 (by decide) h) (by omega) (by omega) (by omega)
  exact body_c hk ht h.2.1 (n := 6) (by decide) (by decide) hl hx
theorem sx6 {t k cnt : Nat} {src r : QS} (ht : t ≤ 60) (hk : k < t) (h : RTx t src r) (hc : cnt < 40) (h7 : r 7 0 = nI cnt) (hf : fitD 6 (chA t src k) 0 (shn 6) = true) : ∃ p q x, opD 6 (chA t src k) 0 16 0 (shn 6) = 16 * p + 64 * q + 256 * x ∧ VI (cnt + 1) 6 p q x ∧ ∀ K, qf_Ref_read_B12 K (nI k) r = K (nI (k + 6), addS r cnt (nI 6) (nI p) (nI q) (nI x)) := by
  have hk9 : k < 100 := by omega
  have hf := fx6.mp hf
  have e := ox6 hf
  have hx := rx6 (chA_lt h) (at_ref (i := 0) ht hk9 (by decide) h) (chA_lt h) (at_ref (i := 1) ht hk9 (by decide) h) (chA_lt h) (at_ref (i := 2) ht hk9 (by decide) h) (chA_lt h) (at_ref (i := 3) ht hk9 (by decide) h) (chA_lt h) (at_ref (i := 4) ht hk9 (by decide) h) (chA_lt h) (at_ref (i := 5) ht hk9 (by decide) h) (add_ref hc h7) hf
  obtain ⟨e0, e1, e2, e3, e4, e5⟩ := hf
  refine ⟨(chA t src k 0 - 97), (chA t src k 4 - 97), 0, e, by unfold VI; omega, fun K => ?_⟩
  have hl : qf_Ref_loop (nI k) r = some (0, r) := rf_loop (chA_lt h) (at_ref (i := 0) ht hk9 (by decide) h) (chA_lt h) (at_ref (i := 1) ht hk9 (by decide) h) (chA_lt h) (at_ref (i := 2) ht hk9 (by decide) h) (chA_lt h) (at_ref (i := 3) ht hk9 (by decide) h) (chA_lt h) (at_ref (i := 4) ht hk9 (by decide) h) (chA_lt h) (at_ref (i := 5) ht hk9 (by decide) h) (by omega) (by omega) (by omega)
  exact body_c hk ht h.2.1 (n := 6) (by decide) (by decide) hl hx
theorem sx7 {t k cnt : Nat} {src r : QS} (ht : t ≤ 60) (hk : k < t) (h : RTx t src r) (hc : cnt < 40) (h7 : r 7 0 = nI cnt) (hf : fitD 7 (chA t src k) 0 (shn 7) = true) : ∃ p q x, opD 7 (chA t src k) 0 16 0 (shn 7) = 16 * p + 64 * q + 256 * x ∧ VI (cnt + 1) 7 p q x ∧ ∀ K, qf_Ref_read_B12 K (nI k) r = K (nI (k + 6), addS r cnt (nI 7) (nI p) (nI q) (nI x)) := by
  have hk9 : k < 100 := by omega
  have hf := fx7.mp hf
  have e := ox7 hf
  have hx := rx7 (chA_lt h) (at_ref (i := 0) ht hk9 (by decide) h) (chA_lt h) (at_ref (i := 1) ht hk9 (by decide) h) (chA_lt h) (at_ref (i := 2) ht hk9 (by decide) h) (chA_lt h) (at_ref (i := 3) ht hk9 (by decide) h) (chA_lt h) (at_ref (i := 4) ht hk9 (by decide) h) (chA_lt h) (at_ref (i := 5) ht hk9 (by decide) h) (add_ref hc h7) hf
  obtain ⟨e0, e1, e2, e3, e4, e5⟩ := hf
  refine ⟨(chA t src k 0 - 97), 0, 0, e, by unfold VI; omega, fun K => ?_⟩
  have hl : qf_Ref_loop (nI k) r = some (0, r) := rf_loop (chA_lt h) (at_ref (i := 0) ht hk9 (by decide) h) (chA_lt h) (at_ref (i := 1) ht hk9 (by decide) h) (chA_lt h) (at_ref (i := 2) ht hk9 (by decide) h) (chA_lt h) (at_ref (i := 3) ht hk9 (by decide) h) (chA_lt h) (at_ref (i := 4) ht hk9 (by decide) h) (chA_lt h) (at_ref (i := 5) ht hk9 (by decide) h) (by omega) (by omega) (by omega)
  exact body_c hk ht h.2.1 (n := 6) (by decide) (by decide) hl hx
theorem sx8 {t k cnt : Nat} {src r : QS} (ht : t ≤ 60) (hk : k < t) (h : RTx t src r) (hc : cnt < 40) (h7 : r 7 0 = nI cnt) (hf : fitD 8 (chA t src k) 0 (shn 8) = true) : ∃ p q x, opD 8 (chA t src k) 0 16 0 (shn 8) = 16 * p + 64 * q + 256 * x ∧ VI (cnt + 1) 8 p q x ∧ ∀ K, qf_Ref_read_B12 K (nI k) r = K (nI (k + 6), addS r cnt (nI 8) (nI p) (nI q) (nI x)) := by
  have hk9 : k < 100 := by omega
  have hf := fx8.mp hf
  have e := ox8 hf
  have hx := rx8 (chA_lt h) (at_ref (i := 0) ht hk9 (by decide) h) (chA_lt h) (at_ref (i := 1) ht hk9 (by decide) h) (chA_lt h) (at_ref (i := 2) ht hk9 (by decide) h) (chA_lt h) (at_ref (i := 3) ht hk9 (by decide) h) (chA_lt h) (at_ref (i := 4) ht hk9 (by decide) h) (chA_lt h) (at_ref (i := 5) ht hk9 (by decide) h) (add_ref hc h7) hf
  obtain ⟨e0, e1, e2, e3, e4, e5⟩ := hf
  refine ⟨(chA t src k 0 - 97), 0, 0, e, by unfold VI; omega, fun K => ?_⟩
  have hl : qf_Ref_loop (nI k) r = some (0, r) := rf_loop (chA_lt h) (at_ref (i := 0) ht hk9 (by decide) h) (chA_lt h) (at_ref (i := 1) ht hk9 (by decide) h) (chA_lt h) (at_ref (i := 2) ht hk9 (by decide) h) (chA_lt h) (at_ref (i := 3) ht hk9 (by decide) h) (chA_lt h) (at_ref (i := 4) ht hk9 (by decide) h) (chA_lt h) (at_ref (i := 5) ht hk9 (by decide) h) (by omega) (by omega) (by omega)
  exact body_c hk ht h.2.1 (n := 6) (by decide) (by decide) hl hx
theorem sx9 {t k cnt : Nat} {src r : QS} (ht : t ≤ 60) (hk : k < t) (h : RTx t src r) (hc : cnt < 40) (h7 : r 7 0 = nI cnt) (hf : fitD 9 (chA t src k) 0 (shn 9) = true) : ∃ p q x, opD 9 (chA t src k) 0 16 0 (shn 9) = 16 * p + 64 * q + 256 * x ∧ VI (cnt + 1) 9 p q x ∧ ∀ K, qf_Ref_read_B12 K (nI k) r = K (nI (k + 6), addS r cnt (nI 9) (nI p) (nI q) (nI x)) := by
  have hk9 : k < 100 := by omega
  have hf := fx9.mp hf
  have e := ox9 hf
  have hx := rx9 (chA_lt h) (at_ref (i := 0) ht hk9 (by decide) h) (chA_lt h) (at_ref (i := 1) ht hk9 (by decide) h) (chA_lt h) (at_ref (i := 2) ht hk9 (by decide) h) (chA_lt h) (at_ref (i := 3) ht hk9 (by decide) h) (chA_lt h) (at_ref (i := 4) ht hk9 (by decide) h) (chA_lt h) (at_ref (i := 5) ht hk9 (by decide) h) (add_ref hc h7) hf
  obtain ⟨e0, e1, e2, e3, e4, e5⟩ := hf
  refine ⟨(chA t src k 0 - 97), (chA t src k 4 - 120), 0, e, by unfold VI; omega, fun K => ?_⟩
  have hl : qf_Ref_loop (nI k) r = some (0, r) := rf_loop (chA_lt h) (at_ref (i := 0) ht hk9 (by decide) h) (chA_lt h) (at_ref (i := 1) ht hk9 (by decide) h) (chA_lt h) (at_ref (i := 2) ht hk9 (by decide) h) (chA_lt h) (at_ref (i := 3) ht hk9 (by decide) h) (chA_lt h) (at_ref (i := 4) ht hk9 (by decide) h) (chA_lt h) (at_ref (i := 5) ht hk9 (by decide) h) (by omega) (by omega) (by omega)
  exact body_c hk ht h.2.1 (n := 6) (by decide) (by decide) hl hx
theorem sx10 {t k cnt : Nat} {src r : QS} (ht : t ≤ 60) (hk : k < t) (h : RTx t src r) (hc : cnt < 40) (h7 : r 7 0 = nI cnt) (hf : fitD 10 (chA t src k) 0 (shn 10) = true) : ∃ p q x, opD 10 (chA t src k) 0 16 0 (shn 10) = 16 * p + 64 * q + 256 * x ∧ VI (cnt + 1) 10 p q x ∧ ∀ K, qf_Ref_read_B12 K (nI k) r = K (nI (k + 4), addS r cnt (nI 10) (nI p) (nI q) (nI x)) := by
  have hk9 : k < 100 := by omega
  have hf := fx10.mp hf
  have e := ox10 hf
  have hx := rx10 (chA_lt h) (at_ref (i := 0) ht hk9 (by decide) h) (chA_lt h) (at_ref (i := 1) ht hk9 (by decide) h) (chA_lt h) (at_ref (i := 2) ht hk9 (by decide) h) (chA_lt h) (at_ref (i := 3) ht hk9 (by decide) h) (chA_lt h) (at_ref (i := 4) ht hk9 (by decide) h) (chA_lt h) (at_ref (i := 5) ht hk9 (by decide) h) (add_ref hc h7) hf
  obtain ⟨e0, e1, e2, e3⟩ := hf
  refine ⟨(chA t src k 0 - 120), 0, (chA t src k 2 - 48), e, by unfold VI; omega, fun K => ?_⟩
  have hl : qf_Ref_loop (nI k) r = some (0, r) := rf_loop (chA_lt h) (at_ref (i := 0) ht hk9 (by decide) h) (chA_lt h) (at_ref (i := 1) ht hk9 (by decide) h) (chA_lt h) (at_ref (i := 2) ht hk9 (by decide) h) (chA_lt h) (at_ref (i := 3) ht hk9 (by decide) h) (chA_lt h) (at_ref (i := 4) ht hk9 (by decide) h) (chA_lt h) (at_ref (i := 5) ht hk9 (by decide) h) (by omega) (by omega) (by omega)
  have hc2 : qf_Ref_cellStatement (nI k) r = some (0, r) := rf_cell (chA_lt h) (at_ref (i := 0) ht hk9 (by decide) h) (chA_lt h) (at_ref (i := 1) ht hk9 (by decide) h) (chA_lt h) (at_ref (i := 2) ht hk9 (by decide) h) (chA_lt h) (at_ref (i := 3) ht hk9 (by decide) h) (chA_lt h) (at_ref (i := 4) ht hk9 (by decide) h) (chA_lt h) (at_ref (i := 5) ht hk9 (by decide) h) (by omega) (by omega) (by omega) (by omega) (by omega) (by omega) (by omega) (by omega) (by omega) (by omega)
  exact body_i hk ht h.2.1 (n := 4) (by decide) (by decide) hl hc2 hx
theorem sx11 {t k cnt : Nat} {src r : QS} (ht : t ≤ 60) (hk : k < t) (h : RTx t src r) (hc : cnt < 40) (h7 : r 7 0 = nI cnt) (hf : fitD 11 (chA t src k) 0 (shn 11) = true) : ∃ p q x, opD 11 (chA t src k) 0 16 0 (shn 11) = 16 * p + 64 * q + 256 * x ∧ VI (cnt + 1) 11 p q x ∧ ∀ K, qf_Ref_read_B12 K (nI k) r = K (nI (k + 4), addS r cnt (nI 11) (nI p) (nI q) (nI x)) := by
  have hk9 : k < 100 := by omega
  have hf := fx11.mp hf
  have e := ox11 hf
  have hx := rx11 (chA_lt h) (at_ref (i := 0) ht hk9 (by decide) h) (chA_lt h) (at_ref (i := 1) ht hk9 (by decide) h) (chA_lt h) (at_ref (i := 2) ht hk9 (by decide) h) (chA_lt h) (at_ref (i := 3) ht hk9 (by decide) h) (chA_lt h) (at_ref (i := 4) ht hk9 (by decide) h) (chA_lt h) (at_ref (i := 5) ht hk9 (by decide) h) (add_ref hc h7) hf
  obtain ⟨e0, e1, e2, e3⟩ := hf
  refine ⟨(chA t src k 0 - 120), (chA t src k 2 - 120), 0, e, by unfold VI; omega, fun K => ?_⟩
  have hl : qf_Ref_loop (nI k) r = some (0, r) := rf_loop (chA_lt h) (at_ref (i := 0) ht hk9 (by decide) h) (chA_lt h) (at_ref (i := 1) ht hk9 (by decide) h) (chA_lt h) (at_ref (i := 2) ht hk9 (by decide) h) (chA_lt h) (at_ref (i := 3) ht hk9 (by decide) h) (chA_lt h) (at_ref (i := 4) ht hk9 (by decide) h) (chA_lt h) (at_ref (i := 5) ht hk9 (by decide) h) (by omega) (by omega) (by omega)
  have hc2 : qf_Ref_cellStatement (nI k) r = some (0, r) := rf_cell (chA_lt h) (at_ref (i := 0) ht hk9 (by decide) h) (chA_lt h) (at_ref (i := 1) ht hk9 (by decide) h) (chA_lt h) (at_ref (i := 2) ht hk9 (by decide) h) (chA_lt h) (at_ref (i := 3) ht hk9 (by decide) h) (chA_lt h) (at_ref (i := 4) ht hk9 (by decide) h) (chA_lt h) (at_ref (i := 5) ht hk9 (by decide) h) (by omega) (by omega) (by omega) (by omega) (by omega) (by omega) (by omega) (by omega) (by omega) (by omega)
  exact body_i hk ht h.2.1 (n := 4) (by decide) (by decide) hl hc2 hx
theorem sx12 {t k cnt : Nat} {src r : QS} (ht : t ≤ 60) (hk : k < t) (h : RTx t src r) (hc : cnt < 40) (h7 : r 7 0 = nI cnt) (hf : fitD 12 (chA t src k) 0 (shn 12) = true) : ∃ p q x, opD 12 (chA t src k) 0 16 0 (shn 12) = 16 * p + 64 * q + 256 * x ∧ VI (cnt + 1) 12 p q x ∧ ∀ K, qf_Ref_read_B12 K (nI k) r = K (nI (k + 6), addS r cnt (nI 12) (nI p) (nI q) (nI x)) := by
  have hk9 : k < 100 := by omega
  have hf := fx12.mp hf
  have e := ox12 hf
  have hx := rx12 (chA_lt h) (at_ref (i := 0) ht hk9 (by decide) h) (chA_lt h) (at_ref (i := 1) ht hk9 (by decide) h) (chA_lt h) (at_ref (i := 2) ht hk9 (by decide) h) (chA_lt h) (at_ref (i := 3) ht hk9 (by decide) h) (chA_lt h) (at_ref (i := 4) ht hk9 (by decide) h) (chA_lt h) (at_ref (i := 5) ht hk9 (by decide) h) (add_ref hc h7) hf
  obtain ⟨e0, e1, e2, e3, e4, e5⟩ := hf
  refine ⟨(chA t src k 0 - 120), (chA t src k 2 - 120), (chA t src k 4 - 120), e, by unfold VI; omega, fun K => ?_⟩
  have hl : qf_Ref_loop (nI k) r = some (0, r) := rf_loop (chA_lt h) (at_ref (i := 0) ht hk9 (by decide) h) (chA_lt h) (at_ref (i := 1) ht hk9 (by decide) h) (chA_lt h) (at_ref (i := 2) ht hk9 (by decide) h) (chA_lt h) (at_ref (i := 3) ht hk9 (by decide) h) (chA_lt h) (at_ref (i := 4) ht hk9 (by decide) h) (chA_lt h) (at_ref (i := 5) ht hk9 (by decide) h) (by omega) (by omega) (by omega)
  have hc2 : qf_Ref_cellStatement (nI k) r = some (0, r) := rf_cell (chA_lt h) (at_ref (i := 0) ht hk9 (by decide) h) (chA_lt h) (at_ref (i := 1) ht hk9 (by decide) h) (chA_lt h) (at_ref (i := 2) ht hk9 (by decide) h) (chA_lt h) (at_ref (i := 3) ht hk9 (by decide) h) (chA_lt h) (at_ref (i := 4) ht hk9 (by decide) h) (chA_lt h) (at_ref (i := 5) ht hk9 (by decide) h) (by omega) (by omega) (by omega) (by omega) (by omega) (by omega) (by omega) (by omega) (by omega) (by omega)
  exact body_i hk ht h.2.1 (n := 6) (by decide) (by decide) hl hc2 hx
theorem sx13 {t k cnt : Nat} {src r : QS} (ht : t ≤ 60) (hk : k < t) (h : RTx t src r) (hc : cnt < 40) (h7 : r 7 0 = nI cnt) (hf : fitD 13 (chA t src k) 0 (shn 13) = true) : ∃ p q x, opD 13 (chA t src k) 0 16 0 (shn 13) = 16 * p + 64 * q + 256 * x ∧ VI (cnt + 1) 13 p q x ∧ ∀ K, qf_Ref_read_B12 K (nI k) r = K (nI (k + 6), addS r cnt (nI 13) (nI p) (nI q) (nI x)) := by
  have hk9 : k < 100 := by omega
  have hf := fx13.mp hf
  have e := ox13 hf
  have hx := rx13 (chA_lt h) (at_ref (i := 0) ht hk9 (by decide) h) (chA_lt h) (at_ref (i := 1) ht hk9 (by decide) h) (chA_lt h) (at_ref (i := 2) ht hk9 (by decide) h) (chA_lt h) (at_ref (i := 3) ht hk9 (by decide) h) (chA_lt h) (at_ref (i := 4) ht hk9 (by decide) h) (chA_lt h) (at_ref (i := 5) ht hk9 (by decide) h) (add_ref hc h7) hf
  obtain ⟨e0, e1, e2, e3, e4, e5⟩ := hf
  refine ⟨(chA t src k 0 - 120), (chA t src k 2 - 97), 0, e, by unfold VI; omega, fun K => ?_⟩
  have hl : qf_Ref_loop (nI k) r = some (0, r) := rf_loop (chA_lt h) (at_ref (i := 0) ht hk9 (by decide) h) (chA_lt h) (at_ref (i := 1) ht hk9 (by decide) h) (chA_lt h) (at_ref (i := 2) ht hk9 (by decide) h) (chA_lt h) (at_ref (i := 3) ht hk9 (by decide) h) (chA_lt h) (at_ref (i := 4) ht hk9 (by decide) h) (chA_lt h) (at_ref (i := 5) ht hk9 (by decide) h) (by omega) (by omega) (by omega)
  have hc2 : qf_Ref_cellStatement (nI k) r = some (0, r) := rf_cell (chA_lt h) (at_ref (i := 0) ht hk9 (by decide) h) (chA_lt h) (at_ref (i := 1) ht hk9 (by decide) h) (chA_lt h) (at_ref (i := 2) ht hk9 (by decide) h) (chA_lt h) (at_ref (i := 3) ht hk9 (by decide) h) (chA_lt h) (at_ref (i := 4) ht hk9 (by decide) h) (chA_lt h) (at_ref (i := 5) ht hk9 (by decide) h) (by omega) (by omega) (by omega) (by omega) (by omega) (by omega) (by omega) (by omega) (by omega) (by omega)
  exact body_i hk ht h.2.1 (n := 6) (by decide) (by decide) hl hc2 hx
theorem sx14 {t k cnt : Nat} {src r : QS} (ht : t ≤ 60) (hk : k < t) (h : RTx t src r) (hc : cnt < 40) (h7 : r 7 0 = nI cnt) (hf : fitD 14 (chA t src k) 0 (shn 14) = true) : ∃ p q x, opD 14 (chA t src k) 0 16 0 (shn 14) = 16 * p + 64 * q + 256 * x ∧ VI (cnt + 1) 14 p q x ∧ ∀ K, qf_Ref_read_B12 K (nI k) r = K (nI (k + 3), addS r cnt (nI 14) (nI p) (nI q) (nI x)) := by
  have hk9 : k < 100 := by omega
  have hf := fx14.mp hf
  have e := ox14 hf
  have hx := rx14 (chA_lt h) (at_ref (i := 0) ht hk9 (by decide) h) (chA_lt h) (at_ref (i := 1) ht hk9 (by decide) h) (chA_lt h) (at_ref (i := 2) ht hk9 (by decide) h) (chA_lt h) (at_ref (i := 3) ht hk9 (by decide) h) (chA_lt h) (at_ref (i := 4) ht hk9 (by decide) h) (chA_lt h) (at_ref (i := 5) ht hk9 (by decide) h) (add_ref hc h7) hf
  obtain ⟨e0, e1, e2⟩ := hf
  refine ⟨(chA t src k 1 - 120), 0, 0, e, by unfold VI; omega, fun K => ?_⟩
  exact body_l hk ht h.2.1 (n := 3) (by decide) (by decide) hx
theorem fail_ref {t k : Nat} {src r : QS} (ht : t ≤ 60) (hk : k < t) (h : RTx t src r) (x0 : ¬ chA t src k 0 = 40) (x1 : ¬ chA t src k 0 = 41) (hn : ∀ i, i < 15 → fitD i (chA t src k) 0 (shn i) = false) : ∀ K, qf_Ref_read_B12 K (nI k) r = some (0, r) := by
  have hk9 : k < 100 := by omega
  have n0 := fun z => Bool.false_ne_true ((hn 0 (by decide)).symm.trans (fx0.mpr z))
  have n1 := fun z => Bool.false_ne_true ((hn 1 (by decide)).symm.trans (fx1.mpr z))
  have n2 := fun z => Bool.false_ne_true ((hn 2 (by decide)).symm.trans (fx2.mpr z))
  have n3 := fun z => Bool.false_ne_true ((hn 3 (by decide)).symm.trans (fx3.mpr z))
  have n4 := fun z => Bool.false_ne_true ((hn 4 (by decide)).symm.trans (fx4.mpr z))
  have n5 := fun z => Bool.false_ne_true ((hn 5 (by decide)).symm.trans (fx5.mpr z))
  have n6 := fun z => Bool.false_ne_true ((hn 6 (by decide)).symm.trans (fx6.mpr z))
  have n7 := fun z => Bool.false_ne_true ((hn 7 (by decide)).symm.trans (fx7.mpr z))
  have n8 := fun z => Bool.false_ne_true ((hn 8 (by decide)).symm.trans (fx8.mpr z))
  have n9 := fun z => Bool.false_ne_true ((hn 9 (by decide)).symm.trans (fx9.mpr z))
  have n10 := fun z => Bool.false_ne_true ((hn 10 (by decide)).symm.trans (fx10.mpr z))
  have n11 := fun z => Bool.false_ne_true ((hn 11 (by decide)).symm.trans (fx11.mpr z))
  have n12 := fun z => Bool.false_ne_true ((hn 12 (by decide)).symm.trans (fx12.mpr z))
  have n13 := fun z => Bool.false_ne_true ((hn 13 (by decide)).symm.trans (fx13.mpr z))
  have n14 := fun z => Bool.false_ne_true ((hn 14 (by decide)).symm.trans (fx14.mpr z))
  intro K
  exact body_n hk ht h.2.1 (rf_loop (chA_lt h) (at_ref (i := 0) ht hk9 (by decide) h) (chA_lt h) (at_ref (i := 1) ht hk9 (by decide) h) (chA_lt h) (at_ref (i := 2) ht hk9 (by decide) h) (chA_lt h) (at_ref (i := 3) ht hk9 (by decide) h) (chA_lt h) (at_ref (i := 4) ht hk9 (by decide) h) (chA_lt h) (at_ref (i := 5) ht hk9 (by decide) h) x0 x1 n14) (rf_cell (chA_lt h) (at_ref (i := 0) ht hk9 (by decide) h) (chA_lt h) (at_ref (i := 1) ht hk9 (by decide) h) (chA_lt h) (at_ref (i := 2) ht hk9 (by decide) h) (chA_lt h) (at_ref (i := 3) ht hk9 (by decide) h) (chA_lt h) (at_ref (i := 4) ht hk9 (by decide) h) (chA_lt h) (at_ref (i := 5) ht hk9 (by decide) h) n0 n1 n2 n3 n4 n5 n6 n7 n8 n9) (rf_int (chA_lt h) (at_ref (i := 0) ht hk9 (by decide) h) (chA_lt h) (at_ref (i := 1) ht hk9 (by decide) h) (chA_lt h) (at_ref (i := 2) ht hk9 (by decide) h) (chA_lt h) (at_ref (i := 3) ht hk9 (by decide) h) (chA_lt h) (at_ref (i := 4) ht hk9 (by decide) h) (chA_lt h) (at_ref (i := 5) ht hk9 (by decide) h) n10 n11 n12 n13)
