/-! ===== the pure part: shapes, the program ===== -/
def fitsB (m x : Nat) : Bool := if m = 82 then decide (97 ≤ x ∧ x ≤ 100) else if m = 73 then decide (120 ≤ x ∧ x ≤ 122) else if m = 48 then decide (48 ≤ x ∧ x ≤ 57) else decide (x = m)
def shQ : List (List Nat) := [[82, 61, 42, 59], [82, 61, 45, 59], [82, 61, 82, 59], [82, 61, 82, 46, 108, 59], [82, 61, 82, 46, 114, 59], [82, 46, 108, 61, 82, 59], [82, 46, 114, 61, 82, 59], [82, 46, 108, 61, 45, 59], [82, 46, 114, 61, 45, 59], [82, 46, 110, 61, 73, 59], [73, 61, 48, 59], [73, 61, 73, 59], [73, 61, 73, 43, 73, 59], [73, 61, 82, 46, 110, 59], [33, 73, 59]]
def shc (j i : Nat) : Nat := (shQ.getD j []).getD i 0
def shn (j : Nat) : Nat := (shQ.getD j []).length
theorem jl_all : ∀ j : Fin 15, qf_Jstr_length j.val = some (nI (shn j.val)) := by decide
theorem jc_all : ∀ j : Fin 15, ∀ i : Fin 6, i.val < shn j.val → qf_Jstr_charAt (nI i.val) j.val = some (nI (shc j.val i.val)) := by decide +kernel
theorem jn_all : ∀ j : Fin 15, shn j.val ≤ 6 ∧ 3 ≤ shn j.val ∧ shc j.val (shn j.val - 1) = 59 := by decide
theorem jsh_all : ∀ j : Fin 15, qf_Src_shapeOf (nI j.val) = some j.val := by decide
theorem jm_all : ∀ j : Fin 15, ∀ i : Fin 6, shc j.val i.val < 128 := by decide
theorem jl {j : Nat} (hj : j < 15) : qf_Jstr_length j = some (nI (shn j)) := jl_all ⟨j, hj⟩
theorem jn {j : Nat} (hj : j < 15) : shn j ≤ 6 ∧ 3 ≤ shn j ∧ shc j (shn j - 1) = 59 := jn_all ⟨j, hj⟩
theorem js {j : Nat} (hj : j < 15) : qf_Src_shapeOf (nI j) = some j := jsh_all ⟨j, hj⟩
theorem jm {j i : Nat} (hj : j < 15) (hi : i < 6) : shc j i < 128 := jm_all ⟨j, hj⟩ ⟨i, hi⟩
theorem jc {j i : Nat} (hj : j < 15) (hi : i < shn j) : qf_Jstr_charAt (nI i) j = some (nI (shc j i)) := jc_all ⟨j, hj⟩ ⟨i, Nat.lt_of_lt_of_le hi (jn hj).1⟩ hi
theorem nI_inj {a b : Nat} (ha : a < 2 ^ 31) (hb : b < 2 ^ 31) (h : nI a = nI b) : a = b := (nI_eq ha hb).mp h
theorem fits_cl {m x : Nat} (hm : m < 128) (hx : x < 128) : qf_Src_fits (nI m) (nI x) = some (if fitsB m x then 1 else 0) := by
  have lo : ∀ b : Nat, b < 128 → ∀ k : Int32, k = nI b → (nI x < k ↔ x < b) := fun b hb k hk => by rw [hk]; exact nI_ltI (by omega) (by omega)
  have hi : ∀ b : Nat, b < 128 → ∀ k : Int32, k = nI b → (k < nI x ↔ b < x) := fun b hb k hk => by rw [hk]; exact nI_ltI (by omega) (by omega)
  have rng : ∀ a b : Nat, a < 128 → b < 128 → ∀ ka kb : Int32, ka = nI a → kb = nI b → (if nI x < ka then some (0 : Int32) else if kb < nI x then some 0 else some 1) = some (if decide (a ≤ x ∧ x ≤ b) = true then 1 else 0) := by
    intro a b ha hb ka kb hka hkb
    by_cases h1 : x < a
    · rw [if_pos ((lo a ha ka hka).mpr h1), decide_eq_false (by omega)]; rfl
    · rw [if_neg (fun h => h1 ((lo a ha ka hka).mp h))]
      by_cases h2 : b < x
      · rw [if_pos ((hi b hb kb hkb).mpr h2), decide_eq_false (by omega)]; rfl
      · rw [if_neg (fun h => h2 ((hi b hb kb hkb).mp h)), decide_eq_true (by omega)]; rfl
  unfold qf_Src_fits fitsB
  by_cases h1 : m = 82
  · rw [if_pos h1, h1, if_pos (show nI 82 = 82 from rfl)]
    exact rng 97 100 (by decide) (by decide) _ _ rfl rfl
  · rw [if_neg h1, if_neg (show ¬ nI m = 82 from nNe 82 rfl (by omega) (by decide) h1)]
    by_cases h2 : m = 73
    · rw [if_pos h2, h2, if_pos (show nI 73 = 73 from rfl)]
      exact rng 120 122 (by decide) (by decide) _ _ rfl rfl
    · rw [if_neg h2, if_neg (show ¬ nI m = 73 from nNe 73 rfl (by omega) (by decide) h2)]
      by_cases h3 : m = 48
      · rw [if_pos h3, h3, if_pos (show nI 48 = 48 from rfl)]
        exact rng 48 57 (by decide) (by decide) _ _ rfl rfl
      · rw [if_neg h3, if_neg (show ¬ nI m = 48 from nNe 48 rfl (by omega) (by decide) h3)]
        by_cases h4 : x = m
        · rw [if_pos (congrArg nI h4), decide_eq_true h4]; rfl
        · rw [if_neg (fun h => h4 (nI_inj (by omega) (by omega) h)), decide_eq_false h4]; rfl
def fitD (j : Nat) (A : Nat → Nat) (i : Nat) : Nat → Bool
  | 0 => true
  | d + 1 => fitsB (shc j i) (A i) && fitD j A (i + 1) d
theorem fitD_at {j : Nat} {A : Nat → Nat} : ∀ d i, fitD j A i d = true → ∀ e, e < d → fitsB (shc j (i + e)) (A (i + e)) = true := by
  intro d
  induction d with
  | zero => intro i _ e he; omega
  | succ d ih =>
    intro i h e he
    have h : (fitsB (shc j i) (A i) && fitD j A (i + 1) d) = true := h
    rw [Bool.and_eq_true] at h
    cases e with
    | zero => exact h.1
    | succ e =>
      have := ih (i + 1) h.2 e (by omega)
      rw [show i + (e + 1) = i + 1 + e by omega]; exact this
theorem shape_lp {j k t : Nat} {A : Nat → Nat} {src : QS} (hj : j < 15) (ht : t ≤ 60) (hk : k + shn j ≤ t) (hA : ∀ i, k + i < t → src 0 (k + i) = nI (A i)) (hA2 : ∀ i, A i < 128) : ∀ d i N, i + d = shn j → d < N → qfix qf_Src_hasShape_F17 N (nI k, j, nI i, src) = some (if fitD j A i d then 1 else 0) := by
  have hn := jn hj
  intro d
  induction d with
  | zero =>
    intro i N hi hN
    obtain ⟨N, rfl⟩ : ∃ M, N = M + 1 := ⟨N - 1, by omega⟩
    show qf_Src_hasShape_B17 (qfix qf_Src_hasShape_F17 N) (nI k) j (nI i) src = _
    unfold qf_Src_hasShape_B17
    rw [jl hj, Option.bind_some, if_pos (nI_le (by omega) (by omega))]
    rfl
  | succ d ih =>
    intro i N hi hN
    obtain ⟨N, rfl⟩ : ∃ M, N = M + 1 := ⟨N - 1, by omega⟩
    show qf_Src_hasShape_B17 (qfix qf_Src_hasShape_F17 N) (nI k) j (nI i) src = some (if (fitsB (shc j i) (A i) && fitD j A (i + 1) d) = true then 1 else 0)
    unfold qf_Src_hasShape_B17
    rw [jl hj, Option.bind_some, if_neg (nI_ge (show i < shn j by omega) (by omega)), jc hj (show i < shn j by omega), Option.bind_some, nI_add, ck (show k + i < 60 by omega) (by decide), nI_clamp (show k + i < 2 ^ 31 by omega), hA i (by omega), fits_cl (jm hj (show i < 6 by omega)) (hA2 i), Option.bind_some, nI_1, ih (i + 1) N (by omega) (by omega)]
    cases fitsB (shc j i) (A i)
    · rw [if_neg (show ¬ false = true by decide), if_pos rfl, Bool.false_and]; rfl
    · rw [if_pos rfl, if_neg (show ¬ (1 : Int32) = 0 by decide), Bool.true_and]
theorem has_shape {j k t : Nat} {A : Nat → Nat} {src : QS} (hj : j < 15) (ht : t ≤ 60) (hk : k < t) (hs1 : src 1 0 = nI t) (hA : ∀ i, k + i < t → src 0 (k + i) = nI (A i)) (hA2 : ∀ i, A i < 128) (hA3 : ∀ i, t ≤ k + i → A i = 32) : qf_Src_hasShape (nI k) j src = some (if fitD j A 0 (shn j) then 1 else 0) := by
  have hn := jn hj
  unfold qf_Src_hasShape
  rw [jl hj, Option.bind_some, nI_add, hs1]
  by_cases h : k + shn j ≤ t
  · rw [if_pos (nI_le h (by omega))]
    exact shape_lp hj ht h hA hA2 (shn j) 0 qN (by omega) (by have := hn.1; unfold qN; omega)
  · rw [if_neg (nI_ge (by omega) (by have := hn.1; omega))]
    have hf : fitD j A 0 (shn j) = false := by
      cases hh : fitD j A 0 (shn j) with
      | false => rfl
      | true =>
        exfalso
        have h1 := fitD_at _ 0 hh (shn j - 1) (by have := hn.2.1; omega)
        rw [Nat.zero_add] at h1
        rw [hn.2.2, hA3 (shn j - 1) (by omega)] at h1
        revert h1; decide
    rw [hf]; rfl
def numQ (x : Nat) : Nat := if x < 120 then (if x < 97 then x - 48 else x - 97) else x - 120
theorem number_of {x : Nat} (h : 48 ≤ x) (hx : x < 128) : qf_Src_numberOf (nI x) = some (nI (numQ x)) := by
  unfold qf_Src_numberOf numQ
  by_cases h1 : x < 120
  · rw [if_pos h1, if_pos (show nI x < 120 from nI_lt (b := 120) h1 (by decide))]
    by_cases h2 : x < 97
    · rw [if_pos h2, if_pos (show nI x < 97 from nI_lt (b := 97) h2 (by decide))]
      exact congrArg some (pk_sub (b := 48) h)
    · rw [if_neg h2, if_neg (show ¬ nI x < 97 from nI_nlt (b := 97) (by omega) (by omega))]
      exact congrArg some (pk_sub (b := 97) (by omega))
  · rw [if_neg h1, if_neg (show ¬ nI x < 120 from nI_nlt (b := 120) (by omega) (by omega))]
    exact congrArg some (pk_sub (b := 120) (by omega))
def opD (j : Nat) (A : Nat → Nat) (i u acc : Nat) : Nat → Nat
  | 0 => acc
  | d + 1 => if shc j i = 48 then opD j A (i + 1) u (acc + 256 * numQ (A i)) d else if shc j i = 82 ∨ shc j i = 73 then opD j A (i + 1) (u * 4) (acc + u * numQ (A i)) d else opD j A (i + 1) u acc d
theorem fits48 {m x : Nat} (h : fitsB m x = true) (hm : m = 48 ∨ m = 82 ∨ m = 73) : 48 ≤ x := by
  unfold fitsB at h
  rcases hm with rfl | rfl | rfl
  · rw [if_neg (by decide), if_neg (by decide), if_pos rfl] at h; exact (of_decide_eq_true h).1
  · rw [if_pos rfl] at h; have := (of_decide_eq_true h).1; omega
  · rw [if_neg (by decide), if_pos rfl] at h; have := (of_decide_eq_true h).1; omega
theorem oper_lp {j k t : Nat} {A : Nat → Nat} {src : QS} (hj : j < 15) (ht : t ≤ 60) (hk : k + shn j ≤ t) (hA : ∀ i, k + i < t → src 0 (k + i) = nI (A i)) (hA2 : ∀ i, A i < 128) : ∀ d i N u acc, i + d = shn j → d < N → fitD j A i d = true → qfix qf_Src_operandsAt_F9 N (nI k, j, nI acc, nI u, nI i, src) = some (nI (opD j A i u acc d)) := by
  have hn := jn hj
  intro d
  induction d with
  | zero =>
    intro i N u acc hi hN _
    obtain ⟨N, rfl⟩ : ∃ M, N = M + 1 := ⟨N - 1, by omega⟩
    show qf_Src_operandsAt_B9 (qfix qf_Src_operandsAt_F9 N) (nI k) j (nI acc) (nI u) (nI i) src = _
    unfold qf_Src_operandsAt_B9
    rw [jl hj, Option.bind_some, if_pos (nI_le (by omega) (by omega))]
    rfl
  | succ d ih =>
    intro i N u acc hi hN hf
    obtain ⟨N, rfl⟩ : ∃ M, N = M + 1 := ⟨N - 1, by omega⟩
    have hf : (fitsB (shc j i) (A i) && fitD j A (i + 1) d) = true := hf
    rw [Bool.and_eq_true] at hf
    have hm := jm hj (show i < 6 by omega)
    show qf_Src_operandsAt_B9 (qfix qf_Src_operandsAt_F9 N) (nI k) j (nI acc) (nI u) (nI i) src = some (nI (if shc j i = 48 then opD j A (i + 1) u (acc + 256 * numQ (A i)) d else if shc j i = 82 ∨ shc j i = 73 then opD j A (i + 1) (u * 4) (acc + u * numQ (A i)) d else opD j A (i + 1) u acc d))
    unfold qf_Src_operandsAt_B9 qf_Src_operandsAt_j69
    have hki : (k + i) < 60 := by omega
    rw [jl hj, Option.bind_some, if_neg (nI_ge (show i < shn j by omega) (by omega)), jc hj (show i < shn j by omega), Option.bind_some, nI_add, ck hki (by decide), ck hki (by decide), nI_clamp (show k + i < 2 ^ 31 by omega), hA i (by omega)]
    by_cases h1 : shc j i = 48
    · rw [if_pos h1, if_pos (by rw [h1]; rfl), number_of (fits48 hf.1 (Or.inl h1)) (hA2 i), Option.bind_some, n256m, nI_add, nI_1]
      exact ih (i + 1) N u _ (by omega) (by omega) hf.2
    · rw [if_neg h1, if_neg (show ¬ nI (shc j i) = 48 from nNe 48 rfl (by omega) (by decide) h1)]
      by_cases h2 : shc j i = 82
      · rw [if_pos (Or.inl h2), if_pos (by rw [h2]; rfl), number_of (fits48 hf.1 (Or.inr (Or.inl h2))) (hA2 i), Option.bind_some, pk_mul, nI_add, nI_1, show nI u * 4 = nI (u * 4) from pk_mul u 4]
        exact ih (i + 1) N (u * 4) _ (by omega) (by omega) hf.2
      · rw [if_neg (show ¬ nI (shc j i) = 82 from nNe 82 rfl (by omega) (by decide) h2)]
        by_cases h3 : shc j i = 73
        · rw [if_pos (Or.inr h3), if_pos (by rw [h3]; rfl), number_of (fits48 hf.1 (Or.inr (Or.inr h3))) (hA2 i), Option.bind_some, pk_mul, nI_add, nI_1, show nI u * 4 = nI (u * 4) from pk_mul u 4]
          exact ih (i + 1) N (u * 4) _ (by omega) (by omega) hf.2
        · rw [if_neg (show ¬ nI (shc j i) = 73 from nNe 73 rfl (by omega) (by decide) h3), if_neg (fun h => h.elim h2 h3), nI_1]
          exact ih (i + 1) N u acc (by omega) (by omega) hf.2
theorem fit_in {j k t : Nat} {A : Nat → Nat} (hj : j < 15) (hA3 : ∀ i, t ≤ k + i → A i = 32) (h : fitD j A 0 (shn j) = true) : k + shn j ≤ t := by
  have hn := jn hj
  by_cases h9 : k + shn j ≤ t
  · exact h9
  · exfalso
    have h1 := fitD_at _ 0 h (shn j - 1) (by have := hn.2.1; omega)
    rw [Nat.zero_add] at h1
    rw [hn.2.2, hA3 (shn j - 1) (by omega)] at h1
    revert h1; decide
theorem at_lp {k t : Nat} {A : Nat → Nat} {src : QS} (ht : t ≤ 60) (hk : k < t) (hs1 : src 1 0 = nI t) (hA : ∀ i, k + i < t → src 0 (k + i) = nI (A i)) (hA2 : ∀ i, A i < 128) (hA3 : ∀ i, t ≤ k + i → A i = 32) : ∀ d j N, j + d = 15 → d < N → (∃ i, j ≤ i ∧ i < 15 ∧ fitD i A 0 (shn i) = true ∧ qfix qf_Src_translateAt_F37 N (nI k, nI j, src) = (qf_Src_emit (nI (i + opD i A 0 16 0 (shn i))) src).bind (fun q6 => some (nI (shn i), q6))) ∨ ((∀ i, j ≤ i → i < 15 → fitD i A 0 (shn i) = false) ∧ qfix qf_Src_translateAt_F37 N (nI k, nI j, src) = some (0, src)) := by
  intro d
  induction d with
  | zero =>
    intro j N hi hN
    obtain ⟨N, rfl⟩ : ∃ M, N = M + 1 := ⟨N - 1, by omega⟩
    refine Or.inr ⟨fun i h1 h2 => by omega, ?_⟩
    show qf_Src_translateAt_B37 (qfix qf_Src_translateAt_F37 N) (nI k) (nI j) src = _
    unfold qf_Src_translateAt_B37
    rw [if_pos (show (15 : Int32) ≤ nI j from nI_le (a := 15) (by omega) (by omega))]
  | succ d ih =>
    intro j N hi hN
    obtain ⟨N, rfl⟩ : ∃ M, N = M + 1 := ⟨N - 1, by omega⟩
    have hj : j < 15 := by omega
    have hn := jn hj
    have e : qfix qf_Src_translateAt_F37 (N + 1) (nI k, nI j, src) = if fitD j A 0 (shn j) then (qf_Src_emit (nI (j + opD j A 0 16 0 (shn j))) src).bind (fun q6 => some (nI (shn j), q6)) else qfix qf_Src_translateAt_F37 N (nI k, nI (j + 1), src) := by
      show qf_Src_translateAt_B37 (qfix qf_Src_translateAt_F37 N) (nI k) (nI j) src = _
      unfold qf_Src_translateAt_B37
      rw [if_neg (show ¬ (15 : Int32) ≤ nI j from nI_ge (a := j) (b := 15) hj (by decide)), js hj, Option.bind_some, has_shape hj ht hk hs1 hA hA2 hA3, Option.bind_some]
      cases hf : fitD j A 0 (shn j) with
      | false => rw [if_neg (show ¬ false = true by decide), if_pos rfl, if_neg (show ¬ false = true by decide), nI_1]
      | true =>
        have ho : qf_Src_operandsAt (nI k) j src = some (nI (opD j A 0 16 0 (shn j))) := by
          have hh := oper_lp hj ht (fit_in hj hA3 hf) hA hA2 (shn j) 0 qN 16 0 (by omega) (by have := hn.1; unfold qN; omega) hf
          unfold qf_Src_operandsAt
          exact hh
        rw [if_pos rfl, if_neg (show ¬ (1 : Int32) = 0 by decide), if_pos rfl, ho, Option.bind_some, nI_add]
        congr 1
        funext q6
        rw [jl hj, Option.bind_some]
    cases hf : fitD j A 0 (shn j) with
    | true =>
      refine Or.inl ⟨j, Nat.le_refl _, hj, hf, ?_⟩
      rw [e, hf, if_pos rfl]
    | false =>
      rw [hf, if_neg (show ¬ false = true by decide)] at e
      rcases ih (j + 1) N (by omega) (by omega) with ⟨i, h1, h2, h3, h4⟩ | ⟨h1, h2⟩
      · exact Or.inl ⟨i, by omega, h2, h3, by rw [e]; exact h4⟩
      · refine Or.inr ⟨fun i a b => ?_, by rw [e]; exact h2⟩
        by_cases ei : i = j
        · rw [ei]; exact hf
        · exact h1 i (by omega) b
