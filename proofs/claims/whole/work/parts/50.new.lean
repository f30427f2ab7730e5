/-! ===== the pure part: the instructions under way ===== -/
def REnt (cnt : Nat) (src r : QS) (j : Nat) : Prop := ∃ kd p q x, VI cnt kd p q x ∧ src 2 j = nI (kd + 16 * p + 64 * q + 256 * x) ∧ r 3 j = nI kd ∧ r 4 j = nI p ∧ r 5 j = nI q ∧ r 6 j = nI x
def ROpn (src r : QS) (j : Nat) : Prop := ∃ p, p < 4 ∧ src 2 j = nI (15 + 16 * p) ∧ r 3 j = nI 15 ∧ r 4 j = nI p ∧ r 5 j = nI 0 ∧ r 6 j = nI 0
def RNew (cnt dep : Nat) (src r : QS) : Prop := src 3 0 = nI cnt ∧ r 7 0 = nI cnt ∧ src 5 0 = nI dep ∧ r 9 0 = nI dep ∧ dep ≤ 6 ∧ (∀ j, j < cnt → REnt cnt src r j) ∧ ∃ o : Nat → Nat, (∀ d, d < dep → o d < cnt ∧ src 4 d = nI (o d) ∧ r 8 d = nI (o d) ∧ ROpn src r (o d)) ∧ ∀ d e, d < e → e < dep → o d < o e
theorem VI_up {a b kd p q x : Nat} (hab : a ≤ b) (h : VI a kd p q x) : VI b kd p q x := by
  unfold VI at h ⊢
  omega
def emS (src : QS) (cnt : Nat) (v : Int32) : QS := qp (qp src 3 (fun _ => nI (cnt + 1))) 2 (upd (src 2) cnt v)
theorem emit_cl {src : QS} {cnt : Nat} (hc : cnt < 60) (h : src 3 0 = nI cnt) (v : Int32) : qf_Src_emit v src = some (emS src cnt v) := by
  unfold qf_Src_emit emS
  rw [h, ck hc (by decide), nI_clamp (by omega), nI_1]
theorem emS_2 (src : QS) (cnt : Nat) (v : Int32) : emS src cnt v 2 = upd (src 2) cnt v := qp_eq _ _ _
theorem emS_3 (src : QS) (cnt : Nat) (v : Int32) : emS src cnt v 3 = fun _ => nI (cnt + 1) := by
  unfold emS; rw [qp_ne _ _ (by decide), qp_eq]
theorem emS_g (src : QS) (cnt : Nat) (v : Int32) {g : Nat} (h2 : g ≠ 2) (h3 : g ≠ 3) : emS src cnt v g = src g := by
  unfold emS; rw [qp_ne _ _ h2, qp_ne _ _ h3]
theorem addS_7 (r : QS) (cnt : Nat) (kd p q x : Int32) : addS r cnt kd p q x 7 = fun _ => nI (cnt + 1) := by
  unfold addS; rw [qp_ne _ _ (by decide), qp_ne _ _ (by decide), qp_ne _ _ (by decide), qp_ne _ _ (by decide), qp_eq]
theorem addS_3 (r : QS) (cnt : Nat) (kd p q x : Int32) : addS r cnt kd p q x 3 = upd (r 3) cnt kd := by
  unfold addS; rw [qp_ne _ _ (by decide), qp_ne _ _ (by decide), qp_ne _ _ (by decide), qp_eq]
theorem addS_4 (r : QS) (cnt : Nat) (kd p q x : Int32) : addS r cnt kd p q x 4 = upd (r 4) cnt p := by
  unfold addS; rw [qp_ne _ _ (by decide), qp_ne _ _ (by decide), qp_eq]
theorem addS_5 (r : QS) (cnt : Nat) (kd p q x : Int32) : addS r cnt kd p q x 5 = upd (r 5) cnt q := by
  unfold addS; rw [qp_ne _ _ (by decide), qp_eq]
theorem addS_6 (r : QS) (cnt : Nat) (kd p q x : Int32) : addS r cnt kd p q x 6 = upd (r 6) cnt x := by
  unfold addS; rw [qp_eq]
theorem addS_g (r : QS) (cnt : Nat) (kd p q x : Int32) {g : Nat} (h : g < 3 ∨ 8 ≤ g) : addS r cnt kd p q x g = r g := by
  unfold addS; rw [qp_ne _ _ (by omega), qp_ne _ _ (by omega), qp_ne _ _ (by omega), qp_ne _ _ (by omega), qp_ne _ _ (by omega)]
theorem REnt_new {src r : QS} {cnt kd p q x : Nat} (hv : VI (cnt + 1) kd p q x) : REnt (cnt + 1) (emS src cnt (nI (kd + 16 * p + 64 * q + 256 * x))) (addS r cnt (nI kd) (nI p) (nI q) (nI x)) cnt :=
  ⟨kd, p, q, x, hv, by rw [emS_2, up_eq], by rw [addS_3, up_eq], by rw [addS_4, up_eq], by rw [addS_5, up_eq], by rw [addS_6, up_eq]⟩
theorem REnt_old {src r : QS} {cnt j : Nat} {v kd p q x : Int32} (hj : j < cnt) (h : REnt cnt src r j) : REnt (cnt + 1) (emS src cnt v) (addS r cnt kd p q x) j := by
  obtain ⟨a, b, c, d, h1, h2, h3, h4, h5, h6⟩ := h
  exact ⟨a, b, c, d, VI_up (by omega) h1, by rw [emS_2, up_ne _ _ (by omega)]; exact h2, by rw [addS_3, up_ne _ _ (by omega)]; exact h3, by rw [addS_4, up_ne _ _ (by omega)]; exact h4, by rw [addS_5, up_ne _ _ (by omega)]; exact h5, by rw [addS_6, up_ne _ _ (by omega)]; exact h6⟩
theorem ROpn_old {src r : QS} {cnt j : Nat} {v kd p q x : Int32} (hj : j < cnt) (h : ROpn src r j) : ROpn (emS src cnt v) (addS r cnt kd p q x) j := by
  obtain ⟨a, h1, h2, h3, h4, h5, h6⟩ := h
  exact ⟨a, h1, by rw [emS_2, up_ne _ _ (by omega)]; exact h2, by rw [addS_3, up_ne _ _ (by omega)]; exact h3, by rw [addS_4, up_ne _ _ (by omega)]; exact h4, by rw [addS_5, up_ne _ _ (by omega)]; exact h5, by rw [addS_6, up_ne _ _ (by omega)]; exact h6⟩
theorem RNew_add {src r : QS} {cnt dep kd p q x : Nat} (hv : VI (cnt + 1) kd p q x) (h : RNew cnt dep src r) : RNew (cnt + 1) dep (emS src cnt (nI (kd + 16 * p + 64 * q + 256 * x))) (addS r cnt (nI kd) (nI p) (nI q) (nI x)) := by
  obtain ⟨h1, h2, h3, h4, h5, h6, o, h7, h8⟩ := h
  refine ⟨by rw [emS_3], by rw [addS_7], by rw [emS_g _ _ _ (by decide) (by decide)]; exact h3, by rw [addS_g _ _ _ _ _ _ (by omega)]; exact h4, h5, fun j hj => ?_, o, fun d hd => ?_, h8⟩
  · by_cases e : j = cnt
    · rw [e]; exact REnt_new hv
    · exact REnt_old (by omega) (h6 j (by omega))
  · obtain ⟨a, b, c, e⟩ := h7 d hd
    exact ⟨by omega, by rw [emS_g _ _ _ (by decide) (by decide)]; exact b, by rw [addS_g _ _ _ _ _ _ (by omega)]; exact c, ROpn_old a e⟩
theorem RTx_to {t : Nat} {src r src' r' : QS} (h : RTx t src r) (h0 : src' 0 = src 0) (h1 : src' 1 = src 1) (h2 : r' 1 = r 1) (h3 : r' 2 = r 2) : RTx t src' r' := by
  unfold RTx at h ⊢
  rw [h0, h1, h2, h3]; exact h
/-- what one item does -/
def Item (t k cnt dep : Nat) (src r : QS) : Prop :=
  (∃ n cnt' dep' src' r', 1 ≤ n ∧ n ≤ 6 ∧ k + n ≤ t ∧ 3 * cnt' + dep' ≤ 2 * (k + n) ∧ qf_Src_translateAt (nI k) src = some (nI n, src') ∧ (∀ K, qf_Ref_read_B12 K (nI k) r = K (nI (k + n), r')) ∧ RTx t src' r' ∧ RNew cnt' dep' src' r' ∧ ∀ g, (g < 3 ∨ 10 ≤ g) → r' g = r g) ∨ (qf_Src_translateAt (nI k) src = some (0, src) ∧ ∀ K, qf_Ref_read_B12 K (nI k) r = some (0, r))
theorem item_stm {t k cnt dep : Nat} {src r : QS} (ht : t ≤ 60) (hk : k < t) (h : RTx t src r) (hN : RNew cnt dep src r) (hb : 3 * cnt + dep ≤ 2 * k) (x0 : ¬ chA t src k 0 = 40) (x1 : ¬ chA t src k 0 = 41) : Item t k cnt dep src r := by
  have e0 : src 0 k = nI (chA t src k 0) := chA_cl (i := 0) h hk
  have l0 := chA_lt (k := k) (i := 0) h
  have hT : qf_Src_translateAt (nI k) src = qfix qf_Src_translateAt_F37 qN (nI k, nI 0, src) := by
    unfold qf_Src_translateAt
    rw [ck (show k < 60 by omega) (by decide), ck (show k < 60 by omega) (by decide), nI_clamp (by omega), e0, if_neg (show ¬ nI (chA t src k 0) = 40 from nNe 40 rfl (by omega) (by decide) x0), if_neg (show ¬ nI (chA t src k 0) = 41 from nNe 41 rfl (by omega) (by decide) x1), nI_0]
  rcases at_lp (A := chA t src k) ht hk h.1 (fun i hi => chA_cl h hi) (fun i => chA_lt h) (fun i hi => chA_out hi) 15 0 qN (by omega) (by unfold qN; omega) with ⟨j, -, hj, hf, e⟩ | ⟨hn, e⟩
  · left
    have hin := fit_in hj (fun i hi => chA_out hi) hf
    have hnn := jn hj
    have hc : cnt < 40 := by omega
    obtain ⟨p, q, x, ho, hv, hK⟩ : ∃ p q x, opD j (chA t src k) 0 16 0 (shn j) = 16 * p + 64 * q + 256 * x ∧ VI (cnt + 1) j p q x ∧ ∀ K, qf_Ref_read_B12 K (nI k) r = K (nI (k + shn j), addS r cnt (nI j) (nI p) (nI q) (nI x)) := by
      have hj' : j = 0 ∨ j = 1 ∨ j = 2 ∨ j = 3 ∨ j = 4 ∨ j = 5 ∨ j = 6 ∨ j = 7 ∨ j = 8 ∨ j = 9 ∨ j = 10 ∨ j = 11 ∨ j = 12 ∨ j = 13 ∨ j = 14 := by omega
      rcases hj' with rfl | rfl | rfl | rfl | rfl | rfl | rfl | rfl | rfl | rfl | rfl | rfl | rfl | rfl | rfl
      · exact sx0 ht hk h hc hN.2.1 hf
      · exact sx1 ht hk h hc hN.2.1 hf
      · exact sx2 ht hk h hc hN.2.1 hf
      · exact sx3 ht hk h hc hN.2.1 hf
      · exact sx4 ht hk h hc hN.2.1 hf
      · exact sx5 ht hk h hc hN.2.1 hf
      · exact sx6 ht hk h hc hN.2.1 hf
      · exact sx7 ht hk h hc hN.2.1 hf
      · exact sx8 ht hk h hc hN.2.1 hf
      · exact sx9 ht hk h hc hN.2.1 hf
      · exact sx10 ht hk h hc hN.2.1 hf
      · exact sx11 ht hk h hc hN.2.1 hf
      · exact sx12 ht hk h hc hN.2.1 hf
      · exact sx13 ht hk h hc hN.2.1 hf
      · exact sx14 ht hk h hc hN.2.1 hf
    refine ⟨shn j, cnt + 1, dep, emS src cnt (nI (j + 16 * p + 64 * q + 256 * x)), addS r cnt (nI j) (nI p) (nI q) (nI x), by omega, hnn.1, hin, by omega, ?_, hK, RTx_to h (emS_g _ _ _ (by decide) (by decide)) (emS_g _ _ _ (by decide) (by decide)) (addS_g _ _ _ _ _ _ (by omega)) (addS_g _ _ _ _ _ _ (by omega)), RNew_add hv hN, fun g hg => addS_g _ _ _ _ _ _ (by omega)⟩
    rw [hT, e, ho, emit_cl (show cnt < 60 by omega) hN.1, Option.bind_some, show j + (16 * p + 64 * q + 256 * x) = j + 16 * p + 64 * q + 256 * x by omega]
  · right
    exact ⟨by rw [hT, e], fail_ref ht hk h x0 x1 (fun i hi => hn i (Nat.zero_le _) hi)⟩
