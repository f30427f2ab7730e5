/-! QuietSweep$Source.append(C)Z -/
def qf_Src_append (a1 : Int32) (s0 : QS) : Option (Int32 × QS) := (if 60 ≤ (s0 1 0) then (some (0, s0)) else (if a1 < 32 then (some (0, s0)) else (if a1 ≤ 126 then (if ((s0 1 0) < 0 ∨ 60 ≤ Int32.toNatClampNeg (s0 1 0)) then none else (some (1, (qp (qp s0 1 (fun _ => ((s0 1 0) + 1))) 0 (upd (s0 0) (Int32.toNatClampNeg (s0 1 0)) (vp_nar .char a1)))))) else (some (0, s0)))))
set_option maxHeartbeats 4000000 in
set_option maxRecDepth 100000 in
theorem qm_Src_append (l : Launch) (dC : Nat → ClassId) (dI : Nat → Nat → Nat) (cI cC cB cM : ClassId) (h0 : Nat) (d0 : Nat → Nat) (s0 : QS) (a1 : Int32) (sz : Nat) (o : Int32 × QS) (h : qf_Src_append a1 s0 = some o) : Met l qy_Src_append (ql_Src_append :: qG) ({ frames := 0, cells := 0, slots := 0, locals := 0 } : Room) (qPc dC dI cI cC cB cM [.ref h0, .int a1] sz [(h0, .inr (5, [.ref (d0 0), .int (s0 1 0), .ref (d0 2), .int (s0 3 0), .ref (d0 4), .int (s0 5 0)])), (d0 0, .inl (cC, 60, .inl (s0 0))), (d0 2, .inl (cI, 60, .inl (s0 2))), (d0 4, .inl (cI, 6, .inl (s0 4)))]) (va_Qi (fun r (_ : Unit) => r = o.1) (fun _ t => va_P (dC, dI) qCl [(h0, .inr (5, [.ref (d0 0), .int (o.2 1 0), .ref (d0 2), .int (o.2 3 0), .ref (d0 4), .int (o.2 5 0)])), (d0 0, .inl (cC, 60, .inl (o.2 0))), (d0 2, .inl (cI, 60, .inl (o.2 2))), (d0 4, .inl (cI, 6, .inl (o.2 4)))] t.heap ∧ va_D (va_A [(h0, .inr (5, [.ref (d0 0), .int (s0 1 0), .ref (d0 2), .int (s0 3 0), .ref (d0 4), .int (s0 5 0)])), (d0 0, .inl (cC, 60, .inl (s0 0))), (d0 2, .inl (cI, 60, .inl (s0 2))), (d0 4, .inl (cI, 6, .inl (s0 4)))] sz) [(h0, .inr (5, [.ref (d0 0), .int (o.2 1 0), .ref (d0 2), .int (o.2 3 0), .ref (d0 4), .int (o.2 5 0)])), (d0 0, .inl (cC, 60, .inl (o.2 0))), (d0 2, .inl (cI, 60, .inl (o.2 2))), (d0 4, .inl (cI, 6, .inl (o.2 4)))]) (va_A [(h0, .inr (5, [.ref (d0 0), .int (s0 1 0), .ref (d0 2), .int (s0 3 0), .ref (d0 4), .int (s0 5 0)])), (d0 0, .inl (cC, 60, .inl (s0 0))), (d0 2, .inl (cI, 60, .inl (s0 2))), (d0 4, .inl (cI, 6, .inl (s0 4)))] sz)) 0 0 (va_A [(h0, .inr (5, [.ref (d0 0), .int (s0 1 0), .ref (d0 2), .int (s0 3 0), .ref (d0 4), .int (s0 5 0)])), (d0 0, .inl (cC, 60, .inl (s0 0))), (d0 2, .inl (cI, 60, .inl (s0 2))), (d0 4, .inl (cI, 6, .inl (s0 4)))] sz) := by
  refine Met.ofW (cc := qc_Src_append) (maxL := 2) (ret := (some .boolean)) (by decide) rfl ?_
  intro p e s m args below meth c s₁ B hml hv
  obtain ⟨rfl, hsz, hP, hK, hD0⟩ := hv
  have hx := B.exec
  have hb := B.bytes
  have hr := B.returns
  have hts0 := atoms_spec (ws := ql_Src_append :: qG) B.pre
  have hts := fun (w : Cond) (hw : w ∈ qG) => hts0 w (List.mem_cons_of_mem _ hw)
  have hown : s.vm.findClass "QuietSweep$Source" = some m.cls := findClass_of_methodNamed B.named
  have hlocks := B.notSynchronized
  subst hsz
  have hD := hD0.self (sz := s.heap.size)
  generalize hAe : va_A [(h0, .inr (5, [.ref (d0 0), .int (s0 1 0), .ref (d0 2), .int (s0 3 0), .ref (d0 4), .int (s0 5 0)])), (d0 0, .inl (cC, 60, .inl (s0 0))), (d0 2, .inl (cI, 60, .inl (s0 2))), (d0 4, .inl (cI, 6, .inl (s0 4)))] s.heap.size = A at hD ⊢
  have hA : ∀ q : Nat, s.heap.size ≤ q → A q := fun q h => by rw [← hAe]; exact Or.inr h
  have hS : va_S A s.heap s.heap [] := va_S.rf
  have hl := lv_entry ([.ref h0, .int a1]) (n := 2) (Nat.le_of_ble_eq_true rfl)
  rw [lg_entry_eq]
  generalize (lg_sl ([.ref h0, .int a1]) ++ List.replicate (2 - (lg_sl ([.ref h0, .int a1])).length) Slot.unset).toArray = ls at hl ⊢
  have hl : lv_has ls 2 [(0, .ref h0), (1, .int a1)] := hl
  unfold qf_Src_append at h
  refine lv_aload_n hx hb qd_Src_append_0 rfl (lv_at hl 0 rfl) ?_
  refine va_get (D := (dC, dI)) (ci := 5) (v := .int (s0 1 0)) (C := "QuietSweep$Source") (T := qT_Src) (N := 6) hx hb hts qi_Src hown hK.1 hP 0 rfl rfl 1 (by decide) (hts _ qw_31) (fun _ h9 => h9) rfl qd_Src_append_1 ?_
  refine lv_bipush (v := 60) hx hb qd_Src_append_4 (by decide) ?_
  refine lv_icmp_ge hx hb qd_Src_append_6 (tgt := 21) (by decide) (fun hc => ?_) (fun hc => ?_)
  · have h := qq_t hc h
    refine lv_iconst (v := 0) hx hb qd_Src_append_21 rfl ?_
    obtain rfl := Option.some.inj h
    exact W.zret (v := 0) hx hb hr rfl (fun t ht hW => ⟨⟨0, (), rfl, rfl, by rw [ht]; exact hP, hD⟩, hS.F ht⟩) hS.2.2 qd_Src_append_22
  · have h := qq_f hc h
    refine lv_iload_n hx hb qd_Src_append_9 rfl (lv_at hl 1 rfl) ?_
    refine lv_bipush (v := 32) hx hb qd_Src_append_10 (by decide) ?_
    refine lv_icmp_lt hx hb qd_Src_append_12 (tgt := 21) (by decide) (fun hc => ?_) (fun hc => ?_)
    · have h := qq_t hc h
      refine lv_iconst (v := 0) hx hb qd_Src_append_21 rfl ?_
      obtain rfl := Option.some.inj h
      exact W.zret (v := 0) hx hb hr rfl (fun t ht hW => ⟨⟨0, (), rfl, rfl, by rw [ht]; exact hP, hD⟩, hS.F ht⟩) hS.2.2 qd_Src_append_22
    · have h := qq_f hc h
      refine lv_iload_n hx hb qd_Src_append_15 rfl (lv_at hl 1 rfl) ?_
      refine lv_bipush (v := 126) hx hb qd_Src_append_16 (by decide) ?_
      refine lv_icmp_le hx hb qd_Src_append_18 (tgt := 23) (by decide) (fun hc => ?_) (fun hc => ?_)
      · have h := qq_t hc h
        refine lv_aload_n hx hb qd_Src_append_23 rfl (lv_at hl 0 rfl) ?_
        refine va_get (D := (dC, dI)) (ci := 5) (v := .ref (d0 0)) (C := "QuietSweep$Source") (T := qT_Src) (N := 6) hx hb hts qi_Src hown hK.1 hP 0 rfl rfl 0 (by decide) (hts _ qw_30) (fun _ h9 => h9) rfl qd_Src_append_24 ?_
        refine lv_aload_n hx hb qd_Src_append_27 rfl (lv_at hl 0 rfl) ?_
        refine va_get (D := (dC, dI)) (ci := 5) (v := .int (s0 1 0)) (C := "QuietSweep$Source") (T := qT_Src) (N := 6) hx hb hts qi_Src hown hK.1 hP 0 rfl rfl 1 (by decide) (hts _ qw_31) (fun _ h9 => h9) rfl qd_Src_append_28 ?_
        refine lv_iload_n hx hb qd_Src_append_31 rfl (lv_at hl 1 rfl) ?_
        obtain ⟨hb1, h⟩ := qq_n h
        refine va_cast hx hb hK.1 hP hD hS 1 1 rfl rfl hb1 qd_Src_append_32 (fun H locs hP hD hS => ?_)
        have hP : va_P (dC, dI) qCl [(h0, .inr (5, [.ref (d0 0), .int (s0 1 0), .ref (d0 2), .int (s0 3 0), .ref (d0 4), .int (s0 5 0)])), (d0 0, .inl (cC, 60, .inl (upd (s0 0) (Int32.toNatClampNeg (s0 1 0)) (vp_nar .char a1)))), (d0 2, .inl (cI, 60, .inl (s0 2))), (d0 4, .inl (cI, 6, .inl (s0 4)))] _ := hP
        have hD : va_D A [(h0, .inr (5, [.ref (d0 0), .int (s0 1 0), .ref (d0 2), .int (s0 3 0), .ref (d0 4), .int (s0 5 0)])), (d0 0, .inl (cC, 60, .inl (upd (s0 0) (Int32.toNatClampNeg (s0 1 0)) (vp_nar .char a1)))), (d0 2, .inl (cI, 60, .inl (s0 2))), (d0 4, .inl (cI, 6, .inl (s0 4)))] := hD
        refine lv_aload_n hx hb qd_Src_append_33 rfl (lv_at hl 0 rfl) ?_
        refine lv_dup hx hb qd_Src_append_34 rfl ?_
        refine va_get (D := (dC, dI)) (ci := 5) (v := .int (s0 1 0)) (C := "QuietSweep$Source") (T := qT_Src) (N := 6) hx hb hts qi_Src hown hK.1 hP 0 rfl rfl 1 (by decide) (hts _ qw_31) (fun _ h9 => h9) rfl qd_Src_append_35 ?_
        refine lv_iconst (v := 1) hx hb qd_Src_append_38 rfl ?_
        refine lv_iadd hx hb qd_Src_append_39 ?_
        refine va_put (D := (dC, dI)) (ci := 5) (v := .int ((s0 1 0) + 1)) (ty := .int) (C := "QuietSweep$Source") (T := qT_Src) (N := 6) hx hb hts qi_Src qt_Src qo_Src qn_Src hown hK.1 hP hD hS 0 rfl rfl 1 (by decide) (hts _ qw_31) (fun _ h9 => h9) rfl (qo_Src 1 (by decide)) rfl rfl (Nat.le_of_ble_eq_true rfl) qd_Src_append_40 (fun H locs hP hD hS => ?_)
        have hP : va_P (dC, dI) qCl [(h0, .inr (5, [.ref (d0 0), .int ((s0 1 0) + 1), .ref (d0 2), .int (s0 3 0), .ref (d0 4), .int (s0 5 0)])), (d0 0, .inl (cC, 60, .inl (upd (s0 0) (Int32.toNatClampNeg (s0 1 0)) (vp_nar .char a1)))), (d0 2, .inl (cI, 60, .inl (s0 2))), (d0 4, .inl (cI, 6, .inl (s0 4)))] _ := hP
        have hD : va_D A [(h0, .inr (5, [.ref (d0 0), .int ((s0 1 0) + 1), .ref (d0 2), .int (s0 3 0), .ref (d0 4), .int (s0 5 0)])), (d0 0, .inl (cC, 60, .inl (upd (s0 0) (Int32.toNatClampNeg (s0 1 0)) (vp_nar .char a1)))), (d0 2, .inl (cI, 60, .inl (s0 2))), (d0 4, .inl (cI, 6, .inl (s0 4)))] := hD
        refine lv_iconst (v := 1) hx hb qd_Src_append_43 rfl ?_
        obtain rfl := Option.some.inj h
        exact W.zret (v := 1) hx hb hr rfl (fun t ht hW => ⟨⟨1, (), rfl, rfl, by rw [ht]; exact hP, hD⟩, hS.F ht⟩) hS.2.2 qd_Src_append_44
      · have h := qq_f hc h
        refine lv_iconst (v := 0) hx hb qd_Src_append_21 rfl ?_
        obtain rfl := Option.some.inj h
        exact W.zret (v := 0) hx hb hr rfl (fun t ht hW => ⟨⟨0, (), rfl, rfl, by rw [ht]; exact hP, hD⟩, hS.F ht⟩) hS.2.2 qd_Src_append_22
/-! QuietSweep$Source.empty()V -/
def qf_Src_empty  (s0 : QS) : Option (QS) := (some (qp s0 1 (fun _ => 0)))
set_option maxHeartbeats 4000000 in
set_option maxRecDepth 100000 in
theorem qm_Src_empty (l : Launch) (dC : Nat → ClassId) (dI : Nat → Nat → Nat) (cI cC cB cM : ClassId) (h0 : Nat) (d0 : Nat → Nat) (s0 : QS)  (sz : Nat) (o : QS) (h : qf_Src_empty s0 = some o) : Met l qy_Src_empty (ql_Src_empty :: qG) ({ frames := 0, cells := 0, slots := 0, locals := 0 } : Room) (qPc dC dI cI cC cB cM [.ref h0] sz [(h0, .inr (5, [.ref (d0 0), .int (s0 1 0), .ref (d0 2), .int (s0 3 0), .ref (d0 4), .int (s0 5 0)])), (d0 0, .inl (cC, 60, .inl (s0 0))), (d0 2, .inl (cI, 60, .inl (s0 2))), (d0 4, .inl (cI, 6, .inl (s0 4)))]) (va_Qv (fun _ : Unit => True) (fun _ t => va_P (dC, dI) qCl [(h0, .inr (5, [.ref (d0 0), .int (o 1 0), .ref (d0 2), .int (o 3 0), .ref (d0 4), .int (o 5 0)])), (d0 0, .inl (cC, 60, .inl (o 0))), (d0 2, .inl (cI, 60, .inl (o 2))), (d0 4, .inl (cI, 6, .inl (o 4)))] t.heap ∧ va_D (va_A [(h0, .inr (5, [.ref (d0 0), .int (s0 1 0), .ref (d0 2), .int (s0 3 0), .ref (d0 4), .int (s0 5 0)])), (d0 0, .inl (cC, 60, .inl (s0 0))), (d0 2, .inl (cI, 60, .inl (s0 2))), (d0 4, .inl (cI, 6, .inl (s0 4)))] sz) [(h0, .inr (5, [.ref (d0 0), .int (o 1 0), .ref (d0 2), .int (o 3 0), .ref (d0 4), .int (o 5 0)])), (d0 0, .inl (cC, 60, .inl (o 0))), (d0 2, .inl (cI, 60, .inl (o 2))), (d0 4, .inl (cI, 6, .inl (o 4)))]) (va_A [(h0, .inr (5, [.ref (d0 0), .int (s0 1 0), .ref (d0 2), .int (s0 3 0), .ref (d0 4), .int (s0 5 0)])), (d0 0, .inl (cC, 60, .inl (s0 0))), (d0 2, .inl (cI, 60, .inl (s0 2))), (d0 4, .inl (cI, 6, .inl (s0 4)))] sz)) 0 0 (va_A [(h0, .inr (5, [.ref (d0 0), .int (s0 1 0), .ref (d0 2), .int (s0 3 0), .ref (d0 4), .int (s0 5 0)])), (d0 0, .inl (cC, 60, .inl (s0 0))), (d0 2, .inl (cI, 60, .inl (s0 2))), (d0 4, .inl (cI, 6, .inl (s0 4)))] sz) := by
  refine Met.ofW (cc := qc_Src_empty) (maxL := 1) (ret := none) (by decide) rfl ?_
  intro p e s m args below meth c s₁ B hml hv
  obtain ⟨rfl, hsz, hP, hK, hD0⟩ := hv
  have hx := B.exec
  have hb := B.bytes
  have hr := B.returns
  have hts0 := atoms_spec (ws := ql_Src_empty :: qG) B.pre
  have hts := fun (w : Cond) (hw : w ∈ qG) => hts0 w (List.mem_cons_of_mem _ hw)
  have hown : s.vm.findClass "QuietSweep$Source" = some m.cls := findClass_of_methodNamed B.named
  have hlocks := B.notSynchronized
  subst hsz
  have hD := hD0.self (sz := s.heap.size)
  generalize hAe : va_A [(h0, .inr (5, [.ref (d0 0), .int (s0 1 0), .ref (d0 2), .int (s0 3 0), .ref (d0 4), .int (s0 5 0)])), (d0 0, .inl (cC, 60, .inl (s0 0))), (d0 2, .inl (cI, 60, .inl (s0 2))), (d0 4, .inl (cI, 6, .inl (s0 4)))] s.heap.size = A at hD ⊢
  have hA : ∀ q : Nat, s.heap.size ≤ q → A q := fun q h => by rw [← hAe]; exact Or.inr h
  have hS : va_S A s.heap s.heap [] := va_S.rf
  have hl := lv_entry ([.ref h0]) (n := 1) (Nat.le_of_ble_eq_true rfl)
  rw [lg_entry_eq]
  generalize (lg_sl ([.ref h0]) ++ List.replicate (1 - (lg_sl ([.ref h0])).length) Slot.unset).toArray = ls at hl ⊢
  have hl : lv_has ls 1 [(0, .ref h0)] := hl
  unfold qf_Src_empty at h
  refine lv_aload_n hx hb qd_Src_empty_0 rfl (lv_at hl 0 rfl) ?_
  refine lv_iconst (v := 0) hx hb qd_Src_empty_1 rfl ?_
  refine va_put (D := (dC, dI)) (ci := 5) (v := .int 0) (ty := .int) (C := "QuietSweep$Source") (T := qT_Src) (N := 6) hx hb hts qi_Src qt_Src qo_Src qn_Src hown hK.1 hP hD hS 0 rfl rfl 1 (by decide) (hts _ qw_31) (fun _ h9 => h9) rfl (qo_Src 1 (by decide)) rfl rfl (Nat.le_of_ble_eq_true rfl) qd_Src_empty_2 (fun H locs hP hD hS => ?_)
  have hP : va_P (dC, dI) qCl [(h0, .inr (5, [.ref (d0 0), .int 0, .ref (d0 2), .int (s0 3 0), .ref (d0 4), .int (s0 5 0)])), (d0 0, .inl (cC, 60, .inl (s0 0))), (d0 2, .inl (cI, 60, .inl (s0 2))), (d0 4, .inl (cI, 6, .inl (s0 4)))] _ := hP
  have hD : va_D A [(h0, .inr (5, [.ref (d0 0), .int 0, .ref (d0 2), .int (s0 3 0), .ref (d0 4), .int (s0 5 0)])), (d0 0, .inl (cC, 60, .inl (s0 0))), (d0 2, .inl (cI, 60, .inl (s0 2))), (d0 4, .inl (cI, 6, .inl (s0 4)))] := hD
  obtain rfl := Option.some.inj h
  exact W.vret hx hb hr (fun t ht hW => ⟨⟨(), rfl, trivial, by rw [ht]; exact hP, hD⟩, hS.F ht⟩) hS.2.2 qd_Src_empty_5
/-! QuietSweep$Source.emit(I)V -/
def qf_Src_emit (a1 : Int32) (s0 : QS) : Option (QS) := (if ((s0 3 0) < 0 ∨ 60 ≤ Int32.toNatClampNeg (s0 3 0)) then none else (some (qp (qp s0 3 (fun _ => ((s0 3 0) + 1))) 2 (upd (s0 2) (Int32.toNatClampNeg (s0 3 0)) a1))))
set_option maxHeartbeats 4000000 in
set_option maxRecDepth 100000 in
theorem qm_Src_emit (l : Launch) (dC : Nat → ClassId) (dI : Nat → Nat → Nat) (cI cC cB cM : ClassId) (h0 : Nat) (d0 : Nat → Nat) (s0 : QS) (a1 : Int32) (sz : Nat) (o : QS) (h : qf_Src_emit a1 s0 = some o) : Met l qy_Src_emit (ql_Src_emit :: qG) ({ frames := 0, cells := 0, slots := 0, locals := 0 } : Room) (qPc dC dI cI cC cB cM [.ref h0, .int a1] sz [(h0, .inr (5, [.ref (d0 0), .int (s0 1 0), .ref (d0 2), .int (s0 3 0), .ref (d0 4), .int (s0 5 0)])), (d0 0, .inl (cC, 60, .inl (s0 0))), (d0 2, .inl (cI, 60, .inl (s0 2))), (d0 4, .inl (cI, 6, .inl (s0 4)))]) (va_Qv (fun _ : Unit => True) (fun _ t => va_P (dC, dI) qCl [(h0, .inr (5, [.ref (d0 0), .int (o 1 0), .ref (d0 2), .int (o 3 0), .ref (d0 4), .int (o 5 0)])), (d0 0, .inl (cC, 60, .inl (o 0))), (d0 2, .inl (cI, 60, .inl (o 2))), (d0 4, .inl (cI, 6, .inl (o 4)))] t.heap ∧ va_D (va_A [(h0, .inr (5, [.ref (d0 0), .int (s0 1 0), .ref (d0 2), .int (s0 3 0), .ref (d0 4), .int (s0 5 0)])), (d0 0, .inl (cC, 60, .inl (s0 0))), (d0 2, .inl (cI, 60, .inl (s0 2))), (d0 4, .inl (cI, 6, .inl (s0 4)))] sz) [(h0, .inr (5, [.ref (d0 0), .int (o 1 0), .ref (d0 2), .int (o 3 0), .ref (d0 4), .int (o 5 0)])), (d0 0, .inl (cC, 60, .inl (o 0))), (d0 2, .inl (cI, 60, .inl (o 2))), (d0 4, .inl (cI, 6, .inl (o 4)))]) (va_A [(h0, .inr (5, [.ref (d0 0), .int (s0 1 0), .ref (d0 2), .int (s0 3 0), .ref (d0 4), .int (s0 5 0)])), (d0 0, .inl (cC, 60, .inl (s0 0))), (d0 2, .inl (cI, 60, .inl (s0 2))), (d0 4, .inl (cI, 6, .inl (s0 4)))] sz)) 0 0 (va_A [(h0, .inr (5, [.ref (d0 0), .int (s0 1 0), .ref (d0 2), .int (s0 3 0), .ref (d0 4), .int (s0 5 0)])), (d0 0, .inl (cC, 60, .inl (s0 0))), (d0 2, .inl (cI, 60, .inl (s0 2))), (d0 4, .inl (cI, 6, .inl (s0 4)))] sz) := by
  refine Met.ofW (cc := qc_Src_emit) (maxL := 2) (ret := none) (by decide) rfl ?_
  intro p e s m args below meth c s₁ B hml hv
  obtain ⟨rfl, hsz, hP, hK, hD0⟩ := hv
  have hx := B.exec
  have hb := B.bytes
  have hr := B.returns
  have hts0 := atoms_spec (ws := ql_Src_emit :: qG) B.pre
  have hts := fun (w : Cond) (hw : w ∈ qG) => hts0 w (List.mem_cons_of_mem _ hw)
  have hown : s.vm.findClass "QuietSweep$Source" = some m.cls := findClass_of_methodNamed B.named
  have hlocks := B.notSynchronized
  subst hsz
  have hD := hD0.self (sz := s.heap.size)
  generalize hAe : va_A [(h0, .inr (5, [.ref (d0 0), .int (s0 1 0), .ref (d0 2), .int (s0 3 0), .ref (d0 4), .int (s0 5 0)])), (d0 0, .inl (cC, 60, .inl (s0 0))), (d0 2, .inl (cI, 60, .inl (s0 2))), (d0 4, .inl (cI, 6, .inl (s0 4)))] s.heap.size = A at hD ⊢
  have hA : ∀ q : Nat, s.heap.size ≤ q → A q := fun q h => by rw [← hAe]; exact Or.inr h
  have hS : va_S A s.heap s.heap [] := va_S.rf
  have hl := lv_entry ([.ref h0, .int a1]) (n := 2) (Nat.le_of_ble_eq_true rfl)
  rw [lg_entry_eq]
  generalize (lg_sl ([.ref h0, .int a1]) ++ List.replicate (2 - (lg_sl ([.ref h0, .int a1])).length) Slot.unset).toArray = ls at hl ⊢
  have hl : lv_has ls 2 [(0, .ref h0), (1, .int a1)] := hl
  unfold qf_Src_emit at h
  refine lv_aload_n hx hb qd_Src_emit_0 rfl (lv_at hl 0 rfl) ?_
  refine va_get (D := (dC, dI)) (ci := 5) (v := .ref (d0 2)) (C := "QuietSweep$Source") (T := qT_Src) (N := 6) hx hb hts qi_Src hown hK.1 hP 0 rfl rfl 2 (by decide) (hts _ qw_32) (fun _ h9 => h9) rfl qd_Src_emit_1 ?_
  refine lv_aload_n hx hb qd_Src_emit_4 rfl (lv_at hl 0 rfl) ?_
  refine va_get (D := (dC, dI)) (ci := 5) (v := .int (s0 3 0)) (C := "QuietSweep$Source") (T := qT_Src) (N := 6) hx hb hts qi_Src hown hK.1 hP 0 rfl rfl 3 (by decide) (hts _ qw_34) (fun _ h9 => h9) rfl qd_Src_emit_5 ?_
  refine lv_iload_n hx hb qd_Src_emit_8 rfl (lv_at hl 1 rfl) ?_
  obtain ⟨hb1, h⟩ := qq_n h
  refine va_iast hx hb hK.1 hP hD hS 2 0 rfl rfl hb1 qd_Src_emit_9 (fun H locs hP hD hS => ?_)
  have hP : va_P (dC, dI) qCl [(h0, .inr (5, [.ref (d0 0), .int (s0 1 0), .ref (d0 2), .int (s0 3 0), .ref (d0 4), .int (s0 5 0)])), (d0 0, .inl (cC, 60, .inl (s0 0))), (d0 2, .inl (cI, 60, .inl (upd (s0 2) (Int32.toNatClampNeg (s0 3 0)) a1))), (d0 4, .inl (cI, 6, .inl (s0 4)))] _ := hP
  have hD : va_D A [(h0, .inr (5, [.ref (d0 0), .int (s0 1 0), .ref (d0 2), .int (s0 3 0), .ref (d0 4), .int (s0 5 0)])), (d0 0, .inl (cC, 60, .inl (s0 0))), (d0 2, .inl (cI, 60, .inl (upd (s0 2) (Int32.toNatClampNeg (s0 3 0)) a1))), (d0 4, .inl (cI, 6, .inl (s0 4)))] := hD
  refine lv_aload_n hx hb qd_Src_emit_10 rfl (lv_at hl 0 rfl) ?_
  refine lv_dup hx hb qd_Src_emit_11 rfl ?_
  refine va_get (D := (dC, dI)) (ci := 5) (v := .int (s0 3 0)) (C := "QuietSweep$Source") (T := qT_Src) (N := 6) hx hb hts qi_Src hown hK.1 hP 0 rfl rfl 3 (by decide) (hts _ qw_34) (fun _ h9 => h9) rfl qd_Src_emit_12 ?_
  refine lv_iconst (v := 1) hx hb qd_Src_emit_15 rfl ?_
  refine lv_iadd hx hb qd_Src_emit_16 ?_
  refine va_put (D := (dC, dI)) (ci := 5) (v := .int ((s0 3 0) + 1)) (ty := .int) (C := "QuietSweep$Source") (T := qT_Src) (N := 6) hx hb hts qi_Src qt_Src qo_Src qn_Src hown hK.1 hP hD hS 0 rfl rfl 3 (by decide) (hts _ qw_34) (fun _ h9 => h9) rfl (qo_Src 3 (by decide)) rfl rfl (Nat.le_of_ble_eq_true rfl) qd_Src_emit_17 (fun H locs hP hD hS => ?_)
  have hP : va_P (dC, dI) qCl [(h0, .inr (5, [.ref (d0 0), .int (s0 1 0), .ref (d0 2), .int ((s0 3 0) + 1), .ref (d0 4), .int (s0 5 0)])), (d0 0, .inl (cC, 60, .inl (s0 0))), (d0 2, .inl (cI, 60, .inl (upd (s0 2) (Int32.toNatClampNeg (s0 3 0)) a1))), (d0 4, .inl (cI, 6, .inl (s0 4)))] _ := hP
  have hD : va_D A [(h0, .inr (5, [.ref (d0 0), .int (s0 1 0), .ref (d0 2), .int ((s0 3 0) + 1), .ref (d0 4), .int (s0 5 0)])), (d0 0, .inl (cC, 60, .inl (s0 0))), (d0 2, .inl (cI, 60, .inl (upd (s0 2) (Int32.toNatClampNeg (s0 3 0)) a1))), (d0 4, .inl (cI, 6, .inl (s0 4)))] := hD
  obtain rfl := Option.some.inj h
  exact W.vret hx hb hr (fun t ht hW => ⟨⟨(), rfl, trivial, by rw [ht]; exact hP, hD⟩, hS.F ht⟩) hS.2.2 qd_Src_emit_20
/-! QuietSweep$Source.fits(CC)Z -/
def qf_Src_fits (a1 : Int32) (a2 : Int32)  : Option (Int32) := (if a1 = 82 then (if a2 < 97 then (some 0) else (if 100 < a2 then (some 0) else (some 1))) else (if a1 = 73 then (if a2 < 120 then (some 0) else (if 122 < a2 then (some 0) else (some 1))) else (if a1 = 48 then (if a2 < 48 then (some 0) else (if 57 < a2 then (some 0) else (some 1))) else (if a2 = a1 then (some 1) else (some 0)))))
set_option maxHeartbeats 4000000 in
set_option maxRecDepth 100000 in
theorem qm_Src_fits (l : Launch) (dC : Nat → ClassId) (dI : Nat → Nat → Nat) (cI cC cB cM : ClassId)    (a1 : Int32) (a2 : Int32) (sz : Nat) (o : Int32) (h : qf_Src_fits a1 a2 = some o) : Met l qy_Src_fits (ql_Src_fits :: qG) ({ frames := 0, cells := 0, slots := 0, locals := 0 } : Room) (qPc dC dI cI cC cB cM [.int a1, .int a2] sz []) (va_Qi (fun r (_ : Unit) => r = o) (fun _ t => va_P (dC, dI) qCl [] t.heap ∧ va_D (va_A [] sz) []) (va_A [] sz)) 0 0 (va_A [] sz) := by
  refine Met.ofW (cc := qc_Src_fits) (maxL := 2) (ret := (some .boolean)) (by decide) rfl ?_
  intro p e s m args below meth c s₁ B hml hv
  obtain ⟨rfl, hsz, hP, hK, hD0⟩ := hv
  have hx := B.exec
  have hb := B.bytes
  have hr := B.returns
  have hts0 := atoms_spec (ws := ql_Src_fits :: qG) B.pre
  have hts := fun (w : Cond) (hw : w ∈ qG) => hts0 w (List.mem_cons_of_mem _ hw)
  have hown : s.vm.findClass "QuietSweep$Source" = some m.cls := findClass_of_methodNamed B.named
  have hlocks := B.notSynchronized
  subst hsz
  have hD := hD0.self (sz := s.heap.size)
  generalize hAe : va_A [] s.heap.size = A at hD ⊢
  have hA : ∀ q : Nat, s.heap.size ≤ q → A q := fun q h => by rw [← hAe]; exact Or.inr h
  have hS : va_S A s.heap s.heap [] := va_S.rf
  have hl := lv_entry ([.int a1, .int a2]) (n := 2) (Nat.le_of_ble_eq_true rfl)
  rw [lg_entry_eq]
  generalize (lg_sl ([.int a1, .int a2]) ++ List.replicate (2 - (lg_sl ([.int a1, .int a2])).length) Slot.unset).toArray = ls at hl ⊢
  have hl : lv_has ls 2 [(0, .int a1), (1, .int a2)] := hl
  unfold qf_Src_fits at h
  refine lv_iload_n hx hb qd_Src_fits_0 rfl (lv_at hl 0 rfl) ?_
  refine lv_bipush (v := 82) hx hb qd_Src_fits_1 (by decide) ?_
  refine lv_icmp_ne hx hb qd_Src_fits_3 (tgt := 24) (by decide) (fun hc => ?_) (fun hc => ?_)
  · have h := qq_f hc h
    refine lv_iload_n hx hb qd_Src_fits_24 rfl (lv_at hl 0 rfl) ?_
    refine lv_bipush (v := 73) hx hb qd_Src_fits_25 (by decide) ?_
    refine lv_icmp_ne hx hb qd_Src_fits_27 (tgt := 48) (by decide) (fun hc => ?_) (fun hc => ?_)
    · have h := qq_f hc h
      refine lv_iload_n hx hb qd_Src_fits_48 rfl (lv_at hl 0 rfl) ?_
      refine lv_bipush (v := 48) hx hb qd_Src_fits_49 (by decide) ?_
      refine lv_icmp_ne hx hb qd_Src_fits_51 (tgt := 72) (by decide) (fun hc => ?_) (fun hc => ?_)
      · have h := qq_f hc h
        refine lv_iload_n hx hb qd_Src_fits_72 rfl (lv_at hl 1 rfl) ?_
        refine lv_iload_n hx hb qd_Src_fits_73 rfl (lv_at hl 0 rfl) ?_
        refine lv_icmp_ne hx hb qd_Src_fits_74 (tgt := 81) (by decide) (fun hc => ?_) (fun hc => ?_)
        · have h := qq_f hc h
          refine lv_iconst (v := 0) hx hb qd_Src_fits_81 rfl ?_
          obtain rfl := Option.some.inj h
          exact W.zret (v := 0) hx hb hr rfl (fun t ht hW => ⟨⟨0, (), rfl, rfl, by rw [ht]; exact hP, hD⟩, hS.F ht⟩) hS.2.2 qd_Src_fits_82
        · have h := qq_t hc h
          refine lv_iconst (v := 1) hx hb qd_Src_fits_77 rfl ?_
          refine lv_goto hx hb qd_Src_fits_78 (tgt := 82) (by decide) ?_
          obtain rfl := Option.some.inj h
          exact W.zret (v := 1) hx hb hr rfl (fun t ht hW => ⟨⟨1, (), rfl, rfl, by rw [ht]; exact hP, hD⟩, hS.F ht⟩) hS.2.2 qd_Src_fits_82
      · have h := qq_t hc h
        refine lv_iload_n hx hb qd_Src_fits_54 rfl (lv_at hl 1 rfl) ?_
        refine lv_bipush (v := 48) hx hb qd_Src_fits_55 (by decide) ?_
        refine lv_icmp_lt hx hb qd_Src_fits_57 (tgt := 70) (by decide) (fun hc => ?_) (fun hc => ?_)
        · have h := qq_t hc h
          refine lv_iconst (v := 0) hx hb qd_Src_fits_70 rfl ?_
          obtain rfl := Option.some.inj h
          exact W.zret (v := 0) hx hb hr rfl (fun t ht hW => ⟨⟨0, (), rfl, rfl, by rw [ht]; exact hP, hD⟩, hS.F ht⟩) hS.2.2 qd_Src_fits_71
        · have h := qq_f hc h
          refine lv_iload_n hx hb qd_Src_fits_60 rfl (lv_at hl 1 rfl) ?_
          refine lv_bipush (v := 57) hx hb qd_Src_fits_61 (by decide) ?_
          refine lv_icmp_gt hx hb qd_Src_fits_63 (tgt := 70) (by decide) (fun hc => ?_) (fun hc => ?_)
          · have h := qq_t hc h
            refine lv_iconst (v := 0) hx hb qd_Src_fits_70 rfl ?_
            obtain rfl := Option.some.inj h
            exact W.zret (v := 0) hx hb hr rfl (fun t ht hW => ⟨⟨0, (), rfl, rfl, by rw [ht]; exact hP, hD⟩, hS.F ht⟩) hS.2.2 qd_Src_fits_71
          · have h := qq_f hc h
            refine lv_iconst (v := 1) hx hb qd_Src_fits_66 rfl ?_
            refine lv_goto hx hb qd_Src_fits_67 (tgt := 71) (by decide) ?_
            obtain rfl := Option.some.inj h
            exact W.zret (v := 1) hx hb hr rfl (fun t ht hW => ⟨⟨1, (), rfl, rfl, by rw [ht]; exact hP, hD⟩, hS.F ht⟩) hS.2.2 qd_Src_fits_71
    · have h := qq_t hc h
      refine lv_iload_n hx hb qd_Src_fits_30 rfl (lv_at hl 1 rfl) ?_
      refine lv_bipush (v := 120) hx hb qd_Src_fits_31 (by decide) ?_
      refine lv_icmp_lt hx hb qd_Src_fits_33 (tgt := 46) (by decide) (fun hc => ?_) (fun hc => ?_)
      · have h := qq_t hc h
        refine lv_iconst (v := 0) hx hb qd_Src_fits_46 rfl ?_
        obtain rfl := Option.some.inj h
        exact W.zret (v := 0) hx hb hr rfl (fun t ht hW => ⟨⟨0, (), rfl, rfl, by rw [ht]; exact hP, hD⟩, hS.F ht⟩) hS.2.2 qd_Src_fits_47
      · have h := qq_f hc h
        refine lv_iload_n hx hb qd_Src_fits_36 rfl (lv_at hl 1 rfl) ?_
        refine lv_bipush (v := 122) hx hb qd_Src_fits_37 (by decide) ?_
        refine lv_icmp_gt hx hb qd_Src_fits_39 (tgt := 46) (by decide) (fun hc => ?_) (fun hc => ?_)
        · have h := qq_t hc h
          refine lv_iconst (v := 0) hx hb qd_Src_fits_46 rfl ?_
          obtain rfl := Option.some.inj h
          exact W.zret (v := 0) hx hb hr rfl (fun t ht hW => ⟨⟨0, (), rfl, rfl, by rw [ht]; exact hP, hD⟩, hS.F ht⟩) hS.2.2 qd_Src_fits_47
        · have h := qq_f hc h
          refine lv_iconst (v := 1) hx hb qd_Src_fits_42 rfl ?_
          refine lv_goto hx hb qd_Src_fits_43 (tgt := 47) (by decide) ?_
          obtain rfl := Option.some.inj h
          exact W.zret (v := 1) hx hb hr rfl (fun t ht hW => ⟨⟨1, (), rfl, rfl, by rw [ht]; exact hP, hD⟩, hS.F ht⟩) hS.2.2 qd_Src_fits_47
  · have h := qq_t hc h
    refine lv_iload_n hx hb qd_Src_fits_6 rfl (lv_at hl 1 rfl) ?_
    refine lv_bipush (v := 97) hx hb qd_Src_fits_7 (by decide) ?_
    refine lv_icmp_lt hx hb qd_Src_fits_9 (tgt := 22) (by decide) (fun hc => ?_) (fun hc => ?_)
    · have h := qq_t hc h
      refine lv_iconst (v := 0) hx hb qd_Src_fits_22 rfl ?_
      obtain rfl := Option.some.inj h
      exact W.zret (v := 0) hx hb hr rfl (fun t ht hW => ⟨⟨0, (), rfl, rfl, by rw [ht]; exact hP, hD⟩, hS.F ht⟩) hS.2.2 qd_Src_fits_23
    · have h := qq_f hc h
      refine lv_iload_n hx hb qd_Src_fits_12 rfl (lv_at hl 1 rfl) ?_
      refine lv_bipush (v := 100) hx hb qd_Src_fits_13 (by decide) ?_
      refine lv_icmp_gt hx hb qd_Src_fits_15 (tgt := 22) (by decide) (fun hc => ?_) (fun hc => ?_)
      · have h := qq_t hc h
        refine lv_iconst (v := 0) hx hb qd_Src_fits_22 rfl ?_
        obtain rfl := Option.some.inj h
        exact W.zret (v := 0) hx hb hr rfl (fun t ht hW => ⟨⟨0, (), rfl, rfl, by rw [ht]; exact hP, hD⟩, hS.F ht⟩) hS.2.2 qd_Src_fits_23
      · have h := qq_f hc h
        refine lv_iconst (v := 1) hx hb qd_Src_fits_18 rfl ?_
        refine lv_goto hx hb qd_Src_fits_19 (tgt := 23) (by decide) ?_
        obtain rfl := Option.some.inj h
        exact W.zret (v := 1) hx hb hr rfl (fun t ht hW => ⟨⟨1, (), rfl, rfl, by rw [ht]; exact hP, hD⟩, hS.F ht⟩) hS.2.2 qd_Src_fits_23
/-! QuietSweep$Source.numberOf(C)I -/
def qf_Src_numberOf (a1 : Int32)  : Option (Int32) := (if a1 < 120 then (if a1 < 97 then (some (a1 - 48)) else (some (a1 - 97))) else (some (a1 - 120)))
set_option maxHeartbeats 4000000 in
set_option maxRecDepth 100000 in
theorem qm_Src_numberOf (l : Launch) (dC : Nat → ClassId) (dI : Nat → Nat → Nat) (cI cC cB cM : ClassId)    (a1 : Int32) (sz : Nat) (o : Int32) (h : qf_Src_numberOf a1 = some o) : Met l qy_Src_numberOf (ql_Src_numberOf :: qG) ({ frames := 0, cells := 0, slots := 0, locals := 0 } : Room) (qPc dC dI cI cC cB cM [.int a1] sz []) (va_Qi (fun r (_ : Unit) => r = o) (fun _ t => va_P (dC, dI) qCl [] t.heap ∧ va_D (va_A [] sz) []) (va_A [] sz)) 0 0 (va_A [] sz) := by
  refine Met.ofW (cc := qc_Src_numberOf) (maxL := 1) (ret := (some .int)) (by decide) rfl ?_
  intro p e s m args below meth c s₁ B hml hv
  obtain ⟨rfl, hsz, hP, hK, hD0⟩ := hv
  have hx := B.exec
  have hb := B.bytes
  have hr := B.returns
  have hts0 := atoms_spec (ws := ql_Src_numberOf :: qG) B.pre
  have hts := fun (w : Cond) (hw : w ∈ qG) => hts0 w (List.mem_cons_of_mem _ hw)
  have hown : s.vm.findClass "QuietSweep$Source" = some m.cls := findClass_of_methodNamed B.named
  have hlocks := B.notSynchronized
  subst hsz
  have hD := hD0.self (sz := s.heap.size)
  generalize hAe : va_A [] s.heap.size = A at hD ⊢
  have hA : ∀ q : Nat, s.heap.size ≤ q → A q := fun q h => by rw [← hAe]; exact Or.inr h
  have hS : va_S A s.heap s.heap [] := va_S.rf
  have hl := lv_entry ([.int a1]) (n := 1) (Nat.le_of_ble_eq_true rfl)
  rw [lg_entry_eq]
  generalize (lg_sl ([.int a1]) ++ List.replicate (1 - (lg_sl ([.int a1])).length) Slot.unset).toArray = ls at hl ⊢
  have hl : lv_has ls 1 [(0, .int a1)] := hl
  unfold qf_Src_numberOf at h
  refine lv_iload_n hx hb qd_Src_numberOf_0 rfl (lv_at hl 0 rfl) ?_
  refine lv_bipush (v := 120) hx hb qd_Src_numberOf_1 (by decide) ?_
  refine lv_icmp_lt hx hb qd_Src_numberOf_3 (tgt := 11) (by decide) (fun hc => ?_) (fun hc => ?_)
  · have h := qq_t hc h
    refine lv_iload_n hx hb qd_Src_numberOf_11 rfl (lv_at hl 0 rfl) ?_
    refine lv_bipush (v := 97) hx hb qd_Src_numberOf_12 (by decide) ?_
    refine lv_icmp_lt hx hb qd_Src_numberOf_14 (tgt := 24) (by decide) (fun hc => ?_) (fun hc => ?_)
    · have h := qq_t hc h
      refine lv_iload_n hx hb qd_Src_numberOf_24 rfl (lv_at hl 0 rfl) ?_
      refine lv_bipush (v := 48) hx hb qd_Src_numberOf_25 (by decide) ?_
      refine lv_isub hx hb qd_Src_numberOf_27 ?_
      obtain rfl := Option.some.inj h
      exact W.iret (v := (a1 - 48)) hx hb hr (fun t ht hW => ⟨⟨(a1 - 48), (), rfl, rfl, by rw [ht]; exact hP, hD⟩, hS.F ht⟩) hS.2.2 qd_Src_numberOf_28
    · have h := qq_f hc h
      refine lv_iload_n hx hb qd_Src_numberOf_17 rfl (lv_at hl 0 rfl) ?_
      refine lv_bipush (v := 97) hx hb qd_Src_numberOf_18 (by decide) ?_
      refine lv_isub hx hb qd_Src_numberOf_20 ?_
      refine lv_goto hx hb qd_Src_numberOf_21 (tgt := 28) (by decide) ?_
      obtain rfl := Option.some.inj h
      exact W.iret (v := (a1 - 97)) hx hb hr (fun t ht hW => ⟨⟨(a1 - 97), (), rfl, rfl, by rw [ht]; exact hP, hD⟩, hS.F ht⟩) hS.2.2 qd_Src_numberOf_28
  · have h := qq_f hc h
    refine lv_iload_n hx hb qd_Src_numberOf_6 rfl (lv_at hl 0 rfl) ?_
    refine lv_bipush (v := 120) hx hb qd_Src_numberOf_7 (by decide) ?_
    refine lv_isub hx hb qd_Src_numberOf_9 ?_
    obtain rfl := Option.some.inj h
    exact W.iret (v := (a1 - 120)) hx hb hr (fun t ht hW => ⟨⟨(a1 - 120), (), rfl, rfl, by rw [ht]; exact hP, hD⟩, hS.F ht⟩) hS.2.2 qd_Src_numberOf_10
/-! QuietSweep$Source.openLoop(I)I -/
def qf_Src_openLoop (a1 : Int32) (s0 : QS) : Option (Int32 × QS) := (if 6 ≤ (s0 5 0) then (some (0, s0)) else (if (s0 1 0) ≤ a1 then (some (0, s0)) else (if (a1 < 0 ∨ 60 ≤ Int32.toNatClampNeg a1) then none else ((qf_Src_fits 82 ((s0 0) (Int32.toNatClampNeg a1))).bind fun q2 => (if q2 = 0 then (some (0, s0)) else (if ((s0 5 0) < 0 ∨ 6 ≤ Int32.toNatClampNeg (s0 5 0)) then none else (if (a1 < 0 ∨ 60 ≤ Int32.toNatClampNeg a1) then none else ((qf_Src_numberOf ((s0 0) (Int32.toNatClampNeg a1))).bind fun q5 => ((qf_Src_emit (15 + (16 * q5)) (qp (qp s0 5 (fun _ => ((s0 5 0) + 1))) 4 (upd (s0 4) (Int32.toNatClampNeg (s0 5 0)) (s0 3 0)))).bind fun q6 => (some (2, q6)))))))))))
set_option maxHeartbeats 4000000 in
set_option maxRecDepth 100000 in
theorem qm_Src_openLoop (l : Launch) (dC : Nat → ClassId) (dI : Nat → Nat → Nat) (cI cC cB cM : ClassId) (h0 : Nat) (d0 : Nat → Nat) (s0 : QS) (a1 : Int32) (sz : Nat) (o : Int32 × QS) (h : qf_Src_openLoop a1 s0 = some o) : Met l qy_Src_openLoop (ql_Src_openLoop :: qG) ({ frames := 1, cells := 0, slots := 0, locals := 21 } : Room) (qPc dC dI cI cC cB cM [.ref h0, .int a1] sz [(h0, .inr (5, [.ref (d0 0), .int (s0 1 0), .ref (d0 2), .int (s0 3 0), .ref (d0 4), .int (s0 5 0)])), (d0 0, .inl (cC, 60, .inl (s0 0))), (d0 2, .inl (cI, 60, .inl (s0 2))), (d0 4, .inl (cI, 6, .inl (s0 4)))]) (va_Qi (fun r (_ : Unit) => r = o.1) (fun _ t => va_P (dC, dI) qCl [(h0, .inr (5, [.ref (d0 0), .int (o.2 1 0), .ref (d0 2), .int (o.2 3 0), .ref (d0 4), .int (o.2 5 0)])), (d0 0, .inl (cC, 60, .inl (o.2 0))), (d0 2, .inl (cI, 60, .inl (o.2 2))), (d0 4, .inl (cI, 6, .inl (o.2 4)))] t.heap ∧ va_D (va_A [(h0, .inr (5, [.ref (d0 0), .int (s0 1 0), .ref (d0 2), .int (s0 3 0), .ref (d0 4), .int (s0 5 0)])), (d0 0, .inl (cC, 60, .inl (s0 0))), (d0 2, .inl (cI, 60, .inl (s0 2))), (d0 4, .inl (cI, 6, .inl (s0 4)))] sz) [(h0, .inr (5, [.ref (d0 0), .int (o.2 1 0), .ref (d0 2), .int (o.2 3 0), .ref (d0 4), .int (o.2 5 0)])), (d0 0, .inl (cC, 60, .inl (o.2 0))), (d0 2, .inl (cI, 60, .inl (o.2 2))), (d0 4, .inl (cI, 6, .inl (o.2 4)))]) (va_A [(h0, .inr (5, [.ref (d0 0), .int (s0 1 0), .ref (d0 2), .int (s0 3 0), .ref (d0 4), .int (s0 5 0)])), (d0 0, .inl (cC, 60, .inl (s0 0))), (d0 2, .inl (cI, 60, .inl (s0 2))), (d0 4, .inl (cI, 6, .inl (s0 4)))] sz)) 0 0 (va_A [(h0, .inr (5, [.ref (d0 0), .int (s0 1 0), .ref (d0 2), .int (s0 3 0), .ref (d0 4), .int (s0 5 0)])), (d0 0, .inl (cC, 60, .inl (s0 0))), (d0 2, .inl (cI, 60, .inl (s0 2))), (d0 4, .inl (cI, 6, .inl (s0 4)))] sz) := by
  refine Met.ofW (cc := qc_Src_openLoop) (maxL := 2) (ret := (some .int)) (by decide) rfl ?_
  intro p e s m args below meth c s₁ B hml hv
  obtain ⟨rfl, hsz, hP, hK, hD0⟩ := hv
  have hx := B.exec
  have hb := B.bytes
  have hr := B.returns
  have hts0 := atoms_spec (ws := ql_Src_openLoop :: qG) B.pre
  have hts := fun (w : Cond) (hw : w ∈ qG) => hts0 w (List.mem_cons_of_mem _ hw)
  have hown : s.vm.findClass "QuietSweep$Source" = some m.cls := findClass_of_methodNamed B.named
  have hlocks := B.notSynchronized
  subst hsz
  have hD := hD0.self (sz := s.heap.size)
  generalize hAe : va_A [(h0, .inr (5, [.ref (d0 0), .int (s0 1 0), .ref (d0 2), .int (s0 3 0), .ref (d0 4), .int (s0 5 0)])), (d0 0, .inl (cC, 60, .inl (s0 0))), (d0 2, .inl (cI, 60, .inl (s0 2))), (d0 4, .inl (cI, 6, .inl (s0 4)))] s.heap.size = A at hD ⊢
  have hA : ∀ q : Nat, s.heap.size ≤ q → A q := fun q h => by rw [← hAe]; exact Or.inr h
  have hS : va_S A s.heap s.heap [] := va_S.rf
  have hl := lv_entry ([.ref h0, .int a1]) (n := 2) (Nat.le_of_ble_eq_true rfl)
  rw [lg_entry_eq]
  generalize (lg_sl ([.ref h0, .int a1]) ++ List.replicate (2 - (lg_sl ([.ref h0, .int a1])).length) Slot.unset).toArray = ls at hl ⊢
  have hl : lv_has ls 2 [(0, .ref h0), (1, .int a1)] := hl
  unfold qf_Src_openLoop at h
  refine lv_aload_n hx hb qd_Src_openLoop_0 rfl (lv_at hl 0 rfl) ?_
  refine va_get (D := (dC, dI)) (ci := 5) (v := .int (s0 5 0)) (C := "QuietSweep$Source") (T := qT_Src) (N := 6) hx hb hts qi_Src hown hK.1 hP 0 rfl rfl 5 (by decide) (hts _ qw_37) (fun _ h9 => h9) rfl qd_Src_openLoop_1 ?_
  refine lv_bipush (v := 6) hx hb qd_Src_openLoop_4 (by decide) ?_
  refine lv_icmp_ge hx hb qd_Src_openLoop_6 (tgt := 31) (by decide) (fun hc => ?_) (fun hc => ?_)
  · have h := qq_t hc h
    refine lv_iconst (v := 0) hx hb qd_Src_openLoop_31 rfl ?_
    obtain rfl := Option.some.inj h
    exact W.iret (v := 0) hx hb hr (fun t ht hW => ⟨⟨0, (), rfl, rfl, by rw [ht]; exact hP, hD⟩, hS.F ht⟩) hS.2.2 qd_Src_openLoop_32
  · have h := qq_f hc h
    refine lv_iload_n hx hb qd_Src_openLoop_9 rfl (lv_at hl 1 rfl) ?_
    refine lv_aload_n hx hb qd_Src_openLoop_10 rfl (lv_at hl 0 rfl) ?_
    refine va_get (D := (dC, dI)) (ci := 5) (v := .int (s0 1 0)) (C := "QuietSweep$Source") (T := qT_Src) (N := 6) hx hb hts qi_Src hown hK.1 hP 0 rfl rfl 1 (by decide) (hts _ qw_31) (fun _ h9 => h9) rfl qd_Src_openLoop_11 ?_
    refine lv_icmp_ge hx hb qd_Src_openLoop_14 (tgt := 31) (by decide) (fun hc => ?_) (fun hc => ?_)
    · have h := qq_t hc h
      refine lv_iconst (v := 0) hx hb qd_Src_openLoop_31 rfl ?_
      obtain rfl := Option.some.inj h
      exact W.iret (v := 0) hx hb hr (fun t ht hW => ⟨⟨0, (), rfl, rfl, by rw [ht]; exact hP, hD⟩, hS.F ht⟩) hS.2.2 qd_Src_openLoop_32
    · have h := qq_f hc h
      refine lv_bipush (v := 82) hx hb qd_Src_openLoop_17 (by decide) ?_
      refine lv_aload_n hx hb qd_Src_openLoop_19 rfl (lv_at hl 0 rfl) ?_
      refine va_get (D := (dC, dI)) (ci := 5) (v := .ref (d0 0)) (C := "QuietSweep$Source") (T := qT_Src) (N := 6) hx hb hts qi_Src hown hK.1 hP 0 rfl rfl 0 (by decide) (hts _ qw_30) (fun _ h9 => h9) rfl qd_Src_openLoop_20 ?_
      refine lv_iload_n hx hb qd_Src_openLoop_23 rfl (lv_at hl 1 rfl) ?_
      obtain ⟨hb1, h⟩ := qq_n h
      refine va_cald hx hb hK.1 hP 1 1 rfl rfl hb1 qd_Src_openLoop_24 ?_
      obtain ⟨q2, hq2, h⟩ := qq_b h
      have hPc := hP.sub (ws' := []) [] rfl
      have hDc := hD.sub (ws' := []) [] (by decide) rfl
      have hFc := va_free (wc := []) hD hS hA [] rfl
      refine va_calli (va_runS (As := [.int 82, .int ((s0 0) (Int32.toNatClampNeg a1))]) (rest := []) ⟨hx, hb, hml, hown, hts⟩ (qm_Src_fits l dC dI cI cC cB cM 82 ((s0 0) (Int32.toNatClampNeg a1)) _ q2 hq2) ⟨q_CB hts qw_213 qw_2 qw_215 qh_Src_fits rfl rfl ⟨by decide, by decide⟩, hts _ qw_214⟩ (q_preS [.int 82, .int ((s0 0) (Int32.toNatClampNeg a1))] hK hPc hDc) rfl rfl hl.1 rfl (lv_room (Nat.le_of_ble_eq_true rfl)) qd_Src_openLoop_25 ⟨Nat.zero_le _, Nat.zero_le _⟩) hS (fun q _ h => hFc q h) hFc (fun r u t H1 locs ht hvm hw hB hz1 hk1 hS => ?_)
      have hw : q2 = r := Eq.symm hw
      subst hw
      obtain ⟨hP1, hD1⟩ := hB
      rw [ht] at hP1
      obtain ⟨hP, hD⟩ := va_join (wr := [(h0, .inr (5, [.ref (d0 0), .int (s0 1 0), .ref (d0 2), .int (s0 3 0), .ref (d0 4), .int (s0 5 0)])), (d0 0, .inl (cC, 60, .inl (s0 0))), (d0 2, .inl (cI, 60, .inl (s0 2))), (d0 4, .inl (cI, 6, .inl (s0 4)))]) (w1 := []) hP hD [] [0, 1, 2, 3] rfl rfl (by decide) (by decide) hk1 hFc hP1 hD1
      have hP := hP.sub (ws' := [(h0, .inr (5, [.ref (d0 0), .int (s0 1 0), .ref (d0 2), .int (s0 3 0), .ref (d0 4), .int (s0 5 0)])), (d0 0, .inl (cC, 60, .inl (s0 0))), (d0 2, .inl (cI, 60, .inl (s0 2))), (d0 4, .inl (cI, 6, .inl (s0 4)))]) [0, 1, 2, 3] rfl
      have hD := hD.sub (ws' := [(h0, .inr (5, [.ref (d0 0), .int (s0 1 0), .ref (d0 2), .int (s0 3 0), .ref (d0 4), .int (s0 5 0)])), (d0 0, .inl (cC, 60, .inl (s0 0))), (d0 2, .inl (cI, 60, .inl (s0 2))), (d0 4, .inl (cI, 6, .inl (s0 4)))]) [0, 1, 2, 3] (by decide) rfl
      refine lv_if_ne hx hb qd_Src_openLoop_28 (tgt := 33) (by decide) (fun hc => ?_) (fun hc => ?_)
      · have h := qq_f hc h
        refine lv_aload_n hx hb qd_Src_openLoop_33 rfl (lv_at hl 0 rfl) ?_
        refine va_get (D := (dC, dI)) (ci := 5) (v := .ref (d0 4)) (C := "QuietSweep$Source") (T := qT_Src) (N := 6) hx hb hts qi_Src hown hK.1 hP 0 rfl rfl 4 (by decide) (hts _ qw_36) (fun _ h9 => h9) rfl qd_Src_openLoop_34 ?_
        refine lv_aload_n hx hb qd_Src_openLoop_37 rfl (lv_at hl 0 rfl) ?_
        refine va_get (D := (dC, dI)) (ci := 5) (v := .int (s0 5 0)) (C := "QuietSweep$Source") (T := qT_Src) (N := 6) hx hb hts qi_Src hown hK.1 hP 0 rfl rfl 5 (by decide) (hts _ qw_37) (fun _ h9 => h9) rfl qd_Src_openLoop_38 ?_
        refine lv_aload_n hx hb qd_Src_openLoop_41 rfl (lv_at hl 0 rfl) ?_
        refine va_get (D := (dC, dI)) (ci := 5) (v := .int (s0 3 0)) (C := "QuietSweep$Source") (T := qT_Src) (N := 6) hx hb hts qi_Src hown hK.1 hP 0 rfl rfl 3 (by decide) (hts _ qw_34) (fun _ h9 => h9) rfl qd_Src_openLoop_42 ?_
        obtain ⟨hb3, h⟩ := qq_n h
        refine va_iast hx hb hK.1 hP hD hS 3 0 rfl rfl hb3 qd_Src_openLoop_45 (fun H locs hP hD hS => ?_)
        have hP : va_P (dC, dI) qCl [(h0, .inr (5, [.ref (d0 0), .int (s0 1 0), .ref (d0 2), .int (s0 3 0), .ref (d0 4), .int (s0 5 0)])), (d0 0, .inl (cC, 60, .inl (s0 0))), (d0 2, .inl (cI, 60, .inl (s0 2))), (d0 4, .inl (cI, 6, .inl (upd (s0 4) (Int32.toNatClampNeg (s0 5 0)) (s0 3 0))))] _ := hP
        have hD : va_D A [(h0, .inr (5, [.ref (d0 0), .int (s0 1 0), .ref (d0 2), .int (s0 3 0), .ref (d0 4), .int (s0 5 0)])), (d0 0, .inl (cC, 60, .inl (s0 0))), (d0 2, .inl (cI, 60, .inl (s0 2))), (d0 4, .inl (cI, 6, .inl (upd (s0 4) (Int32.toNatClampNeg (s0 5 0)) (s0 3 0))))] := hD
        refine lv_aload_n hx hb qd_Src_openLoop_46 rfl (lv_at hl 0 rfl) ?_
        refine lv_dup hx hb qd_Src_openLoop_47 rfl ?_
        refine va_get (D := (dC, dI)) (ci := 5) (v := .int (s0 5 0)) (C := "QuietSweep$Source") (T := qT_Src) (N := 6) hx hb hts qi_Src hown hK.1 hP 0 rfl rfl 5 (by decide) (hts _ qw_37) (fun _ h9 => h9) rfl qd_Src_openLoop_48 ?_
        refine lv_iconst (v := 1) hx hb qd_Src_openLoop_51 rfl ?_
        refine lv_iadd hx hb qd_Src_openLoop_52 ?_
        refine va_put (D := (dC, dI)) (ci := 5) (v := .int ((s0 5 0) + 1)) (ty := .int) (C := "QuietSweep$Source") (T := qT_Src) (N := 6) hx hb hts qi_Src qt_Src qo_Src qn_Src hown hK.1 hP hD hS 0 rfl rfl 5 (by decide) (hts _ qw_37) (fun _ h9 => h9) rfl (qo_Src 5 (by decide)) rfl rfl (Nat.le_of_ble_eq_true rfl) qd_Src_openLoop_53 (fun H locs hP hD hS => ?_)
        have hP : va_P (dC, dI) qCl [(h0, .inr (5, [.ref (d0 0), .int (s0 1 0), .ref (d0 2), .int (s0 3 0), .ref (d0 4), .int ((s0 5 0) + 1)])), (d0 0, .inl (cC, 60, .inl (s0 0))), (d0 2, .inl (cI, 60, .inl (s0 2))), (d0 4, .inl (cI, 6, .inl (upd (s0 4) (Int32.toNatClampNeg (s0 5 0)) (s0 3 0))))] _ := hP
        have hD : va_D A [(h0, .inr (5, [.ref (d0 0), .int (s0 1 0), .ref (d0 2), .int (s0 3 0), .ref (d0 4), .int ((s0 5 0) + 1)])), (d0 0, .inl (cC, 60, .inl (s0 0))), (d0 2, .inl (cI, 60, .inl (s0 2))), (d0 4, .inl (cI, 6, .inl (upd (s0 4) (Int32.toNatClampNeg (s0 5 0)) (s0 3 0))))] := hD
        refine lv_aload_n hx hb qd_Src_openLoop_56 rfl (lv_at hl 0 rfl) ?_
        refine lv_bipush (v := 15) hx hb qd_Src_openLoop_57 (by decide) ?_
        refine lv_bipush (v := 16) hx hb qd_Src_openLoop_59 (by decide) ?_
        refine lv_aload_n hx hb qd_Src_openLoop_61 rfl (lv_at hl 0 rfl) ?_
        refine va_get (D := (dC, dI)) (ci := 5) (v := .ref (d0 0)) (C := "QuietSweep$Source") (T := qT_Src) (N := 6) hx hb hts qi_Src hown hK.1 hP 0 rfl rfl 0 (by decide) (hts _ qw_30) (fun _ h9 => h9) rfl qd_Src_openLoop_62 ?_
        refine lv_iload_n hx hb qd_Src_openLoop_65 rfl (lv_at hl 1 rfl) ?_
        obtain ⟨hb4, h⟩ := qq_n h
        refine va_cald hx hb hK.1 hP 1 1 rfl rfl hb4 qd_Src_openLoop_66 ?_
        obtain ⟨q5, hq5, h⟩ := qq_b h
        have hPc := hP.sub (ws' := []) [] rfl
        have hDc := hD.sub (ws' := []) [] (by decide) rfl
        have hFc := va_free (wc := []) hD hS hA [] rfl
        refine va_calli (va_runS (As := [.int ((s0 0) (Int32.toNatClampNeg a1))]) (rest := [.int 16, .int 15, .ref h0]) ⟨hx, hb, hml, hown, hts⟩ (qm_Src_numberOf l dC dI cI cC cB cM ((s0 0) (Int32.toNatClampNeg a1)) _ q5 hq5) ⟨q_CB hts qw_216 qw_2 qw_218 qh_Src_numberOf rfl rfl ⟨by decide, by decide⟩, hts _ qw_217⟩ (q_preS [.int ((s0 0) (Int32.toNatClampNeg a1))] hK hPc hDc) rfl rfl hl.1 rfl (lv_room (Nat.le_of_ble_eq_true rfl)) qd_Src_openLoop_67 ⟨Nat.zero_le _, Nat.zero_le _⟩) hS (fun q _ h => hFc q h) hFc (fun r u t H1 locs ht hvm hw hB hz1 hk1 hS => ?_)
        have hw : q5 = r := Eq.symm hw
        subst hw
        obtain ⟨hP1, hD1⟩ := hB
        rw [ht] at hP1
        obtain ⟨hP, hD⟩ := va_join (wr := [(h0, .inr (5, [.ref (d0 0), .int (s0 1 0), .ref (d0 2), .int (s0 3 0), .ref (d0 4), .int ((s0 5 0) + 1)])), (d0 0, .inl (cC, 60, .inl (s0 0))), (d0 2, .inl (cI, 60, .inl (s0 2))), (d0 4, .inl (cI, 6, .inl (upd (s0 4) (Int32.toNatClampNeg (s0 5 0)) (s0 3 0))))]) (w1 := []) hP hD [] [0, 1, 2, 3] rfl rfl (by decide) (by decide) hk1 hFc hP1 hD1
        have hP := hP.sub (ws' := [(h0, .inr (5, [.ref (d0 0), .int (s0 1 0), .ref (d0 2), .int (s0 3 0), .ref (d0 4), .int ((s0 5 0) + 1)])), (d0 0, .inl (cC, 60, .inl (s0 0))), (d0 2, .inl (cI, 60, .inl (s0 2))), (d0 4, .inl (cI, 6, .inl (upd (s0 4) (Int32.toNatClampNeg (s0 5 0)) (s0 3 0))))]) [0, 1, 2, 3] rfl
        have hD := hD.sub (ws' := [(h0, .inr (5, [.ref (d0 0), .int (s0 1 0), .ref (d0 2), .int (s0 3 0), .ref (d0 4), .int ((s0 5 0) + 1)])), (d0 0, .inl (cC, 60, .inl (s0 0))), (d0 2, .inl (cI, 60, .inl (s0 2))), (d0 4, .inl (cI, 6, .inl (upd (s0 4) (Int32.toNatClampNeg (s0 5 0)) (s0 3 0))))]) [0, 1, 2, 3] (by decide) rfl
        refine lv_imul hx hb qd_Src_openLoop_70 ?_
        refine lv_iadd hx hb qd_Src_openLoop_71 ?_
        obtain ⟨q6, hq6, h⟩ := qq_b h
        have hPc := hP.sub (ws' := [(h0, .inr (5, [.ref (d0 0), .int ((qp (qp s0 5 (fun _ => ((s0 5 0) + 1))) 4 (upd (s0 4) (Int32.toNatClampNeg (s0 5 0)) (s0 3 0))) 1 0), .ref (d0 2), .int ((qp (qp s0 5 (fun _ => ((s0 5 0) + 1))) 4 (upd (s0 4) (Int32.toNatClampNeg (s0 5 0)) (s0 3 0))) 3 0), .ref (d0 4), .int ((qp (qp s0 5 (fun _ => ((s0 5 0) + 1))) 4 (upd (s0 4) (Int32.toNatClampNeg (s0 5 0)) (s0 3 0))) 5 0)])), (d0 0, .inl (cC, 60, .inl ((qp (qp s0 5 (fun _ => ((s0 5 0) + 1))) 4 (upd (s0 4) (Int32.toNatClampNeg (s0 5 0)) (s0 3 0))) 0))), (d0 2, .inl (cI, 60, .inl ((qp (qp s0 5 (fun _ => ((s0 5 0) + 1))) 4 (upd (s0 4) (Int32.toNatClampNeg (s0 5 0)) (s0 3 0))) 2))), (d0 4, .inl (cI, 6, .inl ((qp (qp s0 5 (fun _ => ((s0 5 0) + 1))) 4 (upd (s0 4) (Int32.toNatClampNeg (s0 5 0)) (s0 3 0))) 4)))]) [0, 1, 2, 3] rfl
        have hDc := hD.sub (ws' := [(h0, .inr (5, [.ref (d0 0), .int ((qp (qp s0 5 (fun _ => ((s0 5 0) + 1))) 4 (upd (s0 4) (Int32.toNatClampNeg (s0 5 0)) (s0 3 0))) 1 0), .ref (d0 2), .int ((qp (qp s0 5 (fun _ => ((s0 5 0) + 1))) 4 (upd (s0 4) (Int32.toNatClampNeg (s0 5 0)) (s0 3 0))) 3 0), .ref (d0 4), .int ((qp (qp s0 5 (fun _ => ((s0 5 0) + 1))) 4 (upd (s0 4) (Int32.toNatClampNeg (s0 5 0)) (s0 3 0))) 5 0)])), (d0 0, .inl (cC, 60, .inl ((qp (qp s0 5 (fun _ => ((s0 5 0) + 1))) 4 (upd (s0 4) (Int32.toNatClampNeg (s0 5 0)) (s0 3 0))) 0))), (d0 2, .inl (cI, 60, .inl ((qp (qp s0 5 (fun _ => ((s0 5 0) + 1))) 4 (upd (s0 4) (Int32.toNatClampNeg (s0 5 0)) (s0 3 0))) 2))), (d0 4, .inl (cI, 6, .inl ((qp (qp s0 5 (fun _ => ((s0 5 0) + 1))) 4 (upd (s0 4) (Int32.toNatClampNeg (s0 5 0)) (s0 3 0))) 4)))]) [0, 1, 2, 3] (by decide) rfl
        have hFc := va_free (wc := [(h0, .inr (5, [.ref (d0 0), .int ((qp (qp s0 5 (fun _ => ((s0 5 0) + 1))) 4 (upd (s0 4) (Int32.toNatClampNeg (s0 5 0)) (s0 3 0))) 1 0), .ref (d0 2), .int ((qp (qp s0 5 (fun _ => ((s0 5 0) + 1))) 4 (upd (s0 4) (Int32.toNatClampNeg (s0 5 0)) (s0 3 0))) 3 0), .ref (d0 4), .int ((qp (qp s0 5 (fun _ => ((s0 5 0) + 1))) 4 (upd (s0 4) (Int32.toNatClampNeg (s0 5 0)) (s0 3 0))) 5 0)])), (d0 0, .inl (cC, 60, .inl ((qp (qp s0 5 (fun _ => ((s0 5 0) + 1))) 4 (upd (s0 4) (Int32.toNatClampNeg (s0 5 0)) (s0 3 0))) 0))), (d0 2, .inl (cI, 60, .inl ((qp (qp s0 5 (fun _ => ((s0 5 0) + 1))) 4 (upd (s0 4) (Int32.toNatClampNeg (s0 5 0)) (s0 3 0))) 2))), (d0 4, .inl (cI, 6, .inl ((qp (qp s0 5 (fun _ => ((s0 5 0) + 1))) 4 (upd (s0 4) (Int32.toNatClampNeg (s0 5 0)) (s0 3 0))) 4)))]) hD hS hA [0, 1, 2, 3] rfl
        refine va_callv (va_runV (As := [.int (15 + (16 * q5))]) (rest := []) ⟨hx, hb, hml, hown, hts⟩ (qm_Src_emit l dC dI cI cC cB cM h0 d0 (qp (qp s0 5 (fun _ => ((s0 5 0) + 1))) 4 (upd (s0 4) (Int32.toNatClampNeg (s0 5 0)) (s0 3 0))) (15 + (16 * q5)) _ q6 hq6) (q_CW hts qw_219 qw_221 qv_3 qw_2 qw_222 qh_Src_emit rfl rfl ⟨by decide, by decide⟩) (q_preV [.int (15 + (16 * q5))] 0 rfl rfl hK hPc hDc) rfl rfl hl.1 rfl (lv_room (Nat.le_of_ble_eq_true rfl)) qd_Src_openLoop_72 ⟨Nat.zero_le _, Nat.zero_le _⟩) hS (fun q _ h => hFc q h) hFc (fun u t H1 locs ht hvm hw hB hz1 hk1 hS => ?_)
        obtain ⟨hP1, hD1⟩ := hB
        rw [ht] at hP1
        obtain ⟨hP, hD⟩ := va_join (wr := []) (w1 := [(h0, .inr (5, [.ref (d0 0), .int (q6 1 0), .ref (d0 2), .int (q6 3 0), .ref (d0 4), .int (q6 5 0)])), (d0 0, .inl (cC, 60, .inl (q6 0))), (d0 2, .inl (cI, 60, .inl (q6 2))), (d0 4, .inl (cI, 6, .inl (q6 4)))]) hP hD [0, 1, 2, 3] [] rfl rfl (by decide) (by decide) hk1 hFc hP1 hD1
        have hP := hP.sub (ws' := [(h0, .inr (5, [.ref (d0 0), .int (q6 1 0), .ref (d0 2), .int (q6 3 0), .ref (d0 4), .int (q6 5 0)])), (d0 0, .inl (cC, 60, .inl (q6 0))), (d0 2, .inl (cI, 60, .inl (q6 2))), (d0 4, .inl (cI, 6, .inl (q6 4)))]) [0, 1, 2, 3] rfl
        have hD := hD.sub (ws' := [(h0, .inr (5, [.ref (d0 0), .int (q6 1 0), .ref (d0 2), .int (q6 3 0), .ref (d0 4), .int (q6 5 0)])), (d0 0, .inl (cC, 60, .inl (q6 0))), (d0 2, .inl (cI, 60, .inl (q6 2))), (d0 4, .inl (cI, 6, .inl (q6 4)))]) [0, 1, 2, 3] (by decide) rfl
        refine lv_iconst (v := 2) hx hb qd_Src_openLoop_75 rfl ?_
        obtain rfl := Option.some.inj h
        exact W.iret (v := 2) hx hb hr (fun t ht hW => ⟨⟨2, (), rfl, rfl, by rw [ht]; exact hP, hD⟩, hS.F ht⟩) hS.2.2 qd_Src_openLoop_76
      · have h := qq_t hc h
        refine lv_iconst (v := 0) hx hb qd_Src_openLoop_31 rfl ?_
        obtain rfl := Option.some.inj h
        exact W.iret (v := 0) hx hb hr (fun t ht hW => ⟨⟨0, (), rfl, rfl, by rw [ht]; exact hP, hD⟩, hS.F ht⟩) hS.2.2 qd_Src_openLoop_32
/-! QuietSweep$Source.closeLoop()I -/
def qf_Src_closeLoop  (s0 : QS) : Option (Int32 × QS) := (if (s0 5 0) = 0 then (some (0, s0)) else (if (((s0 5 0) - 1) < 0 ∨ 6 ≤ Int32.toNatClampNeg ((s0 5 0) - 1)) then none else (if (((s0 4) (Int32.toNatClampNeg ((s0 5 0) - 1))) < 0 ∨ 60 ≤ Int32.toNatClampNeg ((s0 4) (Int32.toNatClampNeg ((s0 5 0) - 1)))) then none else ((qf_Src_emit ((((s0 2) (Int32.toNatClampNeg ((s0 4) (Int32.toNatClampNeg ((s0 5 0) - 1))))) + 64) + (256 * ((s0 4) (Int32.toNatClampNeg ((s0 5 0) - 1))))) (qp s0 5 (fun _ => ((s0 5 0) - 1)))).bind fun q3 => (if (((s0 4) (Int32.toNatClampNeg ((s0 5 0) - 1))) < 0 ∨ 60 ≤ Int32.toNatClampNeg ((s0 4) (Int32.toNatClampNeg ((s0 5 0) - 1)))) then none else (if (((s0 4) (Int32.toNatClampNeg ((s0 5 0) - 1))) < 0 ∨ 60 ≤ Int32.toNatClampNeg ((s0 4) (Int32.toNatClampNeg ((s0 5 0) - 1)))) then none else (some (1, (qp q3 2 (upd (q3 2) (Int32.toNatClampNeg ((s0 4) (Int32.toNatClampNeg ((s0 5 0) - 1)))) (((q3 2) (Int32.toNatClampNeg ((s0 4) (Int32.toNatClampNeg ((s0 5 0) - 1))))) + (256 * (s0 3 0)))))))))))))
set_option maxHeartbeats 4000000 in
set_option maxRecDepth 100000 in
theorem qm_Src_closeLoop (l : Launch) (dC : Nat → ClassId) (dI : Nat → Nat → Nat) (cI cC cB cM : ClassId) (h0 : Nat) (d0 : Nat → Nat) (s0 : QS)  (sz : Nat) (o : Int32 × QS) (h : qf_Src_closeLoop s0 = some o) : Met l qy_Src_closeLoop (ql_Src_closeLoop :: qG) ({ frames := 1, cells := 0, slots := 0, locals := 21 } : Room) (qPc dC dI cI cC cB cM [.ref h0] sz [(h0, .inr (5, [.ref (d0 0), .int (s0 1 0), .ref (d0 2), .int (s0 3 0), .ref (d0 4), .int (s0 5 0)])), (d0 0, .inl (cC, 60, .inl (s0 0))), (d0 2, .inl (cI, 60, .inl (s0 2))), (d0 4, .inl (cI, 6, .inl (s0 4)))]) (va_Qi (fun r (_ : Unit) => r = o.1) (fun _ t => va_P (dC, dI) qCl [(h0, .inr (5, [.ref (d0 0), .int (o.2 1 0), .ref (d0 2), .int (o.2 3 0), .ref (d0 4), .int (o.2 5 0)])), (d0 0, .inl (cC, 60, .inl (o.2 0))), (d0 2, .inl (cI, 60, .inl (o.2 2))), (d0 4, .inl (cI, 6, .inl (o.2 4)))] t.heap ∧ va_D (va_A [(h0, .inr (5, [.ref (d0 0), .int (s0 1 0), .ref (d0 2), .int (s0 3 0), .ref (d0 4), .int (s0 5 0)])), (d0 0, .inl (cC, 60, .inl (s0 0))), (d0 2, .inl (cI, 60, .inl (s0 2))), (d0 4, .inl (cI, 6, .inl (s0 4)))] sz) [(h0, .inr (5, [.ref (d0 0), .int (o.2 1 0), .ref (d0 2), .int (o.2 3 0), .ref (d0 4), .int (o.2 5 0)])), (d0 0, .inl (cC, 60, .inl (o.2 0))), (d0 2, .inl (cI, 60, .inl (o.2 2))), (d0 4, .inl (cI, 6, .inl (o.2 4)))]) (va_A [(h0, .inr (5, [.ref (d0 0), .int (s0 1 0), .ref (d0 2), .int (s0 3 0), .ref (d0 4), .int (s0 5 0)])), (d0 0, .inl (cC, 60, .inl (s0 0))), (d0 2, .inl (cI, 60, .inl (s0 2))), (d0 4, .inl (cI, 6, .inl (s0 4)))] sz)) 0 0 (va_A [(h0, .inr (5, [.ref (d0 0), .int (s0 1 0), .ref (d0 2), .int (s0 3 0), .ref (d0 4), .int (s0 5 0)])), (d0 0, .inl (cC, 60, .inl (s0 0))), (d0 2, .inl (cI, 60, .inl (s0 2))), (d0 4, .inl (cI, 6, .inl (s0 4)))] sz) := by
  refine Met.ofW (cc := qc_Src_closeLoop) (maxL := 3) (ret := (some .int)) (by decide) rfl ?_
  intro p e s m args below meth c s₁ B hml hv
  obtain ⟨rfl, hsz, hP, hK, hD0⟩ := hv
  have hx := B.exec
  have hb := B.bytes
  have hr := B.returns
  have hts0 := atoms_spec (ws := ql_Src_closeLoop :: qG) B.pre
  have hts := fun (w : Cond) (hw : w ∈ qG) => hts0 w (List.mem_cons_of_mem _ hw)
  have hown : s.vm.findClass "QuietSweep$Source" = some m.cls := findClass_of_methodNamed B.named
  have hlocks := B.notSynchronized
  subst hsz
  have hD := hD0.self (sz := s.heap.size)
  generalize hAe : va_A [(h0, .inr (5, [.ref (d0 0), .int (s0 1 0), .ref (d0 2), .int (s0 3 0), .ref (d0 4), .int (s0 5 0)])), (d0 0, .inl (cC, 60, .inl (s0 0))), (d0 2, .inl (cI, 60, .inl (s0 2))), (d0 4, .inl (cI, 6, .inl (s0 4)))] s.heap.size = A at hD ⊢
  have hA : ∀ q : Nat, s.heap.size ≤ q → A q := fun q h => by rw [← hAe]; exact Or.inr h
  have hS : va_S A s.heap s.heap [] := va_S.rf
  have hl := lv_entry ([.ref h0]) (n := 3) (Nat.le_of_ble_eq_true rfl)
  rw [lg_entry_eq]
  generalize (lg_sl ([.ref h0]) ++ List.replicate (3 - (lg_sl ([.ref h0])).length) Slot.unset).toArray = ls at hl ⊢
  have hl : lv_has ls 3 [(0, .ref h0)] := hl
  unfold qf_Src_closeLoop at h
  refine lv_aload_n hx hb qd_Src_closeLoop_0 rfl (lv_at hl 0 rfl) ?_
  refine va_get (D := (dC, dI)) (ci := 5) (v := .int (s0 5 0)) (C := "QuietSweep$Source") (T := qT_Src) (N := 6) hx hb hts qi_Src hown hK.1 hP 0 rfl rfl 5 (by decide) (hts _ qw_37) (fun _ h9 => h9) rfl qd_Src_closeLoop_1 ?_
  refine lv_if_ne hx hb qd_Src_closeLoop_4 (tgt := 9) (by decide) (fun hc => ?_) (fun hc => ?_)
  · have h := qq_f hc h
    refine lv_aload_n hx hb qd_Src_closeLoop_9 rfl (lv_at hl 0 rfl) ?_
    refine lv_dup hx hb qd_Src_closeLoop_10 rfl ?_
    refine va_get (D := (dC, dI)) (ci := 5) (v := .int (s0 5 0)) (C := "QuietSweep$Source") (T := qT_Src) (N := 6) hx hb hts qi_Src hown hK.1 hP 0 rfl rfl 5 (by decide) (hts _ qw_37) (fun _ h9 => h9) rfl qd_Src_closeLoop_11 ?_
    refine lv_iconst (v := 1) hx hb qd_Src_closeLoop_14 rfl ?_
    refine lv_isub hx hb qd_Src_closeLoop_15 ?_
    refine va_put (D := (dC, dI)) (ci := 5) (v := .int ((s0 5 0) - 1)) (ty := .int) (C := "QuietSweep$Source") (T := qT_Src) (N := 6) hx hb hts qi_Src qt_Src qo_Src qn_Src hown hK.1 hP hD hS 0 rfl rfl 5 (by decide) (hts _ qw_37) (fun _ h9 => h9) rfl (qo_Src 5 (by decide)) rfl rfl (Nat.le_of_ble_eq_true rfl) qd_Src_closeLoop_16 (fun H locs hP hD hS => ?_)
    have hP : va_P (dC, dI) qCl [(h0, .inr (5, [.ref (d0 0), .int (s0 1 0), .ref (d0 2), .int (s0 3 0), .ref (d0 4), .int ((s0 5 0) - 1)])), (d0 0, .inl (cC, 60, .inl (s0 0))), (d0 2, .inl (cI, 60, .inl (s0 2))), (d0 4, .inl (cI, 6, .inl (s0 4)))] _ := hP
    have hD : va_D A [(h0, .inr (5, [.ref (d0 0), .int (s0 1 0), .ref (d0 2), .int (s0 3 0), .ref (d0 4), .int ((s0 5 0) - 1)])), (d0 0, .inl (cC, 60, .inl (s0 0))), (d0 2, .inl (cI, 60, .inl (s0 2))), (d0 4, .inl (cI, 6, .inl (s0 4)))] := hD
    refine lv_aload_n hx hb qd_Src_closeLoop_19 rfl (lv_at hl 0 rfl) ?_
    refine va_get (D := (dC, dI)) (ci := 5) (v := .ref (d0 4)) (C := "QuietSweep$Source") (T := qT_Src) (N := 6) hx hb hts qi_Src hown hK.1 hP 0 rfl rfl 4 (by decide) (hts _ qw_36) (fun _ h9 => h9) rfl qd_Src_closeLoop_20 ?_
    refine lv_aload_n hx hb qd_Src_closeLoop_23 rfl (lv_at hl 0 rfl) ?_
    refine va_get (D := (dC, dI)) (ci := 5) (v := .int ((s0 5 0) - 1)) (C := "QuietSweep$Source") (T := qT_Src) (N := 6) hx hb hts qi_Src hown hK.1 hP 0 rfl rfl 5 (by decide) (hts _ qw_37) (fun _ h9 => h9) rfl qd_Src_closeLoop_24 ?_
    obtain ⟨hb1, h⟩ := qq_n h
    refine va_iald hx hb hK.1 hP 3 0 rfl rfl hb1 qd_Src_closeLoop_27 ?_
    refine lv_istore_n (lv' := [(1, .int ((s0 4) (Int32.toNatClampNeg ((s0 5 0) - 1)))), (0, .ref h0)]) hx hb qd_Src_closeLoop_28 rfl hl (by decide) rfl (fun ls hl => ?_)
    refine lv_aload_n hx hb qd_Src_closeLoop_29 rfl (lv_at hl 1 rfl) ?_
    refine va_get (D := (dC, dI)) (ci := 5) (v := .int (s0 3 0)) (C := "QuietSweep$Source") (T := qT_Src) (N := 6) hx hb hts qi_Src hown hK.1 hP 0 rfl rfl 3 (by decide) (hts _ qw_34) (fun _ h9 => h9) rfl qd_Src_closeLoop_30 ?_
    refine lv_istore_n (lv' := [(2, .int (s0 3 0)), (1, .int ((s0 4) (Int32.toNatClampNeg ((s0 5 0) - 1)))), (0, .ref h0)]) hx hb qd_Src_closeLoop_33 rfl hl (by decide) rfl (fun ls hl => ?_)
    refine lv_aload_n hx hb qd_Src_closeLoop_34 rfl (lv_at hl 2 rfl) ?_
    refine lv_aload_n hx hb qd_Src_closeLoop_35 rfl (lv_at hl 2 rfl) ?_
    refine va_get (D := (dC, dI)) (ci := 5) (v := .ref (d0 2)) (C := "QuietSweep$Source") (T := qT_Src) (N := 6) hx hb hts qi_Src hown hK.1 hP 0 rfl rfl 2 (by decide) (hts _ qw_32) (fun _ h9 => h9) rfl qd_Src_closeLoop_36 ?_
    refine lv_iload_n hx hb qd_Src_closeLoop_39 rfl (lv_at hl 1 rfl) ?_
    obtain ⟨hb2, h⟩ := qq_n h
    refine va_iald hx hb hK.1 hP 2 0 rfl rfl hb2 qd_Src_closeLoop_40 ?_
    refine lv_bipush (v := 64) hx hb qd_Src_closeLoop_41 (by decide) ?_
    refine lv_iadd hx hb qd_Src_closeLoop_43 ?_
    refine lv_sipush (v := 256) hx hb qd_Src_closeLoop_44 (by decide) ?_
    refine lv_iload_n hx hb qd_Src_closeLoop_47 rfl (lv_at hl 1 rfl) ?_
    refine lv_imul hx hb qd_Src_closeLoop_48 ?_
    refine lv_iadd hx hb qd_Src_closeLoop_49 ?_
    obtain ⟨q3, hq3, h⟩ := qq_b h
    have hPc := hP.sub (ws' := [(h0, .inr (5, [.ref (d0 0), .int ((qp s0 5 (fun _ => ((s0 5 0) - 1))) 1 0), .ref (d0 2), .int ((qp s0 5 (fun _ => ((s0 5 0) - 1))) 3 0), .ref (d0 4), .int ((qp s0 5 (fun _ => ((s0 5 0) - 1))) 5 0)])), (d0 0, .inl (cC, 60, .inl ((qp s0 5 (fun _ => ((s0 5 0) - 1))) 0))), (d0 2, .inl (cI, 60, .inl ((qp s0 5 (fun _ => ((s0 5 0) - 1))) 2))), (d0 4, .inl (cI, 6, .inl ((qp s0 5 (fun _ => ((s0 5 0) - 1))) 4)))]) [0, 1, 2, 3] rfl
    have hDc := hD.sub (ws' := [(h0, .inr (5, [.ref (d0 0), .int ((qp s0 5 (fun _ => ((s0 5 0) - 1))) 1 0), .ref (d0 2), .int ((qp s0 5 (fun _ => ((s0 5 0) - 1))) 3 0), .ref (d0 4), .int ((qp s0 5 (fun _ => ((s0 5 0) - 1))) 5 0)])), (d0 0, .inl (cC, 60, .inl ((qp s0 5 (fun _ => ((s0 5 0) - 1))) 0))), (d0 2, .inl (cI, 60, .inl ((qp s0 5 (fun _ => ((s0 5 0) - 1))) 2))), (d0 4, .inl (cI, 6, .inl ((qp s0 5 (fun _ => ((s0 5 0) - 1))) 4)))]) [0, 1, 2, 3] (by decide) rfl
    have hFc := va_free (wc := [(h0, .inr (5, [.ref (d0 0), .int ((qp s0 5 (fun _ => ((s0 5 0) - 1))) 1 0), .ref (d0 2), .int ((qp s0 5 (fun _ => ((s0 5 0) - 1))) 3 0), .ref (d0 4), .int ((qp s0 5 (fun _ => ((s0 5 0) - 1))) 5 0)])), (d0 0, .inl (cC, 60, .inl ((qp s0 5 (fun _ => ((s0 5 0) - 1))) 0))), (d0 2, .inl (cI, 60, .inl ((qp s0 5 (fun _ => ((s0 5 0) - 1))) 2))), (d0 4, .inl (cI, 6, .inl ((qp s0 5 (fun _ => ((s0 5 0) - 1))) 4)))]) hD hS hA [0, 1, 2, 3] rfl
    refine va_callv (va_runV (As := [.int ((((s0 2) (Int32.toNatClampNeg ((s0 4) (Int32.toNatClampNeg ((s0 5 0) - 1))))) + 64) + (256 * ((s0 4) (Int32.toNatClampNeg ((s0 5 0) - 1)))))]) (rest := []) ⟨hx, hb, hml, hown, hts⟩ (qm_Src_emit l dC dI cI cC cB cM h0 d0 (qp s0 5 (fun _ => ((s0 5 0) - 1))) ((((s0 2) (Int32.toNatClampNeg ((s0 4) (Int32.toNatClampNeg ((s0 5 0) - 1))))) + 64) + (256 * ((s0 4) (Int32.toNatClampNeg ((s0 5 0) - 1))))) _ q3 hq3) (q_CW hts qw_219 qw_221 qv_3 qw_2 qw_222 qh_Src_emit rfl rfl ⟨by decide, by decide⟩) (q_preV [.int ((((s0 2) (Int32.toNatClampNeg ((s0 4) (Int32.toNatClampNeg ((s0 5 0) - 1))))) + 64) + (256 * ((s0 4) (Int32.toNatClampNeg ((s0 5 0) - 1)))))] 0 rfl rfl hK hPc hDc) rfl rfl hl.1 rfl (lv_room (Nat.le_of_ble_eq_true rfl)) qd_Src_closeLoop_50 ⟨Nat.zero_le _, Nat.zero_le _⟩) hS (fun q _ h => hFc q h) hFc (fun u t H1 locs ht hvm hw hB hz1 hk1 hS => ?_)
    obtain ⟨hP1, hD1⟩ := hB
    rw [ht] at hP1
    obtain ⟨hP, hD⟩ := va_join (wr := []) (w1 := [(h0, .inr (5, [.ref (d0 0), .int (q3 1 0), .ref (d0 2), .int (q3 3 0), .ref (d0 4), .int (q3 5 0)])), (d0 0, .inl (cC, 60, .inl (q3 0))), (d0 2, .inl (cI, 60, .inl (q3 2))), (d0 4, .inl (cI, 6, .inl (q3 4)))]) hP hD [0, 1, 2, 3] [] rfl rfl (by decide) (by decide) hk1 hFc hP1 hD1
    have hP := hP.sub (ws' := [(h0, .inr (5, [.ref (d0 0), .int (q3 1 0), .ref (d0 2), .int (q3 3 0), .ref (d0 4), .int (q3 5 0)])), (d0 0, .inl (cC, 60, .inl (q3 0))), (d0 2, .inl (cI, 60, .inl (q3 2))), (d0 4, .inl (cI, 6, .inl (q3 4)))]) [0, 1, 2, 3] rfl
    have hD := hD.sub (ws' := [(h0, .inr (5, [.ref (d0 0), .int (q3 1 0), .ref (d0 2), .int (q3 3 0), .ref (d0 4), .int (q3 5 0)])), (d0 0, .inl (cC, 60, .inl (q3 0))), (d0 2, .inl (cI, 60, .inl (q3 2))), (d0 4, .inl (cI, 6, .inl (q3 4)))]) [0, 1, 2, 3] (by decide) rfl
    refine lv_aload_n hx hb qd_Src_closeLoop_53 rfl (lv_at hl 2 rfl) ?_
    refine va_get (D := (dC, dI)) (ci := 5) (v := .ref (d0 2)) (C := "QuietSweep$Source") (T := qT_Src) (N := 6) hx hb hts qi_Src hown hK.1 hP 0 rfl rfl 2 (by decide) (hts _ qw_32) (fun _ h9 => h9) rfl qd_Src_closeLoop_54 ?_
    refine lv_iload_n hx hb qd_Src_closeLoop_57 rfl (lv_at hl 1 rfl) ?_
    refine lv_dup2_11 hx hb qd_Src_closeLoop_58 rfl rfl ?_
    obtain ⟨hb4, h⟩ := qq_n h
    refine va_iald hx hb hK.1 hP 2 0 rfl rfl hb4 qd_Src_closeLoop_59 ?_
    refine lv_sipush (v := 256) hx hb qd_Src_closeLoop_60 (by decide) ?_
    refine lv_iload_n hx hb qd_Src_closeLoop_63 rfl (lv_at hl 0 rfl) ?_
    refine lv_imul hx hb qd_Src_closeLoop_64 ?_
    refine lv_iadd hx hb qd_Src_closeLoop_65 ?_
    obtain ⟨hb5, h⟩ := qq_n h
    refine va_iast hx hb hK.1 hP hD hS 2 0 rfl rfl hb5 qd_Src_closeLoop_66 (fun H locs hP hD hS => ?_)
    have hP : va_P (dC, dI) qCl [(h0, .inr (5, [.ref (d0 0), .int (q3 1 0), .ref (d0 2), .int (q3 3 0), .ref (d0 4), .int (q3 5 0)])), (d0 0, .inl (cC, 60, .inl (q3 0))), (d0 2, .inl (cI, 60, .inl (upd (q3 2) (Int32.toNatClampNeg ((s0 4) (Int32.toNatClampNeg ((s0 5 0) - 1)))) (((q3 2) (Int32.toNatClampNeg ((s0 4) (Int32.toNatClampNeg ((s0 5 0) - 1))))) + (256 * (s0 3 0)))))), (d0 4, .inl (cI, 6, .inl (q3 4)))] _ := hP
    have hD : va_D A [(h0, .inr (5, [.ref (d0 0), .int (q3 1 0), .ref (d0 2), .int (q3 3 0), .ref (d0 4), .int (q3 5 0)])), (d0 0, .inl (cC, 60, .inl (q3 0))), (d0 2, .inl (cI, 60, .inl (upd (q3 2) (Int32.toNatClampNeg ((s0 4) (Int32.toNatClampNeg ((s0 5 0) - 1)))) (((q3 2) (Int32.toNatClampNeg ((s0 4) (Int32.toNatClampNeg ((s0 5 0) - 1))))) + (256 * (s0 3 0)))))), (d0 4, .inl (cI, 6, .inl (q3 4)))] := hD
    refine lv_iconst (v := 1) hx hb qd_Src_closeLoop_67 rfl ?_
    obtain rfl := Option.some.inj h
    exact W.iret (v := 1) hx hb hr (fun t ht hW => ⟨⟨1, (), rfl, rfl, by rw [ht]; exact hP, hD⟩, hS.F ht⟩) hS.2.2 qd_Src_closeLoop_68
  · have h := qq_t hc h
    refine lv_iconst (v := 0) hx hb qd_Src_closeLoop_7 rfl ?_
    obtain rfl := Option.some.inj h
    exact W.iret (v := 0) hx hb hr (fun t ht hW => ⟨⟨0, (), rfl, rfl, by rw [ht]; exact hP, hD⟩, hS.F ht⟩) hS.2.2 qd_Src_closeLoop_8
/-! QuietSweep.write(C)Z -/
def qf_Qs_write (a1 : Int32) (s1 : QS) : Option (Int32 × QS) := ((qf_Src_append a1 s1).bind fun q1 => (if vp_nar .boolean q1.1 = q1.1 then (some (q1.1, q1.2)) else none))
set_option maxHeartbeats 4000000 in
set_option maxRecDepth 100000 in
theorem qm_Qs_write (l : Launch) (dC : Nat → ClassId) (dI : Nat → Nat → Nat) (cI cC cB cM : ClassId) (h0 : Nat) (d0 : Nat → Nat) (d1 : Nat → Nat) (s1 : QS) (a1 : Int32) (sz : Nat) (o : Int32 × QS) (h : qf_Qs_write a1 s1 = some o) : Met l qy_Qs_write (ql_Qs_write :: qG) ({ frames := 1, cells := 0, slots := 0, locals := 21 } : Room) (qPc dC dI cI cC cB cM [.ref h0, .int a1] sz [(h0, .inr (6, [.ref (d0 0), .ref (d0 1), .ref (d0 2), .ref (d0 3)])), ((d0 0), .inr (5, [.ref (d1 0), .int (s1 1 0), .ref (d1 2), .int (s1 3 0), .ref (d1 4), .int (s1 5 0)])), (d1 0, .inl (cC, 60, .inl (s1 0))), (d1 2, .inl (cI, 60, .inl (s1 2))), (d1 4, .inl (cI, 6, .inl (s1 4)))]) (va_Qi (fun r (_ : Unit) => r = o.1) (fun _ t => va_P (dC, dI) qCl [(h0, .inr (6, [.ref (d0 0), .ref (d0 1), .ref (d0 2), .ref (d0 3)])), ((d0 0), .inr (5, [.ref (d1 0), .int (o.2 1 0), .ref (d1 2), .int (o.2 3 0), .ref (d1 4), .int (o.2 5 0)])), (d1 0, .inl (cC, 60, .inl (o.2 0))), (d1 2, .inl (cI, 60, .inl (o.2 2))), (d1 4, .inl (cI, 6, .inl (o.2 4)))] t.heap ∧ va_D (va_A [(h0, .inr (6, [.ref (d0 0), .ref (d0 1), .ref (d0 2), .ref (d0 3)])), ((d0 0), .inr (5, [.ref (d1 0), .int (s1 1 0), .ref (d1 2), .int (s1 3 0), .ref (d1 4), .int (s1 5 0)])), (d1 0, .inl (cC, 60, .inl (s1 0))), (d1 2, .inl (cI, 60, .inl (s1 2))), (d1 4, .inl (cI, 6, .inl (s1 4)))] sz) [(h0, .inr (6, [.ref (d0 0), .ref (d0 1), .ref (d0 2), .ref (d0 3)])), ((d0 0), .inr (5, [.ref (d1 0), .int (o.2 1 0), .ref (d1 2), .int (o.2 3 0), .ref (d1 4), .int (o.2 5 0)])), (d1 0, .inl (cC, 60, .inl (o.2 0))), (d1 2, .inl (cI, 60, .inl (o.2 2))), (d1 4, .inl (cI, 6, .inl (o.2 4)))]) (va_A [(h0, .inr (6, [.ref (d0 0), .ref (d0 1), .ref (d0 2), .ref (d0 3)])), ((d0 0), .inr (5, [.ref (d1 0), .int (s1 1 0), .ref (d1 2), .int (s1 3 0), .ref (d1 4), .int (s1 5 0)])), (d1 0, .inl (cC, 60, .inl (s1 0))), (d1 2, .inl (cI, 60, .inl (s1 2))), (d1 4, .inl (cI, 6, .inl (s1 4)))] sz)) 0 0 (va_A [(h0, .inr (6, [.ref (d0 0), .ref (d0 1), .ref (d0 2), .ref (d0 3)])), ((d0 0), .inr (5, [.ref (d1 0), .int (s1 1 0), .ref (d1 2), .int (s1 3 0), .ref (d1 4), .int (s1 5 0)])), (d1 0, .inl (cC, 60, .inl (s1 0))), (d1 2, .inl (cI, 60, .inl (s1 2))), (d1 4, .inl (cI, 6, .inl (s1 4)))] sz) := by
  refine Met.ofW (cc := qc_Qs_write) (maxL := 2) (ret := (some .boolean)) (by decide) rfl ?_
  intro p e s m args below meth c s₁ B hml hv
  obtain ⟨rfl, hsz, hP, hK, hD0⟩ := hv
  have hx := B.exec
  have hb := B.bytes
  have hr := B.returns
  have hts0 := atoms_spec (ws := ql_Qs_write :: qG) B.pre
  have hts := fun (w : Cond) (hw : w ∈ qG) => hts0 w (List.mem_cons_of_mem _ hw)
  have hown : s.vm.findClass "QuietSweep" = some m.cls := findClass_of_methodNamed B.named
  have hlocks := B.notSynchronized
  subst hsz
  have hD := hD0.self (sz := s.heap.size)
  generalize hAe : va_A [(h0, .inr (6, [.ref (d0 0), .ref (d0 1), .ref (d0 2), .ref (d0 3)])), ((d0 0), .inr (5, [.ref (d1 0), .int (s1 1 0), .ref (d1 2), .int (s1 3 0), .ref (d1 4), .int (s1 5 0)])), (d1 0, .inl (cC, 60, .inl (s1 0))), (d1 2, .inl (cI, 60, .inl (s1 2))), (d1 4, .inl (cI, 6, .inl (s1 4)))] s.heap.size = A at hD ⊢
  have hA : ∀ q : Nat, s.heap.size ≤ q → A q := fun q h => by rw [← hAe]; exact Or.inr h
  have hS : va_S A s.heap s.heap [] := va_S.rf
  have hl := lv_entry ([.ref h0, .int a1]) (n := 2) (Nat.le_of_ble_eq_true rfl)
  rw [lg_entry_eq]
  generalize (lg_sl ([.ref h0, .int a1]) ++ List.replicate (2 - (lg_sl ([.ref h0, .int a1])).length) Slot.unset).toArray = ls at hl ⊢
  have hl : lv_has ls 2 [(0, .ref h0), (1, .int a1)] := hl
  unfold qf_Qs_write at h
  refine lv_aload_n hx hb qd_Qs_write_0 rfl (lv_at hl 0 rfl) ?_
  refine va_get (D := (dC, dI)) (ci := 6) (v := .ref (d0 0)) (C := "QuietSweep") (T := qT_Qs) (N := 4) hx hb hts qi_Qs hown hK.1 hP 0 rfl rfl 0 (by decide) (hts _ qw_176) (fun _ h9 => h9) rfl qd_Qs_write_1 ?_
  refine lv_iload_n hx hb qd_Qs_write_4 rfl (lv_at hl 1 rfl) ?_
  obtain ⟨q1, hq1, h⟩ := qq_b h
  have hPc := hP.sub (ws' := [((d0 0), .inr (5, [.ref (d1 0), .int (s1 1 0), .ref (d1 2), .int (s1 3 0), .ref (d1 4), .int (s1 5 0)])), (d1 0, .inl (cC, 60, .inl (s1 0))), (d1 2, .inl (cI, 60, .inl (s1 2))), (d1 4, .inl (cI, 6, .inl (s1 4)))]) [1, 2, 3, 4] rfl
  have hDc := hD.sub (ws' := [((d0 0), .inr (5, [.ref (d1 0), .int (s1 1 0), .ref (d1 2), .int (s1 3 0), .ref (d1 4), .int (s1 5 0)])), (d1 0, .inl (cC, 60, .inl (s1 0))), (d1 2, .inl (cI, 60, .inl (s1 2))), (d1 4, .inl (cI, 6, .inl (s1 4)))]) [1, 2, 3, 4] (by decide) rfl
  have hFc := va_free (wc := [((d0 0), .inr (5, [.ref (d1 0), .int (s1 1 0), .ref (d1 2), .int (s1 3 0), .ref (d1 4), .int (s1 5 0)])), (d1 0, .inl (cC, 60, .inl (s1 0))), (d1 2, .inl (cI, 60, .inl (s1 2))), (d1 4, .inl (cI, 6, .inl (s1 4)))]) hD hS hA [1, 2, 3, 4] rfl
  refine va_calli (va_runV (As := [.int a1]) (rest := []) ⟨hx, hb, hml, hown, hts⟩ (qm_Src_append l dC dI cI cC cB cM (d0 0) d1 s1 a1 _ q1 hq1) (q_CW hts qw_193 qw_194 qw_195 qw_2 qw_196 qh_Src_append rfl rfl ⟨by decide, by decide⟩) (q_preV [.int a1] 0 rfl rfl hK hPc hDc) rfl rfl hl.1 rfl (lv_room (Nat.le_of_ble_eq_true rfl)) qd_Qs_write_5 ⟨Nat.zero_le _, Nat.zero_le _⟩) hS (fun q _ h => hFc q h) hFc (fun r u t H1 locs ht hvm hw hB hz1 hk1 hS => ?_)
  have hw : q1.1 = r := Eq.symm hw
  subst hw
  obtain ⟨hP1, hD1⟩ := hB
  rw [ht] at hP1
  obtain ⟨hP, hD⟩ := va_join (wr := [(h0, .inr (6, [.ref (d0 0), .ref (d0 1), .ref (d0 2), .ref (d0 3)]))]) (w1 := [((d0 0), .inr (5, [.ref (d1 0), .int (q1.2 1 0), .ref (d1 2), .int (q1.2 3 0), .ref (d1 4), .int (q1.2 5 0)])), (d1 0, .inl (cC, 60, .inl (q1.2 0))), (d1 2, .inl (cI, 60, .inl (q1.2 2))), (d1 4, .inl (cI, 6, .inl (q1.2 4)))]) hP hD [1, 2, 3, 4] [0] rfl rfl (by decide) (by decide) hk1 hFc hP1 hD1
  have hP := hP.sub (ws' := [(h0, .inr (6, [.ref (d0 0), .ref (d0 1), .ref (d0 2), .ref (d0 3)])), ((d0 0), .inr (5, [.ref (d1 0), .int (q1.2 1 0), .ref (d1 2), .int (q1.2 3 0), .ref (d1 4), .int (q1.2 5 0)])), (d1 0, .inl (cC, 60, .inl (q1.2 0))), (d1 2, .inl (cI, 60, .inl (q1.2 2))), (d1 4, .inl (cI, 6, .inl (q1.2 4)))]) [0, 1, 2, 3, 4] rfl
  have hD := hD.sub (ws' := [(h0, .inr (6, [.ref (d0 0), .ref (d0 1), .ref (d0 2), .ref (d0 3)])), ((d0 0), .inr (5, [.ref (d1 0), .int (q1.2 1 0), .ref (d1 2), .int (q1.2 3 0), .ref (d1 4), .int (q1.2 5 0)])), (d1 0, .inl (cC, 60, .inl (q1.2 0))), (d1 2, .inl (cI, 60, .inl (q1.2 2))), (d1 4, .inl (cI, 6, .inl (q1.2 4)))]) [0, 1, 2, 3, 4] (by decide) rfl
  obtain ⟨hn2, h⟩ := qq_y h
  obtain rfl := Option.some.inj h
  exact W.zret (v := q1.1) hx hb hr (q_nz hn2) (fun t ht hW => ⟨⟨q1.1, (), rfl, rfl, by rw [ht]; exact hP, hD⟩, hS.F ht⟩) hS.2.2 qd_Qs_write_8
