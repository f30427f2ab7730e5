/-! QuietSweep$Outs.add(I)V -/
def qf_Out_add (a1 : Int32) (s0 : QS) : Option (QS) := (if (((s0 1 0) - (s0 1 0) / 16 * 16) < 0 ∨ 16 ≤ Int32.toNatClampNeg ((s0 1 0) - (s0 1 0) / 16 * 16)) then none else (some (qp (qp s0 1 (fun _ => ((s0 1 0) + 1))) 0 (upd (s0 0) (Int32.toNatClampNeg ((s0 1 0) - (s0 1 0) / 16 * 16)) a1))))
set_option maxHeartbeats 4000000 in
set_option maxRecDepth 100000 in
theorem qm_Out_add (l : Launch) (dC : Nat → ClassId) (dI : Nat → Nat → Nat) (cI cC cB cM : ClassId) (h0 : Nat) (d0 : Nat → Nat) (s0 : QS) (a1 : Int32) (sz : Nat) (o : QS) (h : qf_Out_add a1 s0 = some o) : Met l qy_Out_add (ql_Out_add :: qG) ({ frames := 0, cells := 0, slots := 0, locals := 0 } : Room) (qPc dC dI cI cC cB cM [.ref h0, .int a1] sz [(h0, .inr (4, [.ref (d0 0), .int (s0 1 0)])), (d0 0, .inl (cI, 16, .inl (s0 0)))]) (va_Qv (fun _ : Unit => True) (fun _ t => va_P (dC, dI) qCl [(h0, .inr (4, [.ref (d0 0), .int (o 1 0)])), (d0 0, .inl (cI, 16, .inl (o 0)))] t.heap ∧ va_D (va_A [(h0, .inr (4, [.ref (d0 0), .int (s0 1 0)])), (d0 0, .inl (cI, 16, .inl (s0 0)))] sz) [(h0, .inr (4, [.ref (d0 0), .int (o 1 0)])), (d0 0, .inl (cI, 16, .inl (o 0)))]) (va_A [(h0, .inr (4, [.ref (d0 0), .int (s0 1 0)])), (d0 0, .inl (cI, 16, .inl (s0 0)))] sz)) 0 0 (va_A [(h0, .inr (4, [.ref (d0 0), .int (s0 1 0)])), (d0 0, .inl (cI, 16, .inl (s0 0)))] sz) := by
  refine Met.ofW (cc := qc_Out_add) (maxL := 2) (ret := none) (by decide) rfl ?_
  intro p e s m args below meth c s₁ B hml hv
  obtain ⟨rfl, hsz, hP, hK, hD0⟩ := hv
  have hx := B.exec
  have hb := B.bytes
  have hr := B.returns
  have hts0 := atoms_spec (ws := ql_Out_add :: qG) B.pre
  have hts := fun (w : Cond) (hw : w ∈ qG) => hts0 w (List.mem_cons_of_mem _ hw)
  have hown : s.vm.findClass "QuietSweep$Outs" = some m.cls := findClass_of_methodNamed B.named
  have hlocks := B.notSynchronized
  subst hsz
  have hD := hD0.self (sz := s.heap.size)
  generalize hAe : va_A [(h0, .inr (4, [.ref (d0 0), .int (s0 1 0)])), (d0 0, .inl (cI, 16, .inl (s0 0)))] s.heap.size = A at hD ⊢
  have hA : ∀ q : Nat, s.heap.size ≤ q → A q := fun q h => by rw [← hAe]; exact Or.inr h
  have hS : va_S A s.heap s.heap [] := va_S.rf
  have hl := lv_entry ([.ref h0, .int a1]) (n := 2) (Nat.le_of_ble_eq_true rfl)
  rw [lg_entry_eq]
  generalize (lg_sl ([.ref h0, .int a1]) ++ List.replicate (2 - (lg_sl ([.ref h0, .int a1])).length) Slot.unset).toArray = ls at hl ⊢
  have hl : lv_has ls 2 [(0, .ref h0), (1, .int a1)] := hl
  unfold qf_Out_add at h
  refine lv_aload_n hx hb qd_Out_add_0 rfl (lv_at hl 0 rfl) ?_
  refine va_get (D := (dC, dI)) (ci := 4) (v := .ref (d0 0)) (C := "QuietSweep$Outs") (T := qT_Out) (N := 2) hx hb hts qi_Out hown hK.1 hP 0 rfl rfl 0 (by decide) (hts _ qw_112) (fun _ h9 => h9) rfl qd_Out_add_1 ?_
  refine lv_aload_n hx hb qd_Out_add_4 rfl (lv_at hl 0 rfl) ?_
  refine va_get (D := (dC, dI)) (ci := 4) (v := .int (s0 1 0)) (C := "QuietSweep$Outs") (T := qT_Out) (N := 2) hx hb hts qi_Out hown hK.1 hP 0 rfl rfl 1 (by decide) (hts _ qw_113) (fun _ h9 => h9) rfl qd_Out_add_5 ?_
  refine lv_bipush (v := 16) hx hb qd_Out_add_8 (by decide) ?_
  refine lv_irem hx hb qd_Out_add_10 (by decide) ?_
  refine lv_iload_n hx hb qd_Out_add_11 rfl (lv_at hl 1 rfl) ?_
  obtain ⟨hb1, h⟩ := qq_n h
  refine va_iast hx hb hK.1 hP hD hS 1 0 rfl rfl hb1 qd_Out_add_12 (fun H locs hP hD hS => ?_)
  have hP : va_P (dC, dI) qCl [(h0, .inr (4, [.ref (d0 0), .int (s0 1 0)])), (d0 0, .inl (cI, 16, .inl (upd (s0 0) (Int32.toNatClampNeg ((s0 1 0) - (s0 1 0) / 16 * 16)) a1)))] _ := hP
  have hD : va_D A [(h0, .inr (4, [.ref (d0 0), .int (s0 1 0)])), (d0 0, .inl (cI, 16, .inl (upd (s0 0) (Int32.toNatClampNeg ((s0 1 0) - (s0 1 0) / 16 * 16)) a1)))] := hD
  refine lv_aload_n hx hb qd_Out_add_13 rfl (lv_at hl 0 rfl) ?_
  refine lv_dup hx hb qd_Out_add_14 rfl ?_
  refine va_get (D := (dC, dI)) (ci := 4) (v := .int (s0 1 0)) (C := "QuietSweep$Outs") (T := qT_Out) (N := 2) hx hb hts qi_Out hown hK.1 hP 0 rfl rfl 1 (by decide) (hts _ qw_113) (fun _ h9 => h9) rfl qd_Out_add_15 ?_
  refine lv_iconst (v := 1) hx hb qd_Out_add_18 rfl ?_
  refine lv_iadd hx hb qd_Out_add_19 ?_
  refine va_put (D := (dC, dI)) (ci := 4) (v := .int ((s0 1 0) + 1)) (ty := .int) (C := "QuietSweep$Outs") (T := qT_Out) (N := 2) hx hb hts qi_Out qt_Out qo_Out qn_Out hown hK.1 hP hD hS 0 rfl rfl 1 (by decide) (hts _ qw_113) (fun _ h9 => h9) rfl (qo_Out 1 (by decide)) rfl rfl (Nat.le_of_ble_eq_true rfl) qd_Out_add_20 (fun H locs hP hD hS => ?_)
  have hP : va_P (dC, dI) qCl [(h0, .inr (4, [.ref (d0 0), .int ((s0 1 0) + 1)])), (d0 0, .inl (cI, 16, .inl (upd (s0 0) (Int32.toNatClampNeg ((s0 1 0) - (s0 1 0) / 16 * 16)) a1)))] _ := hP
  have hD : va_D A [(h0, .inr (4, [.ref (d0 0), .int ((s0 1 0) + 1)])), (d0 0, .inl (cI, 16, .inl (upd (s0 0) (Int32.toNatClampNeg ((s0 1 0) - (s0 1 0) / 16 * 16)) a1)))] := hD
  obtain rfl := Option.some.inj h
  exact W.vret hx hb hr (fun t ht hW => ⟨⟨(), rfl, trivial, by rw [ht]; exact hP, hD⟩, hS.F ht⟩) hS.2.2 qd_Out_add_23
/-! QuietSweep$Outs.latest(I)I -/
def qf_Out_latest (a1 : Int32) (s0 : QS) : Option (Int32) := (if a1 < 0 then (some 0) else (if 16 ≤ a1 then (some 0) else (if a1 < (s0 1 0) then (if (((((s0 1 0) - 1) - a1) - (((s0 1 0) - 1) - a1) / 16 * 16) < 0 ∨ 16 ≤ Int32.toNatClampNeg ((((s0 1 0) - 1) - a1) - (((s0 1 0) - 1) - a1) / 16 * 16)) then none else (some ((s0 0) (Int32.toNatClampNeg ((((s0 1 0) - 1) - a1) - (((s0 1 0) - 1) - a1) / 16 * 16))))) else (some 0))))
set_option maxHeartbeats 4000000 in
set_option maxRecDepth 100000 in
theorem qm_Out_latest (l : Launch) (dC : Nat → ClassId) (dI : Nat → Nat → Nat) (cI cC cB cM : ClassId) (h0 : Nat) (d0 : Nat → Nat) (s0 : QS) (a1 : Int32) (sz : Nat) (o : Int32) (h : qf_Out_latest a1 s0 = some o) : Met l qy_Out_latest (ql_Out_latest :: qG) ({ frames := 0, cells := 0, slots := 0, locals := 0 } : Room) (qPc dC dI cI cC cB cM [.ref h0, .int a1] sz [(h0, .inr (4, [.ref (d0 0), .int (s0 1 0)])), (d0 0, .inl (cI, 16, .inl (s0 0)))]) (va_Qi (fun r (_ : Unit) => r = o) (fun _ t => va_P (dC, dI) qCl [(h0, .inr (4, [.ref (d0 0), .int (s0 1 0)])), (d0 0, .inl (cI, 16, .inl (s0 0)))] t.heap ∧ va_D (va_A [(h0, .inr (4, [.ref (d0 0), .int (s0 1 0)])), (d0 0, .inl (cI, 16, .inl (s0 0)))] sz) [(h0, .inr (4, [.ref (d0 0), .int (s0 1 0)])), (d0 0, .inl (cI, 16, .inl (s0 0)))]) (va_A [(h0, .inr (4, [.ref (d0 0), .int (s0 1 0)])), (d0 0, .inl (cI, 16, .inl (s0 0)))] sz)) 0 0 (va_A [(h0, .inr (4, [.ref (d0 0), .int (s0 1 0)])), (d0 0, .inl (cI, 16, .inl (s0 0)))] sz) := by
  refine Met.ofW (cc := qc_Out_latest) (maxL := 2) (ret := (some .int)) (by decide) rfl ?_
  intro p e s m args below meth c s₁ B hml hv
  obtain ⟨rfl, hsz, hP, hK, hD0⟩ := hv
  have hx := B.exec
  have hb := B.bytes
  have hr := B.returns
  have hts0 := atoms_spec (ws := ql_Out_latest :: qG) B.pre
  have hts := fun (w : Cond) (hw : w ∈ qG) => hts0 w (List.mem_cons_of_mem _ hw)
  have hown : s.vm.findClass "QuietSweep$Outs" = some m.cls := findClass_of_methodNamed B.named
  have hlocks := B.notSynchronized
  subst hsz
  have hD := hD0.self (sz := s.heap.size)
  generalize hAe : va_A [(h0, .inr (4, [.ref (d0 0), .int (s0 1 0)])), (d0 0, .inl (cI, 16, .inl (s0 0)))] s.heap.size = A at hD ⊢
  have hA : ∀ q : Nat, s.heap.size ≤ q → A q := fun q h => by rw [← hAe]; exact Or.inr h
  have hS : va_S A s.heap s.heap [] := va_S.rf
  have hl := lv_entry ([.ref h0, .int a1]) (n := 2) (Nat.le_of_ble_eq_true rfl)
  rw [lg_entry_eq]
  generalize (lg_sl ([.ref h0, .int a1]) ++ List.replicate (2 - (lg_sl ([.ref h0, .int a1])).length) Slot.unset).toArray = ls at hl ⊢
  have hl : lv_has ls 2 [(0, .ref h0), (1, .int a1)] := hl
  unfold qf_Out_latest at h
  refine lv_iload_n hx hb qd_Out_latest_0 rfl (lv_at hl 1 rfl) ?_
  refine lv_if_lt hx hb qd_Out_latest_1 (tgt := 18) (by decide) (fun hc => ?_) (fun hc => ?_)
  · have h := qq_t hc h
    refine lv_iconst (v := 0) hx hb qd_Out_latest_18 rfl ?_
    obtain rfl := Option.some.inj h
    exact W.iret (v := 0) hx hb hr (fun t ht hW => ⟨⟨0, (), rfl, rfl, by rw [ht]; exact hP, hD⟩, hS.F ht⟩) hS.2.2 qd_Out_latest_19
  · have h := qq_f hc h
    refine lv_iload_n hx hb qd_Out_latest_4 rfl (lv_at hl 1 rfl) ?_
    refine lv_bipush (v := 16) hx hb qd_Out_latest_5 (by decide) ?_
    refine lv_icmp_ge hx hb qd_Out_latest_7 (tgt := 18) (by decide) (fun hc => ?_) (fun hc => ?_)
    · have h := qq_t hc h
      refine lv_iconst (v := 0) hx hb qd_Out_latest_18 rfl ?_
      obtain rfl := Option.some.inj h
      exact W.iret (v := 0) hx hb hr (fun t ht hW => ⟨⟨0, (), rfl, rfl, by rw [ht]; exact hP, hD⟩, hS.F ht⟩) hS.2.2 qd_Out_latest_19
    · have h := qq_f hc h
      refine lv_iload_n hx hb qd_Out_latest_10 rfl (lv_at hl 1 rfl) ?_
      refine lv_aload_n hx hb qd_Out_latest_11 rfl (lv_at hl 0 rfl) ?_
      refine va_get (D := (dC, dI)) (ci := 4) (v := .int (s0 1 0)) (C := "QuietSweep$Outs") (T := qT_Out) (N := 2) hx hb hts qi_Out hown hK.1 hP 0 rfl rfl 1 (by decide) (hts _ qw_113) (fun _ h9 => h9) rfl qd_Out_latest_12 ?_
      refine lv_icmp_lt hx hb qd_Out_latest_15 (tgt := 20) (by decide) (fun hc => ?_) (fun hc => ?_)
      · have h := qq_t hc h
        refine lv_aload_n hx hb qd_Out_latest_20 rfl (lv_at hl 0 rfl) ?_
        refine va_get (D := (dC, dI)) (ci := 4) (v := .ref (d0 0)) (C := "QuietSweep$Outs") (T := qT_Out) (N := 2) hx hb hts qi_Out hown hK.1 hP 0 rfl rfl 0 (by decide) (hts _ qw_112) (fun _ h9 => h9) rfl qd_Out_latest_21 ?_
        refine lv_aload_n hx hb qd_Out_latest_24 rfl (lv_at hl 0 rfl) ?_
        refine va_get (D := (dC, dI)) (ci := 4) (v := .int (s0 1 0)) (C := "QuietSweep$Outs") (T := qT_Out) (N := 2) hx hb hts qi_Out hown hK.1 hP 0 rfl rfl 1 (by decide) (hts _ qw_113) (fun _ h9 => h9) rfl qd_Out_latest_25 ?_
        refine lv_iconst (v := 1) hx hb qd_Out_latest_28 rfl ?_
        refine lv_isub hx hb qd_Out_latest_29 ?_
        refine lv_iload_n hx hb qd_Out_latest_30 rfl (lv_at hl 1 rfl) ?_
        refine lv_isub hx hb qd_Out_latest_31 ?_
        refine lv_bipush (v := 16) hx hb qd_Out_latest_32 (by decide) ?_
        refine lv_irem hx hb qd_Out_latest_34 (by decide) ?_
        obtain ⟨hb1, h⟩ := qq_n h
        refine va_iald hx hb hK.1 hP 1 0 rfl rfl hb1 qd_Out_latest_35 ?_
        obtain rfl := Option.some.inj h
        exact W.iret (v := ((s0 0) (Int32.toNatClampNeg ((((s0 1 0) - 1) - a1) - (((s0 1 0) - 1) - a1) / 16 * 16)))) hx hb hr (fun t ht hW => ⟨⟨((s0 0) (Int32.toNatClampNeg ((((s0 1 0) - 1) - a1) - (((s0 1 0) - 1) - a1) / 16 * 16))), (), rfl, rfl, by rw [ht]; exact hP, hD⟩, hS.F ht⟩) hS.2.2 qd_Out_latest_36
      · have h := qq_f hc h
        refine lv_iconst (v := 0) hx hb qd_Out_latest_18 rfl ?_
        obtain rfl := Option.some.inj h
        exact W.iret (v := 0) hx hb hr (fun t ht hW => ⟨⟨0, (), rfl, rfl, by rw [ht]; exact hP, hD⟩, hS.F ht⟩) hS.2.2 qd_Out_latest_19
