/-! QuietSweep$Memory.isCell(I)Z -/
def qf_Mem_isCell (a1 : Int32) (s0 : QS) : Option (Int32) := (if a1 < 0 then (some 0) else (if (s0 0 0) ≤ a1 then (some 0) else (some 1)))
set_option maxHeartbeats 4000000 in
set_option maxRecDepth 100000 in
theorem qm_Mem_isCell (l : Launch) (dC : Nat → ClassId) (dI : Nat → Nat → Nat) (cI cC cB cM : ClassId) (h0 : Nat) (d0 : Nat → Nat) (s0 : QS) (a1 : Int32) (sz : Nat) (o : Int32) (h : qf_Mem_isCell a1 s0 = some o) : Met l qy_Mem_isCell (ql_Mem_isCell :: qG) ({ frames := 0, cells := 0, slots := 0, locals := 0 } : Room) (qPc dC dI cI cC cB cM [.ref h0, .int a1] sz [(h0, .inr (2, [.int (s0 0 0), .ref (d0 1), .ref (d0 2)])), (d0 1, .inl (cI, (s0 0 0).toNatClampNeg, .inl (s0 1))), (d0 2, .inl (cI, (3 * s0 0 0).toNatClampNeg, .inl (s0 2)))]) (va_Qi (fun r (_ : Unit) => r = o) (fun _ t => va_P (dC, dI) qCl [(h0, .inr (2, [.int (s0 0 0), .ref (d0 1), .ref (d0 2)])), (d0 1, .inl (cI, (s0 0 0).toNatClampNeg, .inl (s0 1))), (d0 2, .inl (cI, (3 * s0 0 0).toNatClampNeg, .inl (s0 2)))] t.heap ∧ va_D (va_A [(h0, .inr (2, [.int (s0 0 0), .ref (d0 1), .ref (d0 2)])), (d0 1, .inl (cI, (s0 0 0).toNatClampNeg, .inl (s0 1))), (d0 2, .inl (cI, (3 * s0 0 0).toNatClampNeg, .inl (s0 2)))] sz) [(h0, .inr (2, [.int (s0 0 0), .ref (d0 1), .ref (d0 2)])), (d0 1, .inl (cI, (s0 0 0).toNatClampNeg, .inl (s0 1))), (d0 2, .inl (cI, (3 * s0 0 0).toNatClampNeg, .inl (s0 2)))]) (va_A [(h0, .inr (2, [.int (s0 0 0), .ref (d0 1), .ref (d0 2)])), (d0 1, .inl (cI, (s0 0 0).toNatClampNeg, .inl (s0 1))), (d0 2, .inl (cI, (3 * s0 0 0).toNatClampNeg, .inl (s0 2)))] sz)) 0 0 (va_A [(h0, .inr (2, [.int (s0 0 0), .ref (d0 1), .ref (d0 2)])), (d0 1, .inl (cI, (s0 0 0).toNatClampNeg, .inl (s0 1))), (d0 2, .inl (cI, (3 * s0 0 0).toNatClampNeg, .inl (s0 2)))] sz) := by
  refine Met.ofW (cc := qc_Mem_isCell) (maxL := 2) (ret := (some .boolean)) (by decide) rfl ?_
  intro p e s m args below meth c s₁ B hml hv
  obtain ⟨rfl, hsz, hP, hK, hD0⟩ := hv
  have hx := B.exec
  have hb := B.bytes
  have hr := B.returns
  have hts0 := atoms_spec (ws := ql_Mem_isCell :: qG) B.pre
  have hts := fun (w : Cond) (hw : w ∈ qG) => hts0 w (List.mem_cons_of_mem _ hw)
  have hown : s.vm.findClass "QuietSweep$Memory" = some m.cls := findClass_of_methodNamed B.named
  have hlocks := B.notSynchronized
  subst hsz
  have hD := hD0.self (sz := s.heap.size)
  generalize hAe : va_A [(h0, .inr (2, [.int (s0 0 0), .ref (d0 1), .ref (d0 2)])), (d0 1, .inl (cI, (s0 0 0).toNatClampNeg, .inl (s0 1))), (d0 2, .inl (cI, (3 * s0 0 0).toNatClampNeg, .inl (s0 2)))] s.heap.size = A at hD ⊢
  have hA : ∀ q : Nat, s.heap.size ≤ q → A q := fun q h => by rw [← hAe]; exact Or.inr h
  have hS : va_S A s.heap s.heap [] := va_S.rf
  have hl := lv_entry ([.ref h0, .int a1]) (n := 2) (Nat.le_of_ble_eq_true rfl)
  rw [lg_entry_eq]
  generalize (lg_sl ([.ref h0, .int a1]) ++ List.replicate (2 - (lg_sl ([.ref h0, .int a1])).length) Slot.unset).toArray = ls at hl ⊢
  have hl : lv_has ls 2 [(0, .ref h0), (1, .int a1)] := hl
  unfold qf_Mem_isCell at h
  refine lv_iload_n hx hb qd_Mem_isCell_0 rfl (lv_at hl 1 rfl) ?_
  refine lv_if_lt hx hb qd_Mem_isCell_1 (tgt := 16) (by decide) (fun hc => ?_) (fun hc => ?_)
  · have h := qq_t hc h
    refine lv_iconst (v := 0) hx hb qd_Mem_isCell_16 rfl ?_
    obtain rfl := Option.some.inj h
    exact W.zret (v := 0) hx hb hr rfl (fun t ht hW => ⟨⟨0, (), rfl, rfl, by rw [ht]; exact hP, hD⟩, hS.F ht⟩) hS.2.2 qd_Mem_isCell_17
  · have h := qq_f hc h
    refine lv_iload_n hx hb qd_Mem_isCell_4 rfl (lv_at hl 1 rfl) ?_
    refine lv_aload_n hx hb qd_Mem_isCell_5 rfl (lv_at hl 0 rfl) ?_
    refine va_get (D := (dC, dI)) (ci := 2) (v := .int (s0 0 0)) (C := "QuietSweep$Memory") (T := qT_Mem) (N := 3) hx hb hts qi_Mem hown hK.1 hP 0 rfl rfl 0 (by decide) (hts _ qw_67) (fun _ h9 => h9) rfl qd_Mem_isCell_6 ?_
    refine lv_icmp_ge hx hb qd_Mem_isCell_9 (tgt := 16) (by decide) (fun hc => ?_) (fun hc => ?_)
    · have h := qq_t hc h
      refine lv_iconst (v := 0) hx hb qd_Mem_isCell_16 rfl ?_
      obtain rfl := Option.some.inj h
      exact W.zret (v := 0) hx hb hr rfl (fun t ht hW => ⟨⟨0, (), rfl, rfl, by rw [ht]; exact hP, hD⟩, hS.F ht⟩) hS.2.2 qd_Mem_isCell_17
    · have h := qq_f hc h
      refine lv_iconst (v := 1) hx hb qd_Mem_isCell_12 rfl ?_
      refine lv_goto hx hb qd_Mem_isCell_13 (tgt := 17) (by decide) ?_
      obtain rfl := Option.some.inj h
      exact W.zret (v := 1) hx hb hr rfl (fun t ht hW => ⟨⟨1, (), rfl, rfl, by rw [ht]; exact hP, hD⟩, hS.F ht⟩) hS.2.2 qd_Mem_isCell_17
/-! QuietSweep$Memory.read(II)I -/
def qf_Mem_read (a1 : Int32) (a2 : Int32) (s0 : QS) : Option (Int32) := (if (((3 * a1) + a2) < 0 ∨ (3 * s0 0 0).toNatClampNeg ≤ Int32.toNatClampNeg ((3 * a1) + a2)) then none else (some ((s0 2) (Int32.toNatClampNeg ((3 * a1) + a2)))))
set_option maxHeartbeats 4000000 in
set_option maxRecDepth 100000 in
theorem qm_Mem_read (l : Launch) (dC : Nat → ClassId) (dI : Nat → Nat → Nat) (cI cC cB cM : ClassId) (h0 : Nat) (d0 : Nat → Nat) (s0 : QS) (a1 : Int32) (a2 : Int32) (sz : Nat) (o : Int32) (h : qf_Mem_read a1 a2 s0 = some o) : Met l qy_Mem_read (ql_Mem_read :: qG) ({ frames := 0, cells := 0, slots := 0, locals := 0 } : Room) (qPc dC dI cI cC cB cM [.ref h0, .int a1, .int a2] sz [(h0, .inr (2, [.int (s0 0 0), .ref (d0 1), .ref (d0 2)])), (d0 1, .inl (cI, (s0 0 0).toNatClampNeg, .inl (s0 1))), (d0 2, .inl (cI, (3 * s0 0 0).toNatClampNeg, .inl (s0 2)))]) (va_Qi (fun r (_ : Unit) => r = o) (fun _ t => va_P (dC, dI) qCl [(h0, .inr (2, [.int (s0 0 0), .ref (d0 1), .ref (d0 2)])), (d0 1, .inl (cI, (s0 0 0).toNatClampNeg, .inl (s0 1))), (d0 2, .inl (cI, (3 * s0 0 0).toNatClampNeg, .inl (s0 2)))] t.heap ∧ va_D (va_A [(h0, .inr (2, [.int (s0 0 0), .ref (d0 1), .ref (d0 2)])), (d0 1, .inl (cI, (s0 0 0).toNatClampNeg, .inl (s0 1))), (d0 2, .inl (cI, (3 * s0 0 0).toNatClampNeg, .inl (s0 2)))] sz) [(h0, .inr (2, [.int (s0 0 0), .ref (d0 1), .ref (d0 2)])), (d0 1, .inl (cI, (s0 0 0).toNatClampNeg, .inl (s0 1))), (d0 2, .inl (cI, (3 * s0 0 0).toNatClampNeg, .inl (s0 2)))]) (va_A [(h0, .inr (2, [.int (s0 0 0), .ref (d0 1), .ref (d0 2)])), (d0 1, .inl (cI, (s0 0 0).toNatClampNeg, .inl (s0 1))), (d0 2, .inl (cI, (3 * s0 0 0).toNatClampNeg, .inl (s0 2)))] sz)) 0 0 (va_A [(h0, .inr (2, [.int (s0 0 0), .ref (d0 1), .ref (d0 2)])), (d0 1, .inl (cI, (s0 0 0).toNatClampNeg, .inl (s0 1))), (d0 2, .inl (cI, (3 * s0 0 0).toNatClampNeg, .inl (s0 2)))] sz) := by
  refine Met.ofW (cc := qc_Mem_read) (maxL := 3) (ret := (some .int)) (by decide) rfl ?_
  intro p e s m args below meth c s₁ B hml hv
  obtain ⟨rfl, hsz, hP, hK, hD0⟩ := hv
  have hx := B.exec
  have hb := B.bytes
  have hr := B.returns
  have hts0 := atoms_spec (ws := ql_Mem_read :: qG) B.pre
  have hts := fun (w : Cond) (hw : w ∈ qG) => hts0 w (List.mem_cons_of_mem _ hw)
  have hown : s.vm.findClass "QuietSweep$Memory" = some m.cls := findClass_of_methodNamed B.named
  have hlocks := B.notSynchronized
  subst hsz
  have hD := hD0.self (sz := s.heap.size)
  generalize hAe : va_A [(h0, .inr (2, [.int (s0 0 0), .ref (d0 1), .ref (d0 2)])), (d0 1, .inl (cI, (s0 0 0).toNatClampNeg, .inl (s0 1))), (d0 2, .inl (cI, (3 * s0 0 0).toNatClampNeg, .inl (s0 2)))] s.heap.size = A at hD ⊢
  have hA : ∀ q : Nat, s.heap.size ≤ q → A q := fun q h => by rw [← hAe]; exact Or.inr h
  have hS : va_S A s.heap s.heap [] := va_S.rf
  have hl := lv_entry ([.ref h0, .int a1, .int a2]) (n := 3) (Nat.le_of_ble_eq_true rfl)
  rw [lg_entry_eq]
  generalize (lg_sl ([.ref h0, .int a1, .int a2]) ++ List.replicate (3 - (lg_sl ([.ref h0, .int a1, .int a2])).length) Slot.unset).toArray = ls at hl ⊢
  have hl : lv_has ls 3 [(0, .ref h0), (1, .int a1), (2, .int a2)] := hl
  unfold qf_Mem_read at h
  refine lv_aload_n hx hb qd_Mem_read_0 rfl (lv_at hl 0 rfl) ?_
  refine va_get (D := (dC, dI)) (ci := 2) (v := .ref (d0 2)) (C := "QuietSweep$Memory") (T := qT_Mem) (N := 3) hx hb hts qi_Mem hown hK.1 hP 0 rfl rfl 2 (by decide) (hts _ qw_72) (fun _ h9 => h9) rfl qd_Mem_read_1 ?_
  refine lv_iconst (v := 3) hx hb qd_Mem_read_4 rfl ?_
  refine lv_iload_n hx hb qd_Mem_read_5 rfl (lv_at hl 1 rfl) ?_
  refine lv_imul hx hb qd_Mem_read_6 ?_
  refine lv_iload_n hx hb qd_Mem_read_7 rfl (lv_at hl 2 rfl) ?_
  refine lv_iadd hx hb qd_Mem_read_8 ?_
  obtain ⟨hb1, h⟩ := qq_n h
  refine va_iald hx hb hK.1 hP 2 0 rfl rfl hb1 qd_Mem_read_9 ?_
  obtain rfl := Option.some.inj h
  exact W.iret (v := ((s0 2) (Int32.toNatClampNeg ((3 * a1) + a2)))) hx hb hr (fun t ht hW => ⟨⟨((s0 2) (Int32.toNatClampNeg ((3 * a1) + a2))), (), rfl, rfl, by rw [ht]; exact hP, hD⟩, hS.F ht⟩) hS.2.2 qd_Mem_read_10
/-! QuietSweep$Memory.put(III)V -/
def qf_Mem_put (a1 : Int32) (a2 : Int32) (a3 : Int32) (s0 : QS) : Option (QS) := (if (((3 * a1) + a2) < 0 ∨ (3 * s0 0 0).toNatClampNeg ≤ Int32.toNatClampNeg ((3 * a1) + a2)) then none else (some (qp s0 2 (upd (s0 2) (Int32.toNatClampNeg ((3 * a1) + a2)) a3))))
set_option maxHeartbeats 4000000 in
set_option maxRecDepth 100000 in
theorem qm_Mem_put (l : Launch) (dC : Nat → ClassId) (dI : Nat → Nat → Nat) (cI cC cB cM : ClassId) (h0 : Nat) (d0 : Nat → Nat) (s0 : QS) (a1 : Int32) (a2 : Int32) (a3 : Int32) (sz : Nat) (o : QS) (h : qf_Mem_put a1 a2 a3 s0 = some o) : Met l qy_Mem_put (ql_Mem_put :: qG) ({ frames := 0, cells := 0, slots := 0, locals := 0 } : Room) (qPc dC dI cI cC cB cM [.ref h0, .int a1, .int a2, .int a3] sz [(h0, .inr (2, [.int (s0 0 0), .ref (d0 1), .ref (d0 2)])), (d0 1, .inl (cI, (s0 0 0).toNatClampNeg, .inl (s0 1))), (d0 2, .inl (cI, (3 * s0 0 0).toNatClampNeg, .inl (s0 2)))]) (va_Qv (fun _ : Unit => True) (fun _ t => va_P (dC, dI) qCl [(h0, .inr (2, [.int (o 0 0), .ref (d0 1), .ref (d0 2)])), (d0 1, .inl (cI, (o 0 0).toNatClampNeg, .inl (o 1))), (d0 2, .inl (cI, (3 * o 0 0).toNatClampNeg, .inl (o 2)))] t.heap ∧ va_D (va_A [(h0, .inr (2, [.int (s0 0 0), .ref (d0 1), .ref (d0 2)])), (d0 1, .inl (cI, (s0 0 0).toNatClampNeg, .inl (s0 1))), (d0 2, .inl (cI, (3 * s0 0 0).toNatClampNeg, .inl (s0 2)))] sz) [(h0, .inr (2, [.int (o 0 0), .ref (d0 1), .ref (d0 2)])), (d0 1, .inl (cI, (o 0 0).toNatClampNeg, .inl (o 1))), (d0 2, .inl (cI, (3 * o 0 0).toNatClampNeg, .inl (o 2)))]) (va_A [(h0, .inr (2, [.int (s0 0 0), .ref (d0 1), .ref (d0 2)])), (d0 1, .inl (cI, (s0 0 0).toNatClampNeg, .inl (s0 1))), (d0 2, .inl (cI, (3 * s0 0 0).toNatClampNeg, .inl (s0 2)))] sz)) 0 0 (va_A [(h0, .inr (2, [.int (s0 0 0), .ref (d0 1), .ref (d0 2)])), (d0 1, .inl (cI, (s0 0 0).toNatClampNeg, .inl (s0 1))), (d0 2, .inl (cI, (3 * s0 0 0).toNatClampNeg, .inl (s0 2)))] sz) := by
  refine Met.ofW (cc := qc_Mem_put) (maxL := 4) (ret := none) (by decide) rfl ?_
  intro p e s m args below meth c s₁ B hml hv
  obtain ⟨rfl, hsz, hP, hK, hD0⟩ := hv
  have hx := B.exec
  have hb := B.bytes
  have hr := B.returns
  have hts0 := atoms_spec (ws := ql_Mem_put :: qG) B.pre
  have hts := fun (w : Cond) (hw : w ∈ qG) => hts0 w (List.mem_cons_of_mem _ hw)
  have hown : s.vm.findClass "QuietSweep$Memory" = some m.cls := findClass_of_methodNamed B.named
  have hlocks := B.notSynchronized
  subst hsz
  have hD := hD0.self (sz := s.heap.size)
  generalize hAe : va_A [(h0, .inr (2, [.int (s0 0 0), .ref (d0 1), .ref (d0 2)])), (d0 1, .inl (cI, (s0 0 0).toNatClampNeg, .inl (s0 1))), (d0 2, .inl (cI, (3 * s0 0 0).toNatClampNeg, .inl (s0 2)))] s.heap.size = A at hD ⊢
  have hA : ∀ q : Nat, s.heap.size ≤ q → A q := fun q h => by rw [← hAe]; exact Or.inr h
  have hS : va_S A s.heap s.heap [] := va_S.rf
  have hl := lv_entry ([.ref h0, .int a1, .int a2, .int a3]) (n := 4) (Nat.le_of_ble_eq_true rfl)
  rw [lg_entry_eq]
  generalize (lg_sl ([.ref h0, .int a1, .int a2, .int a3]) ++ List.replicate (4 - (lg_sl ([.ref h0, .int a1, .int a2, .int a3])).length) Slot.unset).toArray = ls at hl ⊢
  have hl : lv_has ls 4 [(0, .ref h0), (1, .int a1), (2, .int a2), (3, .int a3)] := hl
  unfold qf_Mem_put at h
  refine lv_aload_n hx hb qd_Mem_put_0 rfl (lv_at hl 0 rfl) ?_
  refine va_get (D := (dC, dI)) (ci := 2) (v := .ref (d0 2)) (C := "QuietSweep$Memory") (T := qT_Mem) (N := 3) hx hb hts qi_Mem hown hK.1 hP 0 rfl rfl 2 (by decide) (hts _ qw_72) (fun _ h9 => h9) rfl qd_Mem_put_1 ?_
  refine lv_iconst (v := 3) hx hb qd_Mem_put_4 rfl ?_
  refine lv_iload_n hx hb qd_Mem_put_5 rfl (lv_at hl 1 rfl) ?_
  refine lv_imul hx hb qd_Mem_put_6 ?_
  refine lv_iload_n hx hb qd_Mem_put_7 rfl (lv_at hl 2 rfl) ?_
  refine lv_iadd hx hb qd_Mem_put_8 ?_
  refine lv_iload_n hx hb qd_Mem_put_9 rfl (lv_at hl 3 rfl) ?_
  obtain ⟨hb1, h⟩ := qq_n h
  refine va_iast hx hb hK.1 hP hD hS 2 0 rfl rfl hb1 qd_Mem_put_10 (fun H locs hP hD hS => ?_)
  have hP : va_P (dC, dI) qCl [(h0, .inr (2, [.int (s0 0 0), .ref (d0 1), .ref (d0 2)])), (d0 1, .inl (cI, (s0 0 0).toNatClampNeg, .inl (s0 1))), (d0 2, .inl (cI, (3 * s0 0 0).toNatClampNeg, .inl (upd (s0 2) (Int32.toNatClampNeg ((3 * a1) + a2)) a3)))] _ := hP
  have hD : va_D A [(h0, .inr (2, [.int (s0 0 0), .ref (d0 1), .ref (d0 2)])), (d0 1, .inl (cI, (s0 0 0).toNatClampNeg, .inl (s0 1))), (d0 2, .inl (cI, (3 * s0 0 0).toNatClampNeg, .inl (upd (s0 2) (Int32.toNatClampNeg ((3 * a1) + a2)) a3)))] := hD
  obtain rfl := Option.some.inj h
  exact W.vret hx hb hr (fun t ht hW => ⟨⟨(), rfl, trivial, by rw [ht]; exact hP, hD⟩, hS.F ht⟩) hS.2.2 qd_Mem_put_11
/-! QuietSweep$Memory.mark(I)V -/
def qf_Mem_mark (a1 : Int32) (s0 : QS) : Option (QS) := (if a1 = (-1) then (some s0) else (if (a1 < 0 ∨ (s0 0 0).toNatClampNeg ≤ Int32.toNatClampNeg a1) then none else (if ((s0 1) (Int32.toNatClampNeg a1)) = 1 then (if (a1 < 0 ∨ (s0 0 0).toNatClampNeg ≤ Int32.toNatClampNeg a1) then none else (some (qp s0 1 (upd (s0 1) (Int32.toNatClampNeg a1) 2)))) else (some s0))))
set_option maxHeartbeats 4000000 in
set_option maxRecDepth 100000 in
theorem qm_Mem_mark (l : Launch) (dC : Nat → ClassId) (dI : Nat → Nat → Nat) (cI cC cB cM : ClassId) (h0 : Nat) (d0 : Nat → Nat) (s0 : QS) (a1 : Int32) (sz : Nat) (o : QS) (h : qf_Mem_mark a1 s0 = some o) : Met l qy_Mem_mark (ql_Mem_mark :: qG) ({ frames := 0, cells := 0, slots := 0, locals := 0 } : Room) (qPc dC dI cI cC cB cM [.ref h0, .int a1] sz [(h0, .inr (2, [.int (s0 0 0), .ref (d0 1), .ref (d0 2)])), (d0 1, .inl (cI, (s0 0 0).toNatClampNeg, .inl (s0 1))), (d0 2, .inl (cI, (3 * s0 0 0).toNatClampNeg, .inl (s0 2)))]) (va_Qv (fun _ : Unit => True) (fun _ t => va_P (dC, dI) qCl [(h0, .inr (2, [.int (o 0 0), .ref (d0 1), .ref (d0 2)])), (d0 1, .inl (cI, (o 0 0).toNatClampNeg, .inl (o 1))), (d0 2, .inl (cI, (3 * o 0 0).toNatClampNeg, .inl (o 2)))] t.heap ∧ va_D (va_A [(h0, .inr (2, [.int (s0 0 0), .ref (d0 1), .ref (d0 2)])), (d0 1, .inl (cI, (s0 0 0).toNatClampNeg, .inl (s0 1))), (d0 2, .inl (cI, (3 * s0 0 0).toNatClampNeg, .inl (s0 2)))] sz) [(h0, .inr (2, [.int (o 0 0), .ref (d0 1), .ref (d0 2)])), (d0 1, .inl (cI, (o 0 0).toNatClampNeg, .inl (o 1))), (d0 2, .inl (cI, (3 * o 0 0).toNatClampNeg, .inl (o 2)))]) (va_A [(h0, .inr (2, [.int (s0 0 0), .ref (d0 1), .ref (d0 2)])), (d0 1, .inl (cI, (s0 0 0).toNatClampNeg, .inl (s0 1))), (d0 2, .inl (cI, (3 * s0 0 0).toNatClampNeg, .inl (s0 2)))] sz)) 0 0 (va_A [(h0, .inr (2, [.int (s0 0 0), .ref (d0 1), .ref (d0 2)])), (d0 1, .inl (cI, (s0 0 0).toNatClampNeg, .inl (s0 1))), (d0 2, .inl (cI, (3 * s0 0 0).toNatClampNeg, .inl (s0 2)))] sz) := by
  refine Met.ofW (cc := qc_Mem_mark) (maxL := 2) (ret := none) (by decide) rfl ?_
  intro p e s m args below meth c s₁ B hml hv
  obtain ⟨rfl, hsz, hP, hK, hD0⟩ := hv
  have hx := B.exec
  have hb := B.bytes
  have hr := B.returns
  have hts0 := atoms_spec (ws := ql_Mem_mark :: qG) B.pre
  have hts := fun (w : Cond) (hw : w ∈ qG) => hts0 w (List.mem_cons_of_mem _ hw)
  have hown : s.vm.findClass "QuietSweep$Memory" = some m.cls := findClass_of_methodNamed B.named
  have hlocks := B.notSynchronized
  subst hsz
  have hD := hD0.self (sz := s.heap.size)
  generalize hAe : va_A [(h0, .inr (2, [.int (s0 0 0), .ref (d0 1), .ref (d0 2)])), (d0 1, .inl (cI, (s0 0 0).toNatClampNeg, .inl (s0 1))), (d0 2, .inl (cI, (3 * s0 0 0).toNatClampNeg, .inl (s0 2)))] s.heap.size = A at hD ⊢
  have hA : ∀ q : Nat, s.heap.size ≤ q → A q := fun q h => by rw [← hAe]; exact Or.inr h
  have hS : va_S A s.heap s.heap [] := va_S.rf
  have hl := lv_entry ([.ref h0, .int a1]) (n := 2) (Nat.le_of_ble_eq_true rfl)
  rw [lg_entry_eq]
  generalize (lg_sl ([.ref h0, .int a1]) ++ List.replicate (2 - (lg_sl ([.ref h0, .int a1])).length) Slot.unset).toArray = ls at hl ⊢
  have hl : lv_has ls 2 [(0, .ref h0), (1, .int a1)] := hl
  unfold qf_Mem_mark at h
  refine lv_iload_n hx hb qd_Mem_mark_0 rfl (lv_at hl 1 rfl) ?_
  refine lv_iconst (v := (-1)) hx hb qd_Mem_mark_1 rfl ?_
  refine lv_icmp_eq hx hb qd_Mem_mark_2 (tgt := 22) (by decide) (fun hc => ?_) (fun hc => ?_)
  · have h := qq_t hc h
    obtain rfl := Option.some.inj h
    exact W.vret hx hb hr (fun t ht hW => ⟨⟨(), rfl, trivial, by rw [ht]; exact hP, hD⟩, hS.F ht⟩) hS.2.2 qd_Mem_mark_22
  · have h := qq_f hc h
    refine lv_aload_n hx hb qd_Mem_mark_5 rfl (lv_at hl 0 rfl) ?_
    refine va_get (D := (dC, dI)) (ci := 2) (v := .ref (d0 1)) (C := "QuietSweep$Memory") (T := qT_Mem) (N := 3) hx hb hts qi_Mem hown hK.1 hP 0 rfl rfl 1 (by decide) (hts _ qw_69) (fun _ h9 => h9) rfl qd_Mem_mark_6 ?_
    refine lv_iload_n hx hb qd_Mem_mark_9 rfl (lv_at hl 1 rfl) ?_
    obtain ⟨hb1, h⟩ := qq_n h
    refine va_iald hx hb hK.1 hP 1 0 rfl rfl hb1 qd_Mem_mark_10 ?_
    refine lv_iconst (v := 1) hx hb qd_Mem_mark_11 rfl ?_
    refine lv_icmp_ne hx hb qd_Mem_mark_12 (tgt := 22) (by decide) (fun hc => ?_) (fun hc => ?_)
    · have h := qq_f hc h
      obtain rfl := Option.some.inj h
      exact W.vret hx hb hr (fun t ht hW => ⟨⟨(), rfl, trivial, by rw [ht]; exact hP, hD⟩, hS.F ht⟩) hS.2.2 qd_Mem_mark_22
    · have h := qq_t hc h
      refine lv_aload_n hx hb qd_Mem_mark_15 rfl (lv_at hl 0 rfl) ?_
      refine va_get (D := (dC, dI)) (ci := 2) (v := .ref (d0 1)) (C := "QuietSweep$Memory") (T := qT_Mem) (N := 3) hx hb hts qi_Mem hown hK.1 hP 0 rfl rfl 1 (by decide) (hts _ qw_69) (fun _ h9 => h9) rfl qd_Mem_mark_16 ?_
      refine lv_iload_n hx hb qd_Mem_mark_19 rfl (lv_at hl 1 rfl) ?_
      refine lv_iconst (v := 2) hx hb qd_Mem_mark_20 rfl ?_
      obtain ⟨hb2, h⟩ := qq_n h
      refine va_iast hx hb hK.1 hP hD hS 1 0 rfl rfl hb2 qd_Mem_mark_21 (fun H locs hP hD hS => ?_)
      have hP : va_P (dC, dI) qCl [(h0, .inr (2, [.int (s0 0 0), .ref (d0 1), .ref (d0 2)])), (d0 1, .inl (cI, (s0 0 0).toNatClampNeg, .inl (upd (s0 1) (Int32.toNatClampNeg a1) 2))), (d0 2, .inl (cI, (3 * s0 0 0).toNatClampNeg, .inl (s0 2)))] _ := hP
      have hD : va_D A [(h0, .inr (2, [.int (s0 0 0), .ref (d0 1), .ref (d0 2)])), (d0 1, .inl (cI, (s0 0 0).toNatClampNeg, .inl (upd (s0 1) (Int32.toNatClampNeg a1) 2))), (d0 2, .inl (cI, (3 * s0 0 0).toNatClampNeg, .inl (s0 2)))] := hD
      obtain rfl := Option.some.inj h
      exact W.vret hx hb hr (fun t ht hW => ⟨⟨(), rfl, trivial, by rw [ht]; exact hP, hD⟩, hS.F ht⟩) hS.2.2 qd_Mem_mark_22
/-! QuietSweep$Memory.blank(I)V -/
def qf_Mem_blank (a1 : Int32) (s0 : QS) : Option (QS) := ((qf_Mem_put a1 0 (-1) s0).bind fun q1 => ((qf_Mem_put a1 1 (-1) q1).bind fun q2 => ((qf_Mem_put a1 2 0 q2).bind fun q3 => (some q3))))
set_option maxHeartbeats 4000000 in
set_option maxRecDepth 100000 in
theorem qm_Mem_blank (l : Launch) (dC : Nat → ClassId) (dI : Nat → Nat → Nat) (cI cC cB cM : ClassId) (h0 : Nat) (d0 : Nat → Nat) (s0 : QS) (a1 : Int32) (sz : Nat) (o : QS) (h : qf_Mem_blank a1 s0 = some o) : Met l qy_Mem_blank (ql_Mem_blank :: qG) ({ frames := 1, cells := 0, slots := 0, locals := 23 } : Room) (qPc dC dI cI cC cB cM [.ref h0, .int a1] sz [(h0, .inr (2, [.int (s0 0 0), .ref (d0 1), .ref (d0 2)])), (d0 1, .inl (cI, (s0 0 0).toNatClampNeg, .inl (s0 1))), (d0 2, .inl (cI, (3 * s0 0 0).toNatClampNeg, .inl (s0 2)))]) (va_Qv (fun _ : Unit => True) (fun _ t => va_P (dC, dI) qCl [(h0, .inr (2, [.int (o 0 0), .ref (d0 1), .ref (d0 2)])), (d0 1, .inl (cI, (o 0 0).toNatClampNeg, .inl (o 1))), (d0 2, .inl (cI, (3 * o 0 0).toNatClampNeg, .inl (o 2)))] t.heap ∧ va_D (va_A [(h0, .inr (2, [.int (s0 0 0), .ref (d0 1), .ref (d0 2)])), (d0 1, .inl (cI, (s0 0 0).toNatClampNeg, .inl (s0 1))), (d0 2, .inl (cI, (3 * s0 0 0).toNatClampNeg, .inl (s0 2)))] sz) [(h0, .inr (2, [.int (o 0 0), .ref (d0 1), .ref (d0 2)])), (d0 1, .inl (cI, (o 0 0).toNatClampNeg, .inl (o 1))), (d0 2, .inl (cI, (3 * o 0 0).toNatClampNeg, .inl (o 2)))]) (va_A [(h0, .inr (2, [.int (s0 0 0), .ref (d0 1), .ref (d0 2)])), (d0 1, .inl (cI, (s0 0 0).toNatClampNeg, .inl (s0 1))), (d0 2, .inl (cI, (3 * s0 0 0).toNatClampNeg, .inl (s0 2)))] sz)) 0 0 (va_A [(h0, .inr (2, [.int (s0 0 0), .ref (d0 1), .ref (d0 2)])), (d0 1, .inl (cI, (s0 0 0).toNatClampNeg, .inl (s0 1))), (d0 2, .inl (cI, (3 * s0 0 0).toNatClampNeg, .inl (s0 2)))] sz) := by
  refine Met.ofW (cc := qc_Mem_blank) (maxL := 2) (ret := none) (by decide) rfl ?_
  intro p e s m args below meth c s₁ B hml hv
  obtain ⟨rfl, hsz, hP, hK, hD0⟩ := hv
  have hx := B.exec
  have hb := B.bytes
  have hr := B.returns
  have hts0 := atoms_spec (ws := ql_Mem_blank :: qG) B.pre
  have hts := fun (w : Cond) (hw : w ∈ qG) => hts0 w (List.mem_cons_of_mem _ hw)
  have hown : s.vm.findClass "QuietSweep$Memory" = some m.cls := findClass_of_methodNamed B.named
  have hlocks := B.notSynchronized
  subst hsz
  have hD := hD0.self (sz := s.heap.size)
  generalize hAe : va_A [(h0, .inr (2, [.int (s0 0 0), .ref (d0 1), .ref (d0 2)])), (d0 1, .inl (cI, (s0 0 0).toNatClampNeg, .inl (s0 1))), (d0 2, .inl (cI, (3 * s0 0 0).toNatClampNeg, .inl (s0 2)))] s.heap.size = A at hD ⊢
  have hA : ∀ q : Nat, s.heap.size ≤ q → A q := fun q h => by rw [← hAe]; exact Or.inr h
  have hS : va_S A s.heap s.heap [] := va_S.rf
  have hl := lv_entry ([.ref h0, .int a1]) (n := 2) (Nat.le_of_ble_eq_true rfl)
  rw [lg_entry_eq]
  generalize (lg_sl ([.ref h0, .int a1]) ++ List.replicate (2 - (lg_sl ([.ref h0, .int a1])).length) Slot.unset).toArray = ls at hl ⊢
  have hl : lv_has ls 2 [(0, .ref h0), (1, .int a1)] := hl
  unfold qf_Mem_blank at h
  refine lv_aload_n hx hb qd_Mem_blank_0 rfl (lv_at hl 0 rfl) ?_
  refine lv_iload_n hx hb qd_Mem_blank_1 rfl (lv_at hl 1 rfl) ?_
  refine lv_iconst (v := 0) hx hb qd_Mem_blank_2 rfl ?_
  refine lv_iconst (v := (-1)) hx hb qd_Mem_blank_3 rfl ?_
  obtain ⟨q1, hq1, h⟩ := qq_b h
  have hPc := hP.sub (ws' := [(h0, .inr (2, [.int (s0 0 0), .ref (d0 1), .ref (d0 2)])), (d0 1, .inl (cI, (s0 0 0).toNatClampNeg, .inl (s0 1))), (d0 2, .inl (cI, (3 * s0 0 0).toNatClampNeg, .inl (s0 2)))]) [0, 1, 2] rfl
  have hDc := hD.sub (ws' := [(h0, .inr (2, [.int (s0 0 0), .ref (d0 1), .ref (d0 2)])), (d0 1, .inl (cI, (s0 0 0).toNatClampNeg, .inl (s0 1))), (d0 2, .inl (cI, (3 * s0 0 0).toNatClampNeg, .inl (s0 2)))]) [0, 1, 2] (by decide) rfl
  have hFc := va_free (wc := [(h0, .inr (2, [.int (s0 0 0), .ref (d0 1), .ref (d0 2)])), (d0 1, .inl (cI, (s0 0 0).toNatClampNeg, .inl (s0 1))), (d0 2, .inl (cI, (3 * s0 0 0).toNatClampNeg, .inl (s0 2)))]) hD hS hA [0, 1, 2] rfl
  refine va_callv (va_runV (As := [.int a1, .int 0, .int (-1)]) (rest := []) ⟨hx, hb, hml, hown, hts⟩ (qm_Mem_put l dC dI cI cC cB cM h0 d0 s0 a1 0 (-1) _ q1 hq1) (q_CW hts qw_63 qw_64 qw_65 qw_3 qw_66 qh_Mem_put rfl rfl ⟨by decide, by decide⟩) (q_preV [.int a1, .int 0, .int (-1)] 0 rfl rfl hK hPc hDc) rfl rfl hl.1 rfl (lv_room (Nat.le_of_ble_eq_true rfl)) qd_Mem_blank_4 ⟨Nat.zero_le _, Nat.zero_le _⟩) hS (fun q _ h => hFc q h) hFc (fun u t H1 locs ht hvm hw hB hz1 hk1 hS => ?_)
  obtain ⟨hP1, hD1⟩ := hB
  rw [ht] at hP1
  obtain ⟨hP, hD⟩ := va_join (wr := []) (w1 := [(h0, .inr (2, [.int (q1 0 0), .ref (d0 1), .ref (d0 2)])), (d0 1, .inl (cI, (q1 0 0).toNatClampNeg, .inl (q1 1))), (d0 2, .inl (cI, (3 * q1 0 0).toNatClampNeg, .inl (q1 2)))]) hP hD [0, 1, 2] [] rfl rfl (by decide) (by decide) hk1 hFc hP1 hD1
  have hP := hP.sub (ws' := [(h0, .inr (2, [.int (q1 0 0), .ref (d0 1), .ref (d0 2)])), (d0 1, .inl (cI, (q1 0 0).toNatClampNeg, .inl (q1 1))), (d0 2, .inl (cI, (3 * q1 0 0).toNatClampNeg, .inl (q1 2)))]) [0, 1, 2] rfl
  have hD := hD.sub (ws' := [(h0, .inr (2, [.int (q1 0 0), .ref (d0 1), .ref (d0 2)])), (d0 1, .inl (cI, (q1 0 0).toNatClampNeg, .inl (q1 1))), (d0 2, .inl (cI, (3 * q1 0 0).toNatClampNeg, .inl (q1 2)))]) [0, 1, 2] (by decide) rfl
  refine lv_aload_n hx hb qd_Mem_blank_7 rfl (lv_at hl 0 rfl) ?_
  refine lv_iload_n hx hb qd_Mem_blank_8 rfl (lv_at hl 1 rfl) ?_
  refine lv_iconst (v := 1) hx hb qd_Mem_blank_9 rfl ?_
  refine lv_iconst (v := (-1)) hx hb qd_Mem_blank_10 rfl ?_
  obtain ⟨q2, hq2, h⟩ := qq_b h
  have hPc := hP.sub (ws' := [(h0, .inr (2, [.int (q1 0 0), .ref (d0 1), .ref (d0 2)])), (d0 1, .inl (cI, (q1 0 0).toNatClampNeg, .inl (q1 1))), (d0 2, .inl (cI, (3 * q1 0 0).toNatClampNeg, .inl (q1 2)))]) [0, 1, 2] rfl
  have hDc := hD.sub (ws' := [(h0, .inr (2, [.int (q1 0 0), .ref (d0 1), .ref (d0 2)])), (d0 1, .inl (cI, (q1 0 0).toNatClampNeg, .inl (q1 1))), (d0 2, .inl (cI, (3 * q1 0 0).toNatClampNeg, .inl (q1 2)))]) [0, 1, 2] (by decide) rfl
  have hFc := va_free (wc := [(h0, .inr (2, [.int (q1 0 0), .ref (d0 1), .ref (d0 2)])), (d0 1, .inl (cI, (q1 0 0).toNatClampNeg, .inl (q1 1))), (d0 2, .inl (cI, (3 * q1 0 0).toNatClampNeg, .inl (q1 2)))]) hD hS hA [0, 1, 2] rfl
  refine va_callv (va_runV (As := [.int a1, .int 1, .int (-1)]) (rest := []) ⟨hx, hb, hml, hown, hts⟩ (qm_Mem_put l dC dI cI cC cB cM h0 d0 q1 a1 1 (-1) _ q2 hq2) (q_CW hts qw_63 qw_64 qw_65 qw_3 qw_66 qh_Mem_put rfl rfl ⟨by decide, by decide⟩) (q_preV [.int a1, .int 1, .int (-1)] 0 rfl rfl hK hPc hDc) rfl rfl hl.1 rfl (lv_room (Nat.le_of_ble_eq_true rfl)) qd_Mem_blank_11 ⟨Nat.zero_le _, Nat.zero_le _⟩) hS (fun q _ h => hFc q h) hFc (fun u t H1 locs ht hvm hw hB hz1 hk1 hS => ?_)
  obtain ⟨hP1, hD1⟩ := hB
  rw [ht] at hP1
  obtain ⟨hP, hD⟩ := va_join (wr := []) (w1 := [(h0, .inr (2, [.int (q2 0 0), .ref (d0 1), .ref (d0 2)])), (d0 1, .inl (cI, (q2 0 0).toNatClampNeg, .inl (q2 1))), (d0 2, .inl (cI, (3 * q2 0 0).toNatClampNeg, .inl (q2 2)))]) hP hD [0, 1, 2] [] rfl rfl (by decide) (by decide) hk1 hFc hP1 hD1
  have hP := hP.sub (ws' := [(h0, .inr (2, [.int (q2 0 0), .ref (d0 1), .ref (d0 2)])), (d0 1, .inl (cI, (q2 0 0).toNatClampNeg, .inl (q2 1))), (d0 2, .inl (cI, (3 * q2 0 0).toNatClampNeg, .inl (q2 2)))]) [0, 1, 2] rfl
  have hD := hD.sub (ws' := [(h0, .inr (2, [.int (q2 0 0), .ref (d0 1), .ref (d0 2)])), (d0 1, .inl (cI, (q2 0 0).toNatClampNeg, .inl (q2 1))), (d0 2, .inl (cI, (3 * q2 0 0).toNatClampNeg, .inl (q2 2)))]) [0, 1, 2] (by decide) rfl
  refine lv_aload_n hx hb qd_Mem_blank_14 rfl (lv_at hl 0 rfl) ?_
  refine lv_iload_n hx hb qd_Mem_blank_15 rfl (lv_at hl 1 rfl) ?_
  refine lv_iconst (v := 2) hx hb qd_Mem_blank_16 rfl ?_
  refine lv_iconst (v := 0) hx hb qd_Mem_blank_17 rfl ?_
  obtain ⟨q3, hq3, h⟩ := qq_b h
  have hPc := hP.sub (ws' := [(h0, .inr (2, [.int (q2 0 0), .ref (d0 1), .ref (d0 2)])), (d0 1, .inl (cI, (q2 0 0).toNatClampNeg, .inl (q2 1))), (d0 2, .inl (cI, (3 * q2 0 0).toNatClampNeg, .inl (q2 2)))]) [0, 1, 2] rfl
  have hDc := hD.sub (ws' := [(h0, .inr (2, [.int (q2 0 0), .ref (d0 1), .ref (d0 2)])), (d0 1, .inl (cI, (q2 0 0).toNatClampNeg, .inl (q2 1))), (d0 2, .inl (cI, (3 * q2 0 0).toNatClampNeg, .inl (q2 2)))]) [0, 1, 2] (by decide) rfl
  have hFc := va_free (wc := [(h0, .inr (2, [.int (q2 0 0), .ref (d0 1), .ref (d0 2)])), (d0 1, .inl (cI, (q2 0 0).toNatClampNeg, .inl (q2 1))), (d0 2, .inl (cI, (3 * q2 0 0).toNatClampNeg, .inl (q2 2)))]) hD hS hA [0, 1, 2] rfl
  refine va_callv (va_runV (As := [.int a1, .int 2, .int 0]) (rest := []) ⟨hx, hb, hml, hown, hts⟩ (qm_Mem_put l dC dI cI cC cB cM h0 d0 q2 a1 2 0 _ q3 hq3) (q_CW hts qw_63 qw_64 qw_65 qw_3 qw_66 qh_Mem_put rfl rfl ⟨by decide, by decide⟩) (q_preV [.int a1, .int 2, .int 0] 0 rfl rfl hK hPc hDc) rfl rfl hl.1 rfl (lv_room (Nat.le_of_ble_eq_true rfl)) qd_Mem_blank_18 ⟨Nat.zero_le _, Nat.zero_le _⟩) hS (fun q _ h => hFc q h) hFc (fun u t H1 locs ht hvm hw hB hz1 hk1 hS => ?_)
  obtain ⟨hP1, hD1⟩ := hB
  rw [ht] at hP1
  obtain ⟨hP, hD⟩ := va_join (wr := []) (w1 := [(h0, .inr (2, [.int (q3 0 0), .ref (d0 1), .ref (d0 2)])), (d0 1, .inl (cI, (q3 0 0).toNatClampNeg, .inl (q3 1))), (d0 2, .inl (cI, (3 * q3 0 0).toNatClampNeg, .inl (q3 2)))]) hP hD [0, 1, 2] [] rfl rfl (by decide) (by decide) hk1 hFc hP1 hD1
  have hP := hP.sub (ws' := [(h0, .inr (2, [.int (q3 0 0), .ref (d0 1), .ref (d0 2)])), (d0 1, .inl (cI, (q3 0 0).toNatClampNeg, .inl (q3 1))), (d0 2, .inl (cI, (3 * q3 0 0).toNatClampNeg, .inl (q3 2)))]) [0, 1, 2] rfl
  have hD := hD.sub (ws' := [(h0, .inr (2, [.int (q3 0 0), .ref (d0 1), .ref (d0 2)])), (d0 1, .inl (cI, (q3 0 0).toNatClampNeg, .inl (q3 1))), (d0 2, .inl (cI, (3 * q3 0 0).toNatClampNeg, .inl (q3 2)))]) [0, 1, 2] (by decide) rfl
  obtain rfl := Option.some.inj h
  exact W.vret hx hb hr (fun t ht hW => ⟨⟨(), rfl, trivial, by rw [ht]; exact hP, hD⟩, hS.F ht⟩) hS.2.2 qd_Mem_blank_21
/-! QuietSweep$Memory.leastOf(I)I -/
def qf_Mem_leastOf_B2 (k2 : (Int32 × Int32 × QS) → Option (Int32)) (x1 : Int32) (x2 : Int32) (s0 : QS) : Option (Int32) := (if (s0 0 0) ≤ x2 then (some (-1)) else (if (x2 < 0 ∨ (s0 0 0).toNatClampNeg ≤ Int32.toNatClampNeg x2) then none else (if ((s0 1) (Int32.toNatClampNeg x2)) = x1 then (some x2) else (k2 (x1, (x2 + 1), s0)))))
def qf_Mem_leastOf_F2 (k2 : (Int32 × Int32 × QS) → Option (Int32)) (a : Int32 × Int32 × QS) : Option (Int32) := qf_Mem_leastOf_B2 k2 a.1 a.2.1 a.2.2
def qf_Mem_leastOf (a1 : Int32) (s0 : QS) : Option (Int32) := (qfix (qf_Mem_leastOf_F2) qN (a1, 0, s0))
set_option maxHeartbeats 4000000 in
set_option maxRecDepth 100000 in
theorem qm_Mem_leastOf (l : Launch) (dC : Nat → ClassId) (dI : Nat → Nat → Nat) (cI cC cB cM : ClassId) (h0 : Nat) (d0 : Nat → Nat) (s0 : QS) (a1 : Int32) (sz : Nat) (o : Int32) (h : qf_Mem_leastOf a1 s0 = some o) : Met l qy_Mem_leastOf (ql_Mem_leastOf :: qG) ({ frames := 0, cells := 0, slots := 0, locals := 0 } : Room) (qPc dC dI cI cC cB cM [.ref h0, .int a1] sz [(h0, .inr (2, [.int (s0 0 0), .ref (d0 1), .ref (d0 2)])), (d0 1, .inl (cI, (s0 0 0).toNatClampNeg, .inl (s0 1))), (d0 2, .inl (cI, (3 * s0 0 0).toNatClampNeg, .inl (s0 2)))]) (va_Qi (fun r (_ : Unit) => r = o) (fun _ t => va_P (dC, dI) qCl [(h0, .inr (2, [.int (s0 0 0), .ref (d0 1), .ref (d0 2)])), (d0 1, .inl (cI, (s0 0 0).toNatClampNeg, .inl (s0 1))), (d0 2, .inl (cI, (3 * s0 0 0).toNatClampNeg, .inl (s0 2)))] t.heap ∧ va_D (va_A [(h0, .inr (2, [.int (s0 0 0), .ref (d0 1), .ref (d0 2)])), (d0 1, .inl (cI, (s0 0 0).toNatClampNeg, .inl (s0 1))), (d0 2, .inl (cI, (3 * s0 0 0).toNatClampNeg, .inl (s0 2)))] sz) [(h0, .inr (2, [.int (s0 0 0), .ref (d0 1), .ref (d0 2)])), (d0 1, .inl (cI, (s0 0 0).toNatClampNeg, .inl (s0 1))), (d0 2, .inl (cI, (3 * s0 0 0).toNatClampNeg, .inl (s0 2)))]) (va_A [(h0, .inr (2, [.int (s0 0 0), .ref (d0 1), .ref (d0 2)])), (d0 1, .inl (cI, (s0 0 0).toNatClampNeg, .inl (s0 1))), (d0 2, .inl (cI, (3 * s0 0 0).toNatClampNeg, .inl (s0 2)))] sz)) 0 0 (va_A [(h0, .inr (2, [.int (s0 0 0), .ref (d0 1), .ref (d0 2)])), (d0 1, .inl (cI, (s0 0 0).toNatClampNeg, .inl (s0 1))), (d0 2, .inl (cI, (3 * s0 0 0).toNatClampNeg, .inl (s0 2)))] sz) := by
  refine Met.ofW (cc := qc_Mem_leastOf) (maxL := 3) (ret := (some .int)) (by decide) rfl ?_
  intro p e s m args below meth c s₁ B hml hv
  obtain ⟨rfl, hsz, hP, hK, hD0⟩ := hv
  have hx := B.exec
  have hb := B.bytes
  have hr := B.returns
  have hts0 := atoms_spec (ws := ql_Mem_leastOf :: qG) B.pre
  have hts := fun (w : Cond) (hw : w ∈ qG) => hts0 w (List.mem_cons_of_mem _ hw)
  have hown : s.vm.findClass "QuietSweep$Memory" = some m.cls := findClass_of_methodNamed B.named
  have hlocks := B.notSynchronized
  subst hsz
  have hD := hD0.self (sz := s.heap.size)
  generalize hAe : va_A [(h0, .inr (2, [.int (s0 0 0), .ref (d0 1), .ref (d0 2)])), (d0 1, .inl (cI, (s0 0 0).toNatClampNeg, .inl (s0 1))), (d0 2, .inl (cI, (3 * s0 0 0).toNatClampNeg, .inl (s0 2)))] s.heap.size = A at hD ⊢
  have hA : ∀ q : Nat, s.heap.size ≤ q → A q := fun q h => by rw [← hAe]; exact Or.inr h
  have hS : va_S A s.heap s.heap [] := va_S.rf
  have hl := lv_entry ([.ref h0, .int a1]) (n := 3) (Nat.le_of_ble_eq_true rfl)
  rw [lg_entry_eq]
  generalize (lg_sl ([.ref h0, .int a1]) ++ List.replicate (3 - (lg_sl ([.ref h0, .int a1])).length) Slot.unset).toArray = ls at hl ⊢
  have hl : lv_has ls 3 [(0, .ref h0), (1, .int a1)] := hl
  have L2 : ∀ (n : Nat) (x1 : Int32) (x2 : Int32) (s0 : QS) (H : Heap) (locs : List Loc) (ls : Array Slot), lv_has ls 3 [(0, .ref h0), (1, .int x1), (2, .int x2)] → va_P (dC, dI) qCl [(h0, .inr (2, [.int (s0 0 0), .ref (d0 1), .ref (d0 2)])), (d0 1, .inl (cI, (s0 0 0).toNatClampNeg, .inl (s0 1))), (d0 2, .inl (cI, (3 * s0 0 0).toNatClampNeg, .inl (s0 2)))] H → va_D A [(h0, .inr (2, [.int (s0 0 0), .ref (d0 1), .ref (d0 2)])), (d0 1, .inl (cI, (s0 0 0).toNatClampNeg, .inl (s0 1))), (d0 2, .inl (cI, (3 * s0 0 0).toNatClampNeg, .inl (s0 2)))] → va_S A s.heap H locs → qfix (qf_Mem_leastOf_F2) n (x1, x2, s0) = some o → W p l e (headSpec (ql_Mem_leastOf :: qG) ({ frames := 0, cells := 0, slots := 0, locals := 0 } : Room)).room s m ([.ref h0, .int a1] : List Value).toArray below meth c H locs 0 0 (MQ below (va_Qi (fun r (_ : Unit) => r = o) (fun _ t => va_P (dC, dI) qCl [(h0, .inr (2, [.int (s0 0 0), .ref (d0 1), .ref (d0 2)])), (d0 1, .inl (cI, (s0 0 0).toNatClampNeg, .inl (s0 1))), (d0 2, .inl (cI, (3 * s0 0 0).toNatClampNeg, .inl (s0 2)))] t.heap ∧ va_D A [(h0, .inr (2, [.int (s0 0 0), .ref (d0 1), .ref (d0 2)])), (d0 1, .inl (cI, (s0 0 0).toNatClampNeg, .inl (s0 1))), (d0 2, .inl (cI, (3 * s0 0 0).toNatClampNeg, .inl (s0 2)))]) A) ([.ref h0, .int a1] : List Value).toArray s 0 0 A) (F0 m 2 ls []) := by
    intro n
    induction n with
    | zero => intro x1 x2 s0 H locs ls hl hP hD hS h; cases (show (none : Option (Int32)) = some o from h)
    | succ n2 ih2 =>
      intro x1 x2 s0 H locs ls hl hP hD hS h
      have h : qf_Mem_leastOf_B2 (qfix (qf_Mem_leastOf_F2) n2) x1 x2 s0 = some o := h
      unfold qf_Mem_leastOf_B2 at h
      refine lv_iload_n hx hb qd_Mem_leastOf_2 rfl (lv_at hl 2 rfl) ?_
      refine lv_aload_n hx hb qd_Mem_leastOf_3 rfl (lv_at hl 0 rfl) ?_
      refine va_get (D := (dC, dI)) (ci := 2) (v := .int (s0 0 0)) (C := "QuietSweep$Memory") (T := qT_Mem) (N := 3) hx hb hts qi_Mem hown hK.1 hP 0 rfl rfl 0 (by decide) (hts _ qw_67) (fun _ h9 => h9) rfl qd_Mem_leastOf_4 ?_
      refine lv_icmp_ge hx hb qd_Mem_leastOf_7 (tgt := 28) (by decide) (fun hc => ?_) (fun hc => ?_)
      · have h := qq_t hc h
        refine lv_iconst (v := (-1)) hx hb qd_Mem_leastOf_28 rfl ?_
        obtain rfl := Option.some.inj h
        exact W.iret (v := (-1)) hx hb hr (fun t ht hW => ⟨⟨(-1), (), rfl, rfl, by rw [ht]; exact hP, hD⟩, hS.F ht⟩) hS.2.2 qd_Mem_leastOf_29
      · have h := qq_f hc h
        refine lv_aload_n hx hb qd_Mem_leastOf_10 rfl (lv_at hl 0 rfl) ?_
        refine va_get (D := (dC, dI)) (ci := 2) (v := .ref (d0 1)) (C := "QuietSweep$Memory") (T := qT_Mem) (N := 3) hx hb hts qi_Mem hown hK.1 hP 0 rfl rfl 1 (by decide) (hts _ qw_69) (fun _ h9 => h9) rfl qd_Mem_leastOf_11 ?_
        refine lv_iload_n hx hb qd_Mem_leastOf_14 rfl (lv_at hl 2 rfl) ?_
        obtain ⟨hb1, h⟩ := qq_n h
        refine va_iald hx hb hK.1 hP 1 0 rfl rfl hb1 qd_Mem_leastOf_15 ?_
        refine lv_iload_n hx hb qd_Mem_leastOf_16 rfl (lv_at hl 1 rfl) ?_
        refine lv_icmp_ne hx hb qd_Mem_leastOf_17 (tgt := 22) (by decide) (fun hc => ?_) (fun hc => ?_)
        · have h := qq_f hc h
          refine lv_iinc (k := 2) (v := (x2 + 1)) (lv' := [(2, .int (x2 + 1)), (0, .ref h0), (1, .int x1)]) hx hb qd_Mem_leastOf_22 hl rfl (congrArg (fun z : Int32 => x2 + z) (show Int32.ofInt 1 = 1 by decide)) (by decide) rfl (fun ls hl => ?_)
          refine lv_goto hx hb qd_Mem_leastOf_25 (tgt := 2) (by decide) ?_
          exact ih2 x1 (x2 + 1) s0 _ _ _ (lv_sub (l' := [(0, .ref h0), (1, .int x1), (2, .int (x2 + 1))]) hl [1, 2, 0] rfl) hP hD hS h
        · have h := qq_t hc h
          refine lv_iload_n hx hb qd_Mem_leastOf_20 rfl (lv_at hl 2 rfl) ?_
          obtain rfl := Option.some.inj h
          exact W.iret (v := x2) hx hb hr (fun t ht hW => ⟨⟨x2, (), rfl, rfl, by rw [ht]; exact hP, hD⟩, hS.F ht⟩) hS.2.2 qd_Mem_leastOf_21
  unfold qf_Mem_leastOf at h
  refine lv_iconst (v := 0) hx hb qd_Mem_leastOf_0 rfl ?_
  refine lv_istore_n (lv' := [(2, .int 0), (0, .ref h0), (1, .int a1)]) hx hb qd_Mem_leastOf_1 rfl hl (by decide) rfl (fun ls hl => ?_)
  exact L2 qN a1 0 s0 _ _ _ (lv_sub (l' := [(0, .ref h0), (1, .int a1), (2, .int 0)]) hl [1, 2, 0] rfl) hP hD hS h
/-! QuietSweep$Memory.takeFree(I)I -/
def qf_Mem_takeFree (a1 : Int32) (s0 : QS) : Option (Int32 × QS) := ((qf_Mem_leastOf 0 s0).bind fun q1 => (if q1 = (-1) then (some (q1, s0)) else (if (q1 < 0 ∨ (s0 0 0).toNatClampNeg ≤ Int32.toNatClampNeg q1) then none else ((qf_Mem_blank q1 (qp s0 1 (upd (s0 1) (Int32.toNatClampNeg q1) a1))).bind fun q3 => (some (q1, q3))))))
set_option maxHeartbeats 4000000 in
set_option maxRecDepth 100000 in
theorem qm_Mem_takeFree (l : Launch) (dC : Nat → ClassId) (dI : Nat → Nat → Nat) (cI cC cB cM : ClassId) (h0 : Nat) (d0 : Nat → Nat) (s0 : QS) (a1 : Int32) (sz : Nat) (o : Int32 × QS) (h : qf_Mem_takeFree a1 s0 = some o) : Met l qy_Mem_takeFree (ql_Mem_takeFree :: qG) ({ frames := 2, cells := 0, slots := 0, locals := 44 } : Room) (qPc dC dI cI cC cB cM [.ref h0, .int a1] sz [(h0, .inr (2, [.int (s0 0 0), .ref (d0 1), .ref (d0 2)])), (d0 1, .inl (cI, (s0 0 0).toNatClampNeg, .inl (s0 1))), (d0 2, .inl (cI, (3 * s0 0 0).toNatClampNeg, .inl (s0 2)))]) (va_Qi (fun r (_ : Unit) => r = o.1) (fun _ t => va_P (dC, dI) qCl [(h0, .inr (2, [.int (o.2 0 0), .ref (d0 1), .ref (d0 2)])), (d0 1, .inl (cI, (o.2 0 0).toNatClampNeg, .inl (o.2 1))), (d0 2, .inl (cI, (3 * o.2 0 0).toNatClampNeg, .inl (o.2 2)))] t.heap ∧ va_D (va_A [(h0, .inr (2, [.int (s0 0 0), .ref (d0 1), .ref (d0 2)])), (d0 1, .inl (cI, (s0 0 0).toNatClampNeg, .inl (s0 1))), (d0 2, .inl (cI, (3 * s0 0 0).toNatClampNeg, .inl (s0 2)))] sz) [(h0, .inr (2, [.int (o.2 0 0), .ref (d0 1), .ref (d0 2)])), (d0 1, .inl (cI, (o.2 0 0).toNatClampNeg, .inl (o.2 1))), (d0 2, .inl (cI, (3 * o.2 0 0).toNatClampNeg, .inl (o.2 2)))]) (va_A [(h0, .inr (2, [.int (s0 0 0), .ref (d0 1), .ref (d0 2)])), (d0 1, .inl (cI, (s0 0 0).toNatClampNeg, .inl (s0 1))), (d0 2, .inl (cI, (3 * s0 0 0).toNatClampNeg, .inl (s0 2)))] sz)) 0 0 (va_A [(h0, .inr (2, [.int (s0 0 0), .ref (d0 1), .ref (d0 2)])), (d0 1, .inl (cI, (s0 0 0).toNatClampNeg, .inl (s0 1))), (d0 2, .inl (cI, (3 * s0 0 0).toNatClampNeg, .inl (s0 2)))] sz) := by
  refine Met.ofW (cc := qc_Mem_takeFree) (maxL := 3) (ret := (some .int)) (by decide) rfl ?_
  intro p e s m args below meth c s₁ B hml hv
  obtain ⟨rfl, hsz, hP, hK, hD0⟩ := hv
  have hx := B.exec
  have hb := B.bytes
  have hr := B.returns
  have hts0 := atoms_spec (ws := ql_Mem_takeFree :: qG) B.pre
  have hts := fun (w : Cond) (hw : w ∈ qG) => hts0 w (List.mem_cons_of_mem _ hw)
  have hown : s.vm.findClass "QuietSweep$Memory" = some m.cls := findClass_of_methodNamed B.named
  have hlocks := B.notSynchronized
  subst hsz
  have hD := hD0.self (sz := s.heap.size)
  generalize hAe : va_A [(h0, .inr (2, [.int (s0 0 0), .ref (d0 1), .ref (d0 2)])), (d0 1, .inl (cI, (s0 0 0).toNatClampNeg, .inl (s0 1))), (d0 2, .inl (cI, (3 * s0 0 0).toNatClampNeg, .inl (s0 2)))] s.heap.size = A at hD ⊢
  have hA : ∀ q : Nat, s.heap.size ≤ q → A q := fun q h => by rw [← hAe]; exact Or.inr h
  have hS : va_S A s.heap s.heap [] := va_S.rf
  have hl := lv_entry ([.ref h0, .int a1]) (n := 3) (Nat.le_of_ble_eq_true rfl)
  rw [lg_entry_eq]
  generalize (lg_sl ([.ref h0, .int a1]) ++ List.replicate (3 - (lg_sl ([.ref h0, .int a1])).length) Slot.unset).toArray = ls at hl ⊢
  have hl : lv_has ls 3 [(0, .ref h0), (1, .int a1)] := hl
  unfold qf_Mem_takeFree at h
  refine lv_aload_n hx hb qd_Mem_takeFree_0 rfl (lv_at hl 0 rfl) ?_
  refine lv_iconst (v := 0) hx hb qd_Mem_takeFree_1 rfl ?_
  obtain ⟨q1, hq1, h⟩ := qq_b h
  have hPc := hP.sub (ws' := [(h0, .inr (2, [.int (s0 0 0), .ref (d0 1), .ref (d0 2)])), (d0 1, .inl (cI, (s0 0 0).toNatClampNeg, .inl (s0 1))), (d0 2, .inl (cI, (3 * s0 0 0).toNatClampNeg, .inl (s0 2)))]) [0, 1, 2] rfl
  have hDc := hD.sub (ws' := [(h0, .inr (2, [.int (s0 0 0), .ref (d0 1), .ref (d0 2)])), (d0 1, .inl (cI, (s0 0 0).toNatClampNeg, .inl (s0 1))), (d0 2, .inl (cI, (3 * s0 0 0).toNatClampNeg, .inl (s0 2)))]) [0, 1, 2] (by decide) rfl
  have hFc := va_free (wc := [(h0, .inr (2, [.int (s0 0 0), .ref (d0 1), .ref (d0 2)])), (d0 1, .inl (cI, (s0 0 0).toNatClampNeg, .inl (s0 1))), (d0 2, .inl (cI, (3 * s0 0 0).toNatClampNeg, .inl (s0 2)))]) hD hS hA [0, 1, 2] rfl
  refine va_calli (va_runV (As := [.int 0]) (rest := []) ⟨hx, hb, hml, hown, hts⟩ (qm_Mem_leastOf l dC dI cI cC cB cM h0 d0 s0 0 _ q1 hq1) (q_CW hts qw_370 qw_371 qw_372 qw_3 qw_373 qh_Mem_leastOf rfl rfl ⟨by decide, by decide⟩) (q_preV [.int 0] 0 rfl rfl hK hPc hDc) rfl rfl hl.1 rfl (lv_room (Nat.le_of_ble_eq_true rfl)) qd_Mem_takeFree_2 ⟨Nat.zero_le _, Nat.zero_le _⟩) hS (fun q _ h => hFc q h) hFc (fun r u t H1 locs ht hvm hw hB hz1 hk1 hS => ?_)
  have hw : q1 = r := Eq.symm hw
  subst hw
  obtain ⟨hP1, hD1⟩ := hB
  rw [ht] at hP1
  obtain ⟨hP, hD⟩ := va_join (wr := []) (w1 := [(h0, .inr (2, [.int (s0 0 0), .ref (d0 1), .ref (d0 2)])), (d0 1, .inl (cI, (s0 0 0).toNatClampNeg, .inl (s0 1))), (d0 2, .inl (cI, (3 * s0 0 0).toNatClampNeg, .inl (s0 2)))]) hP hD [0, 1, 2] [] rfl rfl (by decide) (by decide) hk1 hFc hP1 hD1
  have hP := hP.sub (ws' := [(h0, .inr (2, [.int (s0 0 0), .ref (d0 1), .ref (d0 2)])), (d0 1, .inl (cI, (s0 0 0).toNatClampNeg, .inl (s0 1))), (d0 2, .inl (cI, (3 * s0 0 0).toNatClampNeg, .inl (s0 2)))]) [0, 1, 2] rfl
  have hD := hD.sub (ws' := [(h0, .inr (2, [.int (s0 0 0), .ref (d0 1), .ref (d0 2)])), (d0 1, .inl (cI, (s0 0 0).toNatClampNeg, .inl (s0 1))), (d0 2, .inl (cI, (3 * s0 0 0).toNatClampNeg, .inl (s0 2)))]) [0, 1, 2] (by decide) rfl
  refine lv_istore_n (lv' := [(2, .int q1), (0, .ref h0), (1, .int a1)]) hx hb qd_Mem_takeFree_5 rfl hl (by decide) rfl (fun ls hl => ?_)
  refine lv_iload_n hx hb qd_Mem_takeFree_6 rfl (lv_at hl 0 rfl) ?_
  refine lv_iconst (v := (-1)) hx hb qd_Mem_takeFree_7 rfl ?_
  refine lv_icmp_eq hx hb qd_Mem_takeFree_8 (tgt := 23) (by decide) (fun hc => ?_) (fun hc => ?_)
  · have h := qq_t hc h
    refine lv_iload_n hx hb qd_Mem_takeFree_23 rfl (lv_at hl 0 rfl) ?_
    obtain rfl := Option.some.inj h
    exact W.iret (v := q1) hx hb hr (fun t ht hW => ⟨⟨q1, (), rfl, rfl, by rw [ht]; exact hP, hD⟩, hS.F ht⟩) hS.2.2 qd_Mem_takeFree_24
  · have h := qq_f hc h
    refine lv_aload_n hx hb qd_Mem_takeFree_11 rfl (lv_at hl 1 rfl) ?_
    refine va_get (D := (dC, dI)) (ci := 2) (v := .ref (d0 1)) (C := "QuietSweep$Memory") (T := qT_Mem) (N := 3) hx hb hts qi_Mem hown hK.1 hP 0 rfl rfl 1 (by decide) (hts _ qw_69) (fun _ h9 => h9) rfl qd_Mem_takeFree_12 ?_
    refine lv_iload_n hx hb qd_Mem_takeFree_15 rfl (lv_at hl 0 rfl) ?_
    refine lv_iload_n hx hb qd_Mem_takeFree_16 rfl (lv_at hl 2 rfl) ?_
    obtain ⟨hb2, h⟩ := qq_n h
    refine va_iast hx hb hK.1 hP hD hS 1 0 rfl rfl hb2 qd_Mem_takeFree_17 (fun H locs hP hD hS => ?_)
    have hP : va_P (dC, dI) qCl [(h0, .inr (2, [.int (s0 0 0), .ref (d0 1), .ref (d0 2)])), (d0 1, .inl (cI, (s0 0 0).toNatClampNeg, .inl (upd (s0 1) (Int32.toNatClampNeg q1) a1))), (d0 2, .inl (cI, (3 * s0 0 0).toNatClampNeg, .inl (s0 2)))] _ := hP
    have hD : va_D A [(h0, .inr (2, [.int (s0 0 0), .ref (d0 1), .ref (d0 2)])), (d0 1, .inl (cI, (s0 0 0).toNatClampNeg, .inl (upd (s0 1) (Int32.toNatClampNeg q1) a1))), (d0 2, .inl (cI, (3 * s0 0 0).toNatClampNeg, .inl (s0 2)))] := hD
    refine lv_aload_n hx hb qd_Mem_takeFree_18 rfl (lv_at hl 1 rfl) ?_
    refine lv_iload_n hx hb qd_Mem_takeFree_19 rfl (lv_at hl 0 rfl) ?_
    obtain ⟨q3, hq3, h⟩ := qq_b h
    have hPc := hP.sub (ws' := [(h0, .inr (2, [.int ((qp s0 1 (upd (s0 1) (Int32.toNatClampNeg q1) a1)) 0 0), .ref (d0 1), .ref (d0 2)])), (d0 1, .inl (cI, ((qp s0 1 (upd (s0 1) (Int32.toNatClampNeg q1) a1)) 0 0).toNatClampNeg, .inl ((qp s0 1 (upd (s0 1) (Int32.toNatClampNeg q1) a1)) 1))), (d0 2, .inl (cI, (3 * (qp s0 1 (upd (s0 1) (Int32.toNatClampNeg q1) a1)) 0 0).toNatClampNeg, .inl ((qp s0 1 (upd (s0 1) (Int32.toNatClampNeg q1) a1)) 2)))]) [0, 1, 2] rfl
    have hDc := hD.sub (ws' := [(h0, .inr (2, [.int ((qp s0 1 (upd (s0 1) (Int32.toNatClampNeg q1) a1)) 0 0), .ref (d0 1), .ref (d0 2)])), (d0 1, .inl (cI, ((qp s0 1 (upd (s0 1) (Int32.toNatClampNeg q1) a1)) 0 0).toNatClampNeg, .inl ((qp s0 1 (upd (s0 1) (Int32.toNatClampNeg q1) a1)) 1))), (d0 2, .inl (cI, (3 * (qp s0 1 (upd (s0 1) (Int32.toNatClampNeg q1) a1)) 0 0).toNatClampNeg, .inl ((qp s0 1 (upd (s0 1) (Int32.toNatClampNeg q1) a1)) 2)))]) [0, 1, 2] (by decide) rfl
    have hFc := va_free (wc := [(h0, .inr (2, [.int ((qp s0 1 (upd (s0 1) (Int32.toNatClampNeg q1) a1)) 0 0), .ref (d0 1), .ref (d0 2)])), (d0 1, .inl (cI, ((qp s0 1 (upd (s0 1) (Int32.toNatClampNeg q1) a1)) 0 0).toNatClampNeg, .inl ((qp s0 1 (upd (s0 1) (Int32.toNatClampNeg q1) a1)) 1))), (d0 2, .inl (cI, (3 * (qp s0 1 (upd (s0 1) (Int32.toNatClampNeg q1) a1)) 0 0).toNatClampNeg, .inl ((qp s0 1 (upd (s0 1) (Int32.toNatClampNeg q1) a1)) 2)))]) hD hS hA [0, 1, 2] rfl
    refine va_callv (va_runV (As := [.int q1]) (rest := []) ⟨hx, hb, hml, hown, hts⟩ (qm_Mem_blank l dC dI cI cC cB cM h0 d0 (qp s0 1 (upd (s0 1) (Int32.toNatClampNeg q1) a1)) q1 _ q3 hq3) (q_CW hts qw_59 qw_61 qv_0 qw_3 qw_62 qh_Mem_blank rfl rfl ⟨by decide, by decide⟩) (q_preV [.int q1] 0 rfl rfl hK hPc hDc) rfl rfl hl.1 rfl (lv_room (Nat.le_of_ble_eq_true rfl)) qd_Mem_takeFree_20 ⟨Nat.zero_le _, Nat.zero_le _⟩) hS (fun q _ h => hFc q h) hFc (fun u t H1 locs ht hvm hw hB hz1 hk1 hS => ?_)
    obtain ⟨hP1, hD1⟩ := hB
    rw [ht] at hP1
    obtain ⟨hP, hD⟩ := va_join (wr := []) (w1 := [(h0, .inr (2, [.int (q3 0 0), .ref (d0 1), .ref (d0 2)])), (d0 1, .inl (cI, (q3 0 0).toNatClampNeg, .inl (q3 1))), (d0 2, .inl (cI, (3 * q3 0 0).toNatClampNeg, .inl (q3 2)))]) hP hD [0, 1, 2] [] rfl rfl (by decide) (by decide) hk1 hFc hP1 hD1
    have hP := hP.sub (ws' := [(h0, .inr (2, [.int (q3 0 0), .ref (d0 1), .ref (d0 2)])), (d0 1, .inl (cI, (q3 0 0).toNatClampNeg, .inl (q3 1))), (d0 2, .inl (cI, (3 * q3 0 0).toNatClampNeg, .inl (q3 2)))]) [0, 1, 2] rfl
    have hD := hD.sub (ws' := [(h0, .inr (2, [.int (q3 0 0), .ref (d0 1), .ref (d0 2)])), (d0 1, .inl (cI, (q3 0 0).toNatClampNeg, .inl (q3 1))), (d0 2, .inl (cI, (3 * q3 0 0).toNatClampNeg, .inl (q3 2)))]) [0, 1, 2] (by decide) rfl
    refine lv_iload_n hx hb qd_Mem_takeFree_23 rfl (lv_at hl 0 rfl) ?_
    obtain rfl := Option.some.inj h
    exact W.iret (v := q1) hx hb hr (fun t ht hW => ⟨⟨q1, (), rfl, rfl, by rw [ht]; exact hP, hD⟩, hS.F ht⟩) hS.2.2 qd_Mem_takeFree_24
/-! QuietSweep$Memory.countOf(I)I -/
def qf_Mem_countOf_B4 (k4 : (Int32 × Int32 × Int32 × QS) → Option (Int32)) (x1 : Int32) (x2 : Int32) (x3 : Int32) (s0 : QS) : Option (Int32) := (if (s0 0 0) ≤ x3 then (some x2) else (if (x3 < 0 ∨ (s0 0 0).toNatClampNeg ≤ Int32.toNatClampNeg x3) then none else (if ((s0 1) (Int32.toNatClampNeg x3)) = x1 then (k4 (x1, (x2 + 1), (x3 + 1), s0)) else (k4 (x1, x2, (x3 + 1), s0)))))
def qf_Mem_countOf_F4 (k4 : (Int32 × Int32 × Int32 × QS) → Option (Int32)) (a : Int32 × Int32 × Int32 × QS) : Option (Int32) := qf_Mem_countOf_B4 k4 a.1 a.2.1 a.2.2.1 a.2.2.2
def qf_Mem_countOf (a1 : Int32) (s0 : QS) : Option (Int32) := (qfix (qf_Mem_countOf_F4) qN (a1, 0, 0, s0))
set_option maxHeartbeats 4000000 in
set_option maxRecDepth 100000 in
theorem qm_Mem_countOf (l : Launch) (dC : Nat → ClassId) (dI : Nat → Nat → Nat) (cI cC cB cM : ClassId) (h0 : Nat) (d0 : Nat → Nat) (s0 : QS) (a1 : Int32) (sz : Nat) (o : Int32) (h : qf_Mem_countOf a1 s0 = some o) : Met l qy_Mem_countOf (ql_Mem_countOf :: qG) ({ frames := 0, cells := 0, slots := 0, locals := 0 } : Room) (qPc dC dI cI cC cB cM [.ref h0, .int a1] sz [(h0, .inr (2, [.int (s0 0 0), .ref (d0 1), .ref (d0 2)])), (d0 1, .inl (cI, (s0 0 0).toNatClampNeg, .inl (s0 1))), (d0 2, .inl (cI, (3 * s0 0 0).toNatClampNeg, .inl (s0 2)))]) (va_Qi (fun r (_ : Unit) => r = o) (fun _ t => va_P (dC, dI) qCl [(h0, .inr (2, [.int (s0 0 0), .ref (d0 1), .ref (d0 2)])), (d0 1, .inl (cI, (s0 0 0).toNatClampNeg, .inl (s0 1))), (d0 2, .inl (cI, (3 * s0 0 0).toNatClampNeg, .inl (s0 2)))] t.heap ∧ va_D (va_A [(h0, .inr (2, [.int (s0 0 0), .ref (d0 1), .ref (d0 2)])), (d0 1, .inl (cI, (s0 0 0).toNatClampNeg, .inl (s0 1))), (d0 2, .inl (cI, (3 * s0 0 0).toNatClampNeg, .inl (s0 2)))] sz) [(h0, .inr (2, [.int (s0 0 0), .ref (d0 1), .ref (d0 2)])), (d0 1, .inl (cI, (s0 0 0).toNatClampNeg, .inl (s0 1))), (d0 2, .inl (cI, (3 * s0 0 0).toNatClampNeg, .inl (s0 2)))]) (va_A [(h0, .inr (2, [.int (s0 0 0), .ref (d0 1), .ref (d0 2)])), (d0 1, .inl (cI, (s0 0 0).toNatClampNeg, .inl (s0 1))), (d0 2, .inl (cI, (3 * s0 0 0).toNatClampNeg, .inl (s0 2)))] sz)) 0 0 (va_A [(h0, .inr (2, [.int (s0 0 0), .ref (d0 1), .ref (d0 2)])), (d0 1, .inl (cI, (s0 0 0).toNatClampNeg, .inl (s0 1))), (d0 2, .inl (cI, (3 * s0 0 0).toNatClampNeg, .inl (s0 2)))] sz) := by
  refine Met.ofW (cc := qc_Mem_countOf) (maxL := 4) (ret := (some .int)) (by decide) rfl ?_
  intro p e s m args below meth c s₁ B hml hv
  obtain ⟨rfl, hsz, hP, hK, hD0⟩ := hv
  have hx := B.exec
  have hb := B.bytes
  have hr := B.returns
  have hts0 := atoms_spec (ws := ql_Mem_countOf :: qG) B.pre
  have hts := fun (w : Cond) (hw : w ∈ qG) => hts0 w (List.mem_cons_of_mem _ hw)
  have hown : s.vm.findClass "QuietSweep$Memory" = some m.cls := findClass_of_methodNamed B.named
  have hlocks := B.notSynchronized
  subst hsz
  have hD := hD0.self (sz := s.heap.size)
  generalize hAe : va_A [(h0, .inr (2, [.int (s0 0 0), .ref (d0 1), .ref (d0 2)])), (d0 1, .inl (cI, (s0 0 0).toNatClampNeg, .inl (s0 1))), (d0 2, .inl (cI, (3 * s0 0 0).toNatClampNeg, .inl (s0 2)))] s.heap.size = A at hD ⊢
  have hA : ∀ q : Nat, s.heap.size ≤ q → A q := fun q h => by rw [← hAe]; exact Or.inr h
  have hS : va_S A s.heap s.heap [] := va_S.rf
  have hl := lv_entry ([.ref h0, .int a1]) (n := 4) (Nat.le_of_ble_eq_true rfl)
  rw [lg_entry_eq]
  generalize (lg_sl ([.ref h0, .int a1]) ++ List.replicate (4 - (lg_sl ([.ref h0, .int a1])).length) Slot.unset).toArray = ls at hl ⊢
  have hl : lv_has ls 4 [(0, .ref h0), (1, .int a1)] := hl
  have L4 : ∀ (n : Nat) (x1 : Int32) (x2 : Int32) (x3 : Int32) (s0 : QS) (H : Heap) (locs : List Loc) (ls : Array Slot), lv_has ls 4 [(0, .ref h0), (1, .int x1), (2, .int x2), (3, .int x3)] → va_P (dC, dI) qCl [(h0, .inr (2, [.int (s0 0 0), .ref (d0 1), .ref (d0 2)])), (d0 1, .inl (cI, (s0 0 0).toNatClampNeg, .inl (s0 1))), (d0 2, .inl (cI, (3 * s0 0 0).toNatClampNeg, .inl (s0 2)))] H → va_D A [(h0, .inr (2, [.int (s0 0 0), .ref (d0 1), .ref (d0 2)])), (d0 1, .inl (cI, (s0 0 0).toNatClampNeg, .inl (s0 1))), (d0 2, .inl (cI, (3 * s0 0 0).toNatClampNeg, .inl (s0 2)))] → va_S A s.heap H locs → qfix (qf_Mem_countOf_F4) n (x1, x2, x3, s0) = some o → W p l e (headSpec (ql_Mem_countOf :: qG) ({ frames := 0, cells := 0, slots := 0, locals := 0 } : Room)).room s m ([.ref h0, .int a1] : List Value).toArray below meth c H locs 0 0 (MQ below (va_Qi (fun r (_ : Unit) => r = o) (fun _ t => va_P (dC, dI) qCl [(h0, .inr (2, [.int (s0 0 0), .ref (d0 1), .ref (d0 2)])), (d0 1, .inl (cI, (s0 0 0).toNatClampNeg, .inl (s0 1))), (d0 2, .inl (cI, (3 * s0 0 0).toNatClampNeg, .inl (s0 2)))] t.heap ∧ va_D A [(h0, .inr (2, [.int (s0 0 0), .ref (d0 1), .ref (d0 2)])), (d0 1, .inl (cI, (s0 0 0).toNatClampNeg, .inl (s0 1))), (d0 2, .inl (cI, (3 * s0 0 0).toNatClampNeg, .inl (s0 2)))]) A) ([.ref h0, .int a1] : List Value).toArray s 0 0 A) (F0 m 4 ls []) := by
    intro n
    induction n with
    | zero => intro x1 x2 x3 s0 H locs ls hl hP hD hS h; cases (show (none : Option (Int32)) = some o from h)
    | succ n4 ih4 =>
      intro x1 x2 x3 s0 H locs ls hl hP hD hS h
      have h : qf_Mem_countOf_B4 (qfix (qf_Mem_countOf_F4) n4) x1 x2 x3 s0 = some o := h
      unfold qf_Mem_countOf_B4 at h
      refine lv_iload_n hx hb qd_Mem_countOf_4 rfl (lv_at hl 3 rfl) ?_
      refine lv_aload_n hx hb qd_Mem_countOf_5 rfl (lv_at hl 0 rfl) ?_
      refine va_get (D := (dC, dI)) (ci := 2) (v := .int (s0 0 0)) (C := "QuietSweep$Memory") (T := qT_Mem) (N := 3) hx hb hts qi_Mem hown hK.1 hP 0 rfl rfl 0 (by decide) (hts _ qw_67) (fun _ h9 => h9) rfl qd_Mem_countOf_6 ?_
      refine lv_icmp_ge hx hb qd_Mem_countOf_9 (tgt := 31) (by decide) (fun hc => ?_) (fun hc => ?_)
      · have h := qq_t hc h
        refine lv_iload_n hx hb qd_Mem_countOf_31 rfl (lv_at hl 2 rfl) ?_
        obtain rfl := Option.some.inj h
        exact W.iret (v := x2) hx hb hr (fun t ht hW => ⟨⟨x2, (), rfl, rfl, by rw [ht]; exact hP, hD⟩, hS.F ht⟩) hS.2.2 qd_Mem_countOf_32
      · have h := qq_f hc h
        refine lv_aload_n hx hb qd_Mem_countOf_12 rfl (lv_at hl 0 rfl) ?_
        refine va_get (D := (dC, dI)) (ci := 2) (v := .ref (d0 1)) (C := "QuietSweep$Memory") (T := qT_Mem) (N := 3) hx hb hts qi_Mem hown hK.1 hP 0 rfl rfl 1 (by decide) (hts _ qw_69) (fun _ h9 => h9) rfl qd_Mem_countOf_13 ?_
        refine lv_iload_n hx hb qd_Mem_countOf_16 rfl (lv_at hl 3 rfl) ?_
        obtain ⟨hb1, h⟩ := qq_n h
        refine va_iald hx hb hK.1 hP 1 0 rfl rfl hb1 qd_Mem_countOf_17 ?_
        refine lv_iload_n hx hb qd_Mem_countOf_18 rfl (lv_at hl 1 rfl) ?_
        refine lv_icmp_ne hx hb qd_Mem_countOf_19 (tgt := 25) (by decide) (fun hc => ?_) (fun hc => ?_)
        · have h := qq_f hc h
          refine lv_iinc (k := 3) (v := (x3 + 1)) (lv' := [(3, .int (x3 + 1)), (0, .ref h0), (1, .int x1), (2, .int x2)]) hx hb qd_Mem_countOf_25 hl rfl (congrArg (fun z : Int32 => x3 + z) (show Int32.ofInt 1 = 1 by decide)) (by decide) rfl (fun ls hl => ?_)
          refine lv_goto hx hb qd_Mem_countOf_28 (tgt := 4) (by decide) ?_
          exact ih4 x1 x2 (x3 + 1) s0 _ _ _ (lv_sub (l' := [(0, .ref h0), (1, .int x1), (2, .int x2), (3, .int (x3 + 1))]) hl [1, 2, 3, 0] rfl) hP hD hS h
        · have h := qq_t hc h
          refine lv_iinc (k := 2) (v := (x2 + 1)) (lv' := [(2, .int (x2 + 1)), (0, .ref h0), (1, .int x1), (3, .int x3)]) hx hb qd_Mem_countOf_22 hl rfl (congrArg (fun z : Int32 => x2 + z) (show Int32.ofInt 1 = 1 by decide)) (by decide) rfl (fun ls hl => ?_)
          refine lv_iinc (k := 3) (v := (x3 + 1)) (lv' := [(3, .int (x3 + 1)), (2, .int (x2 + 1)), (0, .ref h0), (1, .int x1)]) hx hb qd_Mem_countOf_25 hl rfl (congrArg (fun z : Int32 => x3 + z) (show Int32.ofInt 1 = 1 by decide)) (by decide) rfl (fun ls hl => ?_)
          refine lv_goto hx hb qd_Mem_countOf_28 (tgt := 4) (by decide) ?_
          exact ih4 x1 (x2 + 1) (x3 + 1) s0 _ _ _ (lv_sub (l' := [(0, .ref h0), (1, .int x1), (2, .int (x2 + 1)), (3, .int (x3 + 1))]) hl [2, 3, 1, 0] rfl) hP hD hS h
  unfold qf_Mem_countOf at h
  refine lv_iconst (v := 0) hx hb qd_Mem_countOf_0 rfl ?_
  refine lv_istore_n (lv' := [(2, .int 0), (0, .ref h0), (1, .int a1)]) hx hb qd_Mem_countOf_1 rfl hl (by decide) rfl (fun ls hl => ?_)
  refine lv_iconst (v := 0) hx hb qd_Mem_countOf_2 rfl ?_
  refine lv_istore_n (lv' := [(3, .int 0), (2, .int 0), (0, .ref h0), (1, .int a1)]) hx hb qd_Mem_countOf_3 rfl hl (by decide) rfl (fun ls hl => ?_)
  exact L4 qN a1 0 0 s0 _ _ _ (lv_sub (l' := [(0, .ref h0), (1, .int a1), (2, .int 0), (3, .int 0)]) hl [2, 3, 1, 0] rfl) hP hD hS h
/-! QuietSweep$Memory.whitenUsed()V -/
def qf_Mem_whitenUsed_B2 (k2 : (Int32 × QS) → Option (QS)) (x1 : Int32) (s0 : QS) : Option (QS) := (if (s0 0 0) ≤ x1 then (some s0) else (if (x1 < 0 ∨ (s0 0 0).toNatClampNeg ≤ Int32.toNatClampNeg x1) then none else (if ((s0 1) (Int32.toNatClampNeg x1)) = 0 then (k2 ((x1 + 1), s0)) else (if (x1 < 0 ∨ (s0 0 0).toNatClampNeg ≤ Int32.toNatClampNeg x1) then none else (k2 ((x1 + 1), (qp s0 1 (upd (s0 1) (Int32.toNatClampNeg x1) 1))))))))
def qf_Mem_whitenUsed_F2 (k2 : (Int32 × QS) → Option (QS)) (a : Int32 × QS) : Option (QS) := qf_Mem_whitenUsed_B2 k2 a.1 a.2
def qf_Mem_whitenUsed  (s0 : QS) : Option (QS) := (qfix (qf_Mem_whitenUsed_F2) qN (0, s0))
set_option maxHeartbeats 4000000 in
set_option maxRecDepth 100000 in
theorem qm_Mem_whitenUsed (l : Launch) (dC : Nat → ClassId) (dI : Nat → Nat → Nat) (cI cC cB cM : ClassId) (h0 : Nat) (d0 : Nat → Nat) (s0 : QS)  (sz : Nat) (o : QS) (h : qf_Mem_whitenUsed s0 = some o) : Met l qy_Mem_whitenUsed (ql_Mem_whitenUsed :: qG) ({ frames := 0, cells := 0, slots := 0, locals := 0 } : Room) (qPc dC dI cI cC cB cM [.ref h0] sz [(h0, .inr (2, [.int (s0 0 0), .ref (d0 1), .ref (d0 2)])), (d0 1, .inl (cI, (s0 0 0).toNatClampNeg, .inl (s0 1))), (d0 2, .inl (cI, (3 * s0 0 0).toNatClampNeg, .inl (s0 2)))]) (va_Qv (fun _ : Unit => True) (fun _ t => va_P (dC, dI) qCl [(h0, .inr (2, [.int (o 0 0), .ref (d0 1), .ref (d0 2)])), (d0 1, .inl (cI, (o 0 0).toNatClampNeg, .inl (o 1))), (d0 2, .inl (cI, (3 * o 0 0).toNatClampNeg, .inl (o 2)))] t.heap ∧ va_D (va_A [(h0, .inr (2, [.int (s0 0 0), .ref (d0 1), .ref (d0 2)])), (d0 1, .inl (cI, (s0 0 0).toNatClampNeg, .inl (s0 1))), (d0 2, .inl (cI, (3 * s0 0 0).toNatClampNeg, .inl (s0 2)))] sz) [(h0, .inr (2, [.int (o 0 0), .ref (d0 1), .ref (d0 2)])), (d0 1, .inl (cI, (o 0 0).toNatClampNeg, .inl (o 1))), (d0 2, .inl (cI, (3 * o 0 0).toNatClampNeg, .inl (o 2)))]) (va_A [(h0, .inr (2, [.int (s0 0 0), .ref (d0 1), .ref (d0 2)])), (d0 1, .inl (cI, (s0 0 0).toNatClampNeg, .inl (s0 1))), (d0 2, .inl (cI, (3 * s0 0 0).toNatClampNeg, .inl (s0 2)))] sz)) 0 0 (va_A [(h0, .inr (2, [.int (s0 0 0), .ref (d0 1), .ref (d0 2)])), (d0 1, .inl (cI, (s0 0 0).toNatClampNeg, .inl (s0 1))), (d0 2, .inl (cI, (3 * s0 0 0).toNatClampNeg, .inl (s0 2)))] sz) := by
  refine Met.ofW (cc := qc_Mem_whitenUsed) (maxL := 2) (ret := none) (by decide) rfl ?_
  intro p e s m args below meth c s₁ B hml hv
  obtain ⟨rfl, hsz, hP, hK, hD0⟩ := hv
  have hx := B.exec
  have hb := B.bytes
  have hr := B.returns
  have hts0 := atoms_spec (ws := ql_Mem_whitenUsed :: qG) B.pre
  have hts := fun (w : Cond) (hw : w ∈ qG) => hts0 w (List.mem_cons_of_mem _ hw)
  have hown : s.vm.findClass "QuietSweep$Memory" = some m.cls := findClass_of_methodNamed B.named
  have hlocks := B.notSynchronized
  subst hsz
  have hD := hD0.self (sz := s.heap.size)
  generalize hAe : va_A [(h0, .inr (2, [.int (s0 0 0), .ref (d0 1), .ref (d0 2)])), (d0 1, .inl (cI, (s0 0 0).toNatClampNeg, .inl (s0 1))), (d0 2, .inl (cI, (3 * s0 0 0).toNatClampNeg, .inl (s0 2)))] s.heap.size = A at hD ⊢
  have hA : ∀ q : Nat, s.heap.size ≤ q → A q := fun q h => by rw [← hAe]; exact Or.inr h
  have hS : va_S A s.heap s.heap [] := va_S.rf
  have hl := lv_entry ([.ref h0]) (n := 2) (Nat.le_of_ble_eq_true rfl)
  rw [lg_entry_eq]
  generalize (lg_sl ([.ref h0]) ++ List.replicate (2 - (lg_sl ([.ref h0])).length) Slot.unset).toArray = ls at hl ⊢
  have hl : lv_has ls 2 [(0, .ref h0)] := hl
  have L2 : ∀ (n : Nat) (x1 : Int32) (s0 : QS) (H : Heap) (locs : List Loc) (ls : Array Slot), lv_has ls 2 [(0, .ref h0), (1, .int x1)] → va_P (dC, dI) qCl [(h0, .inr (2, [.int (s0 0 0), .ref (d0 1), .ref (d0 2)])), (d0 1, .inl (cI, (s0 0 0).toNatClampNeg, .inl (s0 1))), (d0 2, .inl (cI, (3 * s0 0 0).toNatClampNeg, .inl (s0 2)))] H → va_D A [(h0, .inr (2, [.int (s0 0 0), .ref (d0 1), .ref (d0 2)])), (d0 1, .inl (cI, (s0 0 0).toNatClampNeg, .inl (s0 1))), (d0 2, .inl (cI, (3 * s0 0 0).toNatClampNeg, .inl (s0 2)))] → va_S A s.heap H locs → qfix (qf_Mem_whitenUsed_F2) n (x1, s0) = some o → W p l e (headSpec (ql_Mem_whitenUsed :: qG) ({ frames := 0, cells := 0, slots := 0, locals := 0 } : Room)).room s m ([.ref h0] : List Value).toArray below meth c H locs 0 0 (MQ below (va_Qv (fun _ : Unit => True) (fun _ t => va_P (dC, dI) qCl [(h0, .inr (2, [.int (o 0 0), .ref (d0 1), .ref (d0 2)])), (d0 1, .inl (cI, (o 0 0).toNatClampNeg, .inl (o 1))), (d0 2, .inl (cI, (3 * o 0 0).toNatClampNeg, .inl (o 2)))] t.heap ∧ va_D A [(h0, .inr (2, [.int (o 0 0), .ref (d0 1), .ref (d0 2)])), (d0 1, .inl (cI, (o 0 0).toNatClampNeg, .inl (o 1))), (d0 2, .inl (cI, (3 * o 0 0).toNatClampNeg, .inl (o 2)))]) A) ([.ref h0] : List Value).toArray s 0 0 A) (F0 m 2 ls []) := by
    intro n
    induction n with
    | zero => intro x1 s0 H locs ls hl hP hD hS h; cases (show (none : Option (QS)) = some o from h)
    | succ n2 ih2 =>
      intro x1 s0 H locs ls hl hP hD hS h
      have h : qf_Mem_whitenUsed_B2 (qfix (qf_Mem_whitenUsed_F2) n2) x1 s0 = some o := h
      unfold qf_Mem_whitenUsed_B2 at h
      refine lv_iload_n hx hb qd_Mem_whitenUsed_2 rfl (lv_at hl 1 rfl) ?_
      refine lv_aload_n hx hb qd_Mem_whitenUsed_3 rfl (lv_at hl 0 rfl) ?_
      refine va_get (D := (dC, dI)) (ci := 2) (v := .int (s0 0 0)) (C := "QuietSweep$Memory") (T := qT_Mem) (N := 3) hx hb hts qi_Mem hown hK.1 hP 0 rfl rfl 0 (by decide) (hts _ qw_67) (fun _ h9 => h9) rfl qd_Mem_whitenUsed_4 ?_
      refine lv_icmp_ge hx hb qd_Mem_whitenUsed_7 (tgt := 32) (by decide) (fun hc => ?_) (fun hc => ?_)
      · have h := qq_t hc h
        obtain rfl := Option.some.inj h
        exact W.vret hx hb hr (fun t ht hW => ⟨⟨(), rfl, trivial, by rw [ht]; exact hP, hD⟩, hS.F ht⟩) hS.2.2 qd_Mem_whitenUsed_32
      · have h := qq_f hc h
        refine lv_aload_n hx hb qd_Mem_whitenUsed_10 rfl (lv_at hl 0 rfl) ?_
        refine va_get (D := (dC, dI)) (ci := 2) (v := .ref (d0 1)) (C := "QuietSweep$Memory") (T := qT_Mem) (N := 3) hx hb hts qi_Mem hown hK.1 hP 0 rfl rfl 1 (by decide) (hts _ qw_69) (fun _ h9 => h9) rfl qd_Mem_whitenUsed_11 ?_
        refine lv_iload_n hx hb qd_Mem_whitenUsed_14 rfl (lv_at hl 1 rfl) ?_
        obtain ⟨hb1, h⟩ := qq_n h
        refine va_iald hx hb hK.1 hP 1 0 rfl rfl hb1 qd_Mem_whitenUsed_15 ?_
        refine lv_if_eq hx hb qd_Mem_whitenUsed_16 (tgt := 26) (by decide) (fun hc => ?_) (fun hc => ?_)
        · have h := qq_t hc h
          refine lv_iinc (k := 1) (v := (x1 + 1)) (lv' := [(1, .int (x1 + 1)), (0, .ref h0)]) hx hb qd_Mem_whitenUsed_26 hl rfl (congrArg (fun z : Int32 => x1 + z) (show Int32.ofInt 1 = 1 by decide)) (by decide) rfl (fun ls hl => ?_)
          refine lv_goto hx hb qd_Mem_whitenUsed_29 (tgt := 2) (by decide) ?_
          exact ih2 (x1 + 1) s0 _ _ _ (lv_sub (l' := [(0, .ref h0), (1, .int (x1 + 1))]) hl [1, 0] rfl) hP hD hS h
        · have h := qq_f hc h
          refine lv_aload_n hx hb qd_Mem_whitenUsed_19 rfl (lv_at hl 0 rfl) ?_
          refine va_get (D := (dC, dI)) (ci := 2) (v := .ref (d0 1)) (C := "QuietSweep$Memory") (T := qT_Mem) (N := 3) hx hb hts qi_Mem hown hK.1 hP 0 rfl rfl 1 (by decide) (hts _ qw_69) (fun _ h9 => h9) rfl qd_Mem_whitenUsed_20 ?_
          refine lv_iload_n hx hb qd_Mem_whitenUsed_23 rfl (lv_at hl 1 rfl) ?_
          refine lv_iconst (v := 1) hx hb qd_Mem_whitenUsed_24 rfl ?_
          obtain ⟨hb2, h⟩ := qq_n h
          refine va_iast hx hb hK.1 hP hD hS 1 0 rfl rfl hb2 qd_Mem_whitenUsed_25 (fun H locs hP hD hS => ?_)
          have hP : va_P (dC, dI) qCl [(h0, .inr (2, [.int (s0 0 0), .ref (d0 1), .ref (d0 2)])), (d0 1, .inl (cI, (s0 0 0).toNatClampNeg, .inl (upd (s0 1) (Int32.toNatClampNeg x1) 1))), (d0 2, .inl (cI, (3 * s0 0 0).toNatClampNeg, .inl (s0 2)))] _ := hP
          have hD : va_D A [(h0, .inr (2, [.int (s0 0 0), .ref (d0 1), .ref (d0 2)])), (d0 1, .inl (cI, (s0 0 0).toNatClampNeg, .inl (upd (s0 1) (Int32.toNatClampNeg x1) 1))), (d0 2, .inl (cI, (3 * s0 0 0).toNatClampNeg, .inl (s0 2)))] := hD
          refine lv_iinc (k := 1) (v := (x1 + 1)) (lv' := [(1, .int (x1 + 1)), (0, .ref h0)]) hx hb qd_Mem_whitenUsed_26 hl rfl (congrArg (fun z : Int32 => x1 + z) (show Int32.ofInt 1 = 1 by decide)) (by decide) rfl (fun ls hl => ?_)
          refine lv_goto hx hb qd_Mem_whitenUsed_29 (tgt := 2) (by decide) ?_
          exact ih2 (x1 + 1) (qp s0 1 (upd (s0 1) (Int32.toNatClampNeg x1) 1)) _ _ _ (lv_sub (l' := [(0, .ref h0), (1, .int (x1 + 1))]) hl [1, 0] rfl) hP hD hS h
  unfold qf_Mem_whitenUsed at h
  refine lv_iconst (v := 0) hx hb qd_Mem_whitenUsed_0 rfl ?_
  refine lv_istore_n (lv' := [(1, .int 0), (0, .ref h0)]) hx hb qd_Mem_whitenUsed_1 rfl hl (by decide) rfl (fun ls hl => ?_)
  exact L2 qN 0 s0 _ _ _ (lv_sub (l' := [(0, .ref h0), (1, .int 0)]) hl [1, 0] rfl) hP hD hS h
/-! QuietSweep.setOf(I)I -/
def qf_Qs_setOf (a1 : Int32)  : Option (Int32) := (if a1 = (-1) then (some 0) else (some (1 <<< (a1 &&& 31))))
set_option maxHeartbeats 4000000 in
set_option maxRecDepth 100000 in
theorem qm_Qs_setOf (l : Launch) (dC : Nat → ClassId) (dI : Nat → Nat → Nat) (cI cC cB cM : ClassId)    (a1 : Int32) (sz : Nat) (o : Int32) (h : qf_Qs_setOf a1 = some o) : Met l qy_Qs_setOf (ql_Qs_setOf :: qG) ({ frames := 0, cells := 0, slots := 0, locals := 0 } : Room) (qPc dC dI cI cC cB cM [.int a1] sz []) (va_Qi (fun r (_ : Unit) => r = o) (fun _ t => va_P (dC, dI) qCl [] t.heap ∧ va_D (va_A [] sz) []) (va_A [] sz)) 0 0 (va_A [] sz) := by
  refine Met.ofW (cc := qc_Qs_setOf) (maxL := 1) (ret := (some .int)) (by decide) rfl ?_
  intro p e s m args below meth c s₁ B hml hv
  obtain ⟨rfl, hsz, hP, hK, hD0⟩ := hv
  have hx := B.exec
  have hb := B.bytes
  have hr := B.returns
  have hts0 := atoms_spec (ws := ql_Qs_setOf :: qG) B.pre
  have hts := fun (w : Cond) (hw : w ∈ qG) => hts0 w (List.mem_cons_of_mem _ hw)
  have hown : s.vm.findClass "QuietSweep" = some m.cls := findClass_of_methodNamed B.named
  have hlocks := B.notSynchronized
  subst hsz
  have hD := hD0.self (sz := s.heap.size)
  generalize hAe : va_A [] s.heap.size = A at hD ⊢
  have hA : ∀ q : Nat, s.heap.size ≤ q → A q := fun q h => by rw [← hAe]; exact Or.inr h
  have hS : va_S A s.heap s.heap [] := va_S.rf
  have hl := lv_entry ([.int a1]) (n := 1) (Nat.le_of_ble_eq_true rfl)
  rw [lg_entry_eq]
  generalize (lg_sl ([.int a1]) ++ List.replicate (1 - (lg_sl ([.int a1])).length) Slot.unset).toArray = ls at hl ⊢
  have hl : lv_has ls 1 [(0, .int a1)] := hl
  unfold qf_Qs_setOf at h
  refine lv_iload_n hx hb qd_Qs_setOf_0 rfl (lv_at hl 0 rfl) ?_
  refine lv_iconst (v := (-1)) hx hb qd_Qs_setOf_1 rfl ?_
  refine lv_icmp_ne hx hb qd_Qs_setOf_2 (tgt := 9) (by decide) (fun hc => ?_) (fun hc => ?_)
  · have h := qq_f hc h
    refine lv_iconst (v := 1) hx hb qd_Qs_setOf_9 rfl ?_
    refine lv_iload_n hx hb qd_Qs_setOf_10 rfl (lv_at hl 0 rfl) ?_
    refine lv_ishl hx hb qd_Qs_setOf_11 ?_
    obtain rfl := Option.some.inj h
    exact W.iret (v := (1 <<< (a1 &&& 31))) hx hb hr (fun t ht hW => ⟨⟨(1 <<< (a1 &&& 31)), (), rfl, rfl, by rw [ht]; exact hP, hD⟩, hS.F ht⟩) hS.2.2 qd_Qs_setOf_12
  · have h := qq_t hc h
    refine lv_iconst (v := 0) hx hb qd_Qs_setOf_5 rfl ?_
    refine lv_goto hx hb qd_Qs_setOf_6 (tgt := 12) (by decide) ?_
    obtain rfl := Option.some.inj h
    exact W.iret (v := 0) hx hb hr (fun t ht hW => ⟨⟨0, (), rfl, rfl, by rw [ht]; exact hP, hD⟩, hS.F ht⟩) hS.2.2 qd_Qs_setOf_12
/-! QuietSweep$Memory.closure(I)I -/
def qf_Mem_closure_B15 (k4 : (Int32 × Int32 × QS) → Option (Int32)) (k15 : (Int32 × Int32 × Int32 × QS) → Option (Int32)) (x2 : Int32) (x3 : Int32) (x4 : Int32) (s0 : QS) : Option (Int32) := (if (s0 0 0) ≤ x4 then (k4 (x2, (x3 + 1), s0)) else (if ((x2 >>> (x4 &&& 31)) &&& 1) = 1 then ((qf_Mem_read x4 0 s0).bind fun q1 => ((qf_Qs_setOf q1).bind fun q2 => ((qf_Mem_read x4 1 s0).bind fun q3 => ((qf_Qs_setOf q3).bind fun q4 => (k15 ((x2 ||| (q2 ||| q4)), x3, (x4 + 1), s0)))))) else (k15 (x2, x3, (x4 + 1), s0))))
def qf_Mem_closure_F15 (k4 : (Int32 × Int32 × QS) → Option (Int32)) (k15 : (Int32 × Int32 × Int32 × QS) → Option (Int32)) (a : Int32 × Int32 × Int32 × QS) : Option (Int32) := qf_Mem_closure_B15 k4 k15 a.1 a.2.1 a.2.2.1 a.2.2.2
def qf_Mem_closure_B4 (k4 : (Int32 × Int32 × QS) → Option (Int32)) (x2 : Int32) (x3 : Int32) (s0 : QS) : Option (Int32) := (if (s0 0 0) ≤ x3 then (some x2) else (qfix (qf_Mem_closure_F15 k4) qN (x2, x3, 0, s0)))
def qf_Mem_closure_F4 (k4 : (Int32 × Int32 × QS) → Option (Int32)) (a : Int32 × Int32 × QS) : Option (Int32) := qf_Mem_closure_B4 k4 a.1 a.2.1 a.2.2
def qf_Mem_closure (a1 : Int32) (s0 : QS) : Option (Int32) := (qfix (qf_Mem_closure_F4) qN (a1, 0, s0))
set_option maxHeartbeats 4000000 in
set_option maxRecDepth 100000 in
theorem qm_Mem_closure (l : Launch) (dC : Nat → ClassId) (dI : Nat → Nat → Nat) (cI cC cB cM : ClassId) (h0 : Nat) (d0 : Nat → Nat) (s0 : QS) (a1 : Int32) (sz : Nat) (o : Int32) (h : qf_Mem_closure a1 s0 = some o) : Met l qy_Mem_closure (ql_Mem_closure :: qG) ({ frames := 1, cells := 0, slots := 0, locals := 22 } : Room) (qPc dC dI cI cC cB cM [.ref h0, .int a1] sz [(h0, .inr (2, [.int (s0 0 0), .ref (d0 1), .ref (d0 2)])), (d0 1, .inl (cI, (s0 0 0).toNatClampNeg, .inl (s0 1))), (d0 2, .inl (cI, (3 * s0 0 0).toNatClampNeg, .inl (s0 2)))]) (va_Qi (fun r (_ : Unit) => r = o) (fun _ t => va_P (dC, dI) qCl [(h0, .inr (2, [.int (s0 0 0), .ref (d0 1), .ref (d0 2)])), (d0 1, .inl (cI, (s0 0 0).toNatClampNeg, .inl (s0 1))), (d0 2, .inl (cI, (3 * s0 0 0).toNatClampNeg, .inl (s0 2)))] t.heap ∧ va_D (va_A [(h0, .inr (2, [.int (s0 0 0), .ref (d0 1), .ref (d0 2)])), (d0 1, .inl (cI, (s0 0 0).toNatClampNeg, .inl (s0 1))), (d0 2, .inl (cI, (3 * s0 0 0).toNatClampNeg, .inl (s0 2)))] sz) [(h0, .inr (2, [.int (s0 0 0), .ref (d0 1), .ref (d0 2)])), (d0 1, .inl (cI, (s0 0 0).toNatClampNeg, .inl (s0 1))), (d0 2, .inl (cI, (3 * s0 0 0).toNatClampNeg, .inl (s0 2)))]) (va_A [(h0, .inr (2, [.int (s0 0 0), .ref (d0 1), .ref (d0 2)])), (d0 1, .inl (cI, (s0 0 0).toNatClampNeg, .inl (s0 1))), (d0 2, .inl (cI, (3 * s0 0 0).toNatClampNeg, .inl (s0 2)))] sz)) 0 0 (va_A [(h0, .inr (2, [.int (s0 0 0), .ref (d0 1), .ref (d0 2)])), (d0 1, .inl (cI, (s0 0 0).toNatClampNeg, .inl (s0 1))), (d0 2, .inl (cI, (3 * s0 0 0).toNatClampNeg, .inl (s0 2)))] sz) := by
  refine Met.ofW (cc := qc_Mem_closure) (maxL := 5) (ret := (some .int)) (by decide) rfl ?_
  intro p e s m args below meth c s₁ B hml hv
  obtain ⟨rfl, hsz, hP, hK, hD0⟩ := hv
  have hx := B.exec
  have hb := B.bytes
  have hr := B.returns
  have hts0 := atoms_spec (ws := ql_Mem_closure :: qG) B.pre
  have hts := fun (w : Cond) (hw : w ∈ qG) => hts0 w (List.mem_cons_of_mem _ hw)
  have hown : s.vm.findClass "QuietSweep$Memory" = some m.cls := findClass_of_methodNamed B.named
  have hlocks := B.notSynchronized
  subst hsz
  have hD := hD0.self (sz := s.heap.size)
  generalize hAe : va_A [(h0, .inr (2, [.int (s0 0 0), .ref (d0 1), .ref (d0 2)])), (d0 1, .inl (cI, (s0 0 0).toNatClampNeg, .inl (s0 1))), (d0 2, .inl (cI, (3 * s0 0 0).toNatClampNeg, .inl (s0 2)))] s.heap.size = A at hD ⊢
  have hA : ∀ q : Nat, s.heap.size ≤ q → A q := fun q h => by rw [← hAe]; exact Or.inr h
  have hS : va_S A s.heap s.heap [] := va_S.rf
  have hl := lv_entry ([.ref h0, .int a1]) (n := 5) (Nat.le_of_ble_eq_true rfl)
  rw [lg_entry_eq]
  generalize (lg_sl ([.ref h0, .int a1]) ++ List.replicate (5 - (lg_sl ([.ref h0, .int a1])).length) Slot.unset).toArray = ls at hl ⊢
  have hl : lv_has ls 5 [(0, .ref h0), (1, .int a1)] := hl
  have L4 : ∀ (n : Nat) (x2 : Int32) (x3 : Int32) (s0 : QS) (H : Heap) (locs : List Loc) (ls : Array Slot), lv_has ls 5 [(0, .ref h0), (2, .int x2), (3, .int x3)] → va_P (dC, dI) qCl [(h0, .inr (2, [.int (s0 0 0), .ref (d0 1), .ref (d0 2)])), (d0 1, .inl (cI, (s0 0 0).toNatClampNeg, .inl (s0 1))), (d0 2, .inl (cI, (3 * s0 0 0).toNatClampNeg, .inl (s0 2)))] H → va_D A [(h0, .inr (2, [.int (s0 0 0), .ref (d0 1), .ref (d0 2)])), (d0 1, .inl (cI, (s0 0 0).toNatClampNeg, .inl (s0 1))), (d0 2, .inl (cI, (3 * s0 0 0).toNatClampNeg, .inl (s0 2)))] → va_S A s.heap H locs → qfix (qf_Mem_closure_F4) n (x2, x3, s0) = some o → W p l e (headSpec (ql_Mem_closure :: qG) ({ frames := 1, cells := 0, slots := 0, locals := 22 } : Room)).room s m ([.ref h0, .int a1] : List Value).toArray below meth c H locs 0 0 (MQ below (va_Qi (fun r (_ : Unit) => r = o) (fun _ t => va_P (dC, dI) qCl [(h0, .inr (2, [.int (s0 0 0), .ref (d0 1), .ref (d0 2)])), (d0 1, .inl (cI, (s0 0 0).toNatClampNeg, .inl (s0 1))), (d0 2, .inl (cI, (3 * s0 0 0).toNatClampNeg, .inl (s0 2)))] t.heap ∧ va_D A [(h0, .inr (2, [.int (s0 0 0), .ref (d0 1), .ref (d0 2)])), (d0 1, .inl (cI, (s0 0 0).toNatClampNeg, .inl (s0 1))), (d0 2, .inl (cI, (3 * s0 0 0).toNatClampNeg, .inl (s0 2)))]) A) ([.ref h0, .int a1] : List Value).toArray s 0 0 A) (F0 m 4 ls []) := by
    intro n
    induction n with
    | zero => intro x2 x3 s0 H locs ls hl hP hD hS h; cases (show (none : Option (Int32)) = some o from h)
    | succ n4 ih4 =>
      intro x2 x3 s0 H locs ls hl hP hD hS h
      have h : qf_Mem_closure_B4 (qfix (qf_Mem_closure_F4) n4) x2 x3 s0 = some o := h
      have L15 : ∀ (n : Nat) (x2 : Int32) (x3 : Int32) (x4 : Int32) (s0 : QS) (H : Heap) (locs : List Loc) (ls : Array Slot), lv_has ls 5 [(0, .ref h0), (2, .int x2), (3, .int x3), (4, .int x4)] → va_P (dC, dI) qCl [(h0, .inr (2, [.int (s0 0 0), .ref (d0 1), .ref (d0 2)])), (d0 1, .inl (cI, (s0 0 0).toNatClampNeg, .inl (s0 1))), (d0 2, .inl (cI, (3 * s0 0 0).toNatClampNeg, .inl (s0 2)))] H → va_D A [(h0, .inr (2, [.int (s0 0 0), .ref (d0 1), .ref (d0 2)])), (d0 1, .inl (cI, (s0 0 0).toNatClampNeg, .inl (s0 1))), (d0 2, .inl (cI, (3 * s0 0 0).toNatClampNeg, .inl (s0 2)))] → va_S A s.heap H locs → qfix (qf_Mem_closure_F15 (qfix (qf_Mem_closure_F4) n4)) n (x2, x3, x4, s0) = some o → W p l e (headSpec (ql_Mem_closure :: qG) ({ frames := 1, cells := 0, slots := 0, locals := 22 } : Room)).room s m ([.ref h0, .int a1] : List Value).toArray below meth c H locs 0 0 (MQ below (va_Qi (fun r (_ : Unit) => r = o) (fun _ t => va_P (dC, dI) qCl [(h0, .inr (2, [.int (s0 0 0), .ref (d0 1), .ref (d0 2)])), (d0 1, .inl (cI, (s0 0 0).toNatClampNeg, .inl (s0 1))), (d0 2, .inl (cI, (3 * s0 0 0).toNatClampNeg, .inl (s0 2)))] t.heap ∧ va_D A [(h0, .inr (2, [.int (s0 0 0), .ref (d0 1), .ref (d0 2)])), (d0 1, .inl (cI, (s0 0 0).toNatClampNeg, .inl (s0 1))), (d0 2, .inl (cI, (3 * s0 0 0).toNatClampNeg, .inl (s0 2)))]) A) ([.ref h0, .int a1] : List Value).toArray s 0 0 A) (F0 m 15 ls []) := by
        intro n
        induction n with
        | zero => intro x2 x3 x4 s0 H locs ls hl hP hD hS h; cases (show (none : Option (Int32)) = some o from h)
        | succ n15 ih15 =>
          intro x2 x3 x4 s0 H locs ls hl hP hD hS h
          have h : qf_Mem_closure_B15 (qfix (qf_Mem_closure_F4) n4) (qfix (qf_Mem_closure_F15 (qfix (qf_Mem_closure_F4) n4)) n15) x2 x3 x4 s0 = some o := h
          unfold qf_Mem_closure_B15 at h
          refine lv_iload hx hb qd_Mem_closure_15 (lv_at hl 3 rfl) ?_
          refine lv_aload_n hx hb qd_Mem_closure_17 rfl (lv_at hl 0 rfl) ?_
          refine va_get (D := (dC, dI)) (ci := 2) (v := .int (s0 0 0)) (C := "QuietSweep$Memory") (T := qT_Mem) (N := 3) hx hb hts qi_Mem hown hK.1 hP 0 rfl rfl 0 (by decide) (hts _ qw_67) (fun _ h9 => h9) rfl qd_Mem_closure_18 ?_
          refine lv_icmp_ge hx hb qd_Mem_closure_21 (tgt := 64) (by decide) (fun hc => ?_) (fun hc => ?_)
          · have h := qq_t hc h
            refine lv_iinc (k := 2) (v := (x3 + 1)) (lv' := [(3, .int (x3 + 1)), (0, .ref h0), (2, .int x2), (4, .int x4)]) hx hb qd_Mem_closure_64 hl rfl (congrArg (fun z : Int32 => x3 + z) (show Int32.ofInt 1 = 1 by decide)) (by decide) rfl (fun ls hl => ?_)
            refine lv_goto hx hb qd_Mem_closure_67 (tgt := 4) (by decide) ?_
            exact ih4 x2 (x3 + 1) s0 _ _ _ (lv_sub (l' := [(0, .ref h0), (2, .int x2), (3, .int (x3 + 1))]) hl [1, 2, 0] rfl) hP hD hS h
          · have h := qq_f hc h
            refine lv_iload_n hx hb qd_Mem_closure_24 rfl (lv_at hl 1 rfl) ?_
            refine lv_iload hx hb qd_Mem_closure_25 (lv_at hl 3 rfl) ?_
            refine lv_ishr hx hb qd_Mem_closure_27 ?_
            refine lv_iconst (v := 1) hx hb qd_Mem_closure_28 rfl ?_
            refine lv_iand hx hb qd_Mem_closure_29 ?_
            refine lv_iconst (v := 1) hx hb qd_Mem_closure_30 rfl ?_
            refine lv_icmp_ne hx hb qd_Mem_closure_31 (tgt := 58) (by decide) (fun hc => ?_) (fun hc => ?_)
            · have h := qq_f hc h
              refine lv_iinc (k := 3) (v := (x4 + 1)) (lv' := [(4, .int (x4 + 1)), (0, .ref h0), (2, .int x2), (3, .int x3)]) hx hb qd_Mem_closure_58 hl rfl (congrArg (fun z : Int32 => x4 + z) (show Int32.ofInt 1 = 1 by decide)) (by decide) rfl (fun ls hl => ?_)
              refine lv_goto hx hb qd_Mem_closure_61 (tgt := 15) (by decide) ?_
              exact ih15 x2 x3 (x4 + 1) s0 _ _ _ (lv_sub (l' := [(0, .ref h0), (2, .int x2), (3, .int x3), (4, .int (x4 + 1))]) hl [1, 2, 3, 0] rfl) hP hD hS h
            · have h := qq_t hc h
              refine lv_iload_n hx hb qd_Mem_closure_34 rfl (lv_at hl 1 rfl) ?_
              refine lv_aload_n hx hb qd_Mem_closure_35 rfl (lv_at hl 0 rfl) ?_
              refine lv_iload hx hb qd_Mem_closure_36 (lv_at hl 3 rfl) ?_
              refine lv_iconst (v := 0) hx hb qd_Mem_closure_38 rfl ?_
              obtain ⟨q1, hq1, h⟩ := qq_b h
              have hPc := hP.sub (ws' := [(h0, .inr (2, [.int (s0 0 0), .ref (d0 1), .ref (d0 2)])), (d0 1, .inl (cI, (s0 0 0).toNatClampNeg, .inl (s0 1))), (d0 2, .inl (cI, (3 * s0 0 0).toNatClampNeg, .inl (s0 2)))]) [0, 1, 2] rfl
              have hDc := hD.sub (ws' := [(h0, .inr (2, [.int (s0 0 0), .ref (d0 1), .ref (d0 2)])), (d0 1, .inl (cI, (s0 0 0).toNatClampNeg, .inl (s0 1))), (d0 2, .inl (cI, (3 * s0 0 0).toNatClampNeg, .inl (s0 2)))]) [0, 1, 2] (by decide) rfl
              have hFc := va_free (wc := [(h0, .inr (2, [.int (s0 0 0), .ref (d0 1), .ref (d0 2)])), (d0 1, .inl (cI, (s0 0 0).toNatClampNeg, .inl (s0 1))), (d0 2, .inl (cI, (3 * s0 0 0).toNatClampNeg, .inl (s0 2)))]) hD hS hA [0, 1, 2] rfl
              refine va_calli (va_runV (As := [.int x4, .int 0]) (rest := [.int x2]) ⟨hx, hb, hml, hown, hts⟩ (qm_Mem_read l dC dI cI cC cB cM h0 d0 s0 x4 0 _ q1 hq1) (q_CW hts qw_540 qw_345 qw_346 qw_3 qw_347 qh_Mem_read rfl rfl ⟨by decide, by decide⟩) (q_preV [.int x4, .int 0] 0 rfl rfl hK hPc hDc) rfl rfl hl.1 rfl (lv_room (Nat.le_of_ble_eq_true rfl)) qd_Mem_closure_39 ⟨Nat.zero_le _, Nat.zero_le _⟩) hS (fun q _ h => hFc q h) hFc (fun r u t H1 locs ht hvm hw hB hz1 hk1 hS => ?_)
              have hw : q1 = r := Eq.symm hw
              subst hw
              obtain ⟨hP1, hD1⟩ := hB
              rw [ht] at hP1
              obtain ⟨hP, hD⟩ := va_join (wr := []) (w1 := [(h0, .inr (2, [.int (s0 0 0), .ref (d0 1), .ref (d0 2)])), (d0 1, .inl (cI, (s0 0 0).toNatClampNeg, .inl (s0 1))), (d0 2, .inl (cI, (3 * s0 0 0).toNatClampNeg, .inl (s0 2)))]) hP hD [0, 1, 2] [] rfl rfl (by decide) (by decide) hk1 hFc hP1 hD1
              have hP := hP.sub (ws' := [(h0, .inr (2, [.int (s0 0 0), .ref (d0 1), .ref (d0 2)])), (d0 1, .inl (cI, (s0 0 0).toNatClampNeg, .inl (s0 1))), (d0 2, .inl (cI, (3 * s0 0 0).toNatClampNeg, .inl (s0 2)))]) [0, 1, 2] rfl
              have hD := hD.sub (ws' := [(h0, .inr (2, [.int (s0 0 0), .ref (d0 1), .ref (d0 2)])), (d0 1, .inl (cI, (s0 0 0).toNatClampNeg, .inl (s0 1))), (d0 2, .inl (cI, (3 * s0 0 0).toNatClampNeg, .inl (s0 2)))]) [0, 1, 2] (by decide) rfl
              obtain ⟨q2, hq2, h⟩ := qq_b h
              have hPc := hP.sub (ws' := []) [] rfl
              have hDc := hD.sub (ws' := []) [] (by decide) rfl
              have hFc := va_free (wc := []) hD hS hA [] rfl
              refine va_calli (va_runSN (As := [.int q1]) (rest := [.int x2]) ⟨hx, hb, hml, hown, hts⟩ (qm_Qs_setOf l dC dI cI cC cB cM q1 _ q2 hq2) ⟨q_CN hts hK.2 qu_541 qw_1 qw_534 qh_Qs_setOf rfl rfl ⟨by decide, by decide⟩, hts _ qw_533, trivial⟩ (q_preS [.int q1] hK hPc hDc) rfl rfl hl.1 rfl (lv_room (Nat.le_of_ble_eq_true rfl)) qd_Mem_closure_42 ⟨Nat.zero_le _, Nat.zero_le _⟩) hS (fun q _ h => hFc q h) hFc (fun r u t H1 locs ht hvm hw hB hz1 hk1 hS => ?_)
              have hw : q2 = r := Eq.symm hw
              subst hw
              obtain ⟨hP1, hD1⟩ := hB
              rw [ht] at hP1
              obtain ⟨hP, hD⟩ := va_join (wr := [(h0, .inr (2, [.int (s0 0 0), .ref (d0 1), .ref (d0 2)])), (d0 1, .inl (cI, (s0 0 0).toNatClampNeg, .inl (s0 1))), (d0 2, .inl (cI, (3 * s0 0 0).toNatClampNeg, .inl (s0 2)))]) (w1 := []) hP hD [] [0, 1, 2] rfl rfl (by decide) (by decide) hk1 hFc hP1 hD1
              have hP := hP.sub (ws' := [(h0, .inr (2, [.int (s0 0 0), .ref (d0 1), .ref (d0 2)])), (d0 1, .inl (cI, (s0 0 0).toNatClampNeg, .inl (s0 1))), (d0 2, .inl (cI, (3 * s0 0 0).toNatClampNeg, .inl (s0 2)))]) [0, 1, 2] rfl
              have hD := hD.sub (ws' := [(h0, .inr (2, [.int (s0 0 0), .ref (d0 1), .ref (d0 2)])), (d0 1, .inl (cI, (s0 0 0).toNatClampNeg, .inl (s0 1))), (d0 2, .inl (cI, (3 * s0 0 0).toNatClampNeg, .inl (s0 2)))]) [0, 1, 2] (by decide) rfl
              refine lv_aload_n hx hb qd_Mem_closure_45 rfl (lv_at hl 0 rfl) ?_
              refine lv_iload hx hb qd_Mem_closure_46 (lv_at hl 3 rfl) ?_
              refine lv_iconst (v := 1) hx hb qd_Mem_closure_48 rfl ?_
              obtain ⟨q3, hq3, h⟩ := qq_b h
              have hPc := hP.sub (ws' := [(h0, .inr (2, [.int (s0 0 0), .ref (d0 1), .ref (d0 2)])), (d0 1, .inl (cI, (s0 0 0).toNatClampNeg, .inl (s0 1))), (d0 2, .inl (cI, (3 * s0 0 0).toNatClampNeg, .inl (s0 2)))]) [0, 1, 2] rfl
              have hDc := hD.sub (ws' := [(h0, .inr (2, [.int (s0 0 0), .ref (d0 1), .ref (d0 2)])), (d0 1, .inl (cI, (s0 0 0).toNatClampNeg, .inl (s0 1))), (d0 2, .inl (cI, (3 * s0 0 0).toNatClampNeg, .inl (s0 2)))]) [0, 1, 2] (by decide) rfl
              have hFc := va_free (wc := [(h0, .inr (2, [.int (s0 0 0), .ref (d0 1), .ref (d0 2)])), (d0 1, .inl (cI, (s0 0 0).toNatClampNeg, .inl (s0 1))), (d0 2, .inl (cI, (3 * s0 0 0).toNatClampNeg, .inl (s0 2)))]) hD hS hA [0, 1, 2] rfl
              refine va_calli (va_runV (As := [.int x4, .int 1]) (rest := [.int q2, .int x2]) ⟨hx, hb, hml, hown, hts⟩ (qm_Mem_read l dC dI cI cC cB cM h0 d0 s0 x4 1 _ q3 hq3) (q_CW hts qw_540 qw_345 qw_346 qw_3 qw_347 qh_Mem_read rfl rfl ⟨by decide, by decide⟩) (q_preV [.int x4, .int 1] 0 rfl rfl hK hPc hDc) rfl rfl hl.1 rfl (lv_room (Nat.le_of_ble_eq_true rfl)) qd_Mem_closure_49 ⟨Nat.zero_le _, Nat.zero_le _⟩) hS (fun q _ h => hFc q h) hFc (fun r u t H1 locs ht hvm hw hB hz1 hk1 hS => ?_)
              have hw : q3 = r := Eq.symm hw
              subst hw
              obtain ⟨hP1, hD1⟩ := hB
              rw [ht] at hP1
              obtain ⟨hP, hD⟩ := va_join (wr := []) (w1 := [(h0, .inr (2, [.int (s0 0 0), .ref (d0 1), .ref (d0 2)])), (d0 1, .inl (cI, (s0 0 0).toNatClampNeg, .inl (s0 1))), (d0 2, .inl (cI, (3 * s0 0 0).toNatClampNeg, .inl (s0 2)))]) hP hD [0, 1, 2] [] rfl rfl (by decide) (by decide) hk1 hFc hP1 hD1
              have hP := hP.sub (ws' := [(h0, .inr (2, [.int (s0 0 0), .ref (d0 1), .ref (d0 2)])), (d0 1, .inl (cI, (s0 0 0).toNatClampNeg, .inl (s0 1))), (d0 2, .inl (cI, (3 * s0 0 0).toNatClampNeg, .inl (s0 2)))]) [0, 1, 2] rfl
              have hD := hD.sub (ws' := [(h0, .inr (2, [.int (s0 0 0), .ref (d0 1), .ref (d0 2)])), (d0 1, .inl (cI, (s0 0 0).toNatClampNeg, .inl (s0 1))), (d0 2, .inl (cI, (3 * s0 0 0).toNatClampNeg, .inl (s0 2)))]) [0, 1, 2] (by decide) rfl
              obtain ⟨q4, hq4, h⟩ := qq_b h
              have hPc := hP.sub (ws' := []) [] rfl
              have hDc := hD.sub (ws' := []) [] (by decide) rfl
              have hFc := va_free (wc := []) hD hS hA [] rfl
              refine va_calli (va_runSN (As := [.int q3]) (rest := [.int q2, .int x2]) ⟨hx, hb, hml, hown, hts⟩ (qm_Qs_setOf l dC dI cI cC cB cM q3 _ q4 hq4) ⟨q_CN hts hK.2 qu_541 qw_1 qw_534 qh_Qs_setOf rfl rfl ⟨by decide, by decide⟩, hts _ qw_533, trivial⟩ (q_preS [.int q3] hK hPc hDc) rfl rfl hl.1 rfl (lv_room (Nat.le_of_ble_eq_true rfl)) qd_Mem_closure_52 ⟨Nat.zero_le _, Nat.zero_le _⟩) hS (fun q _ h => hFc q h) hFc (fun r u t H1 locs ht hvm hw hB hz1 hk1 hS => ?_)
              have hw : q4 = r := Eq.symm hw
              subst hw
              obtain ⟨hP1, hD1⟩ := hB
              rw [ht] at hP1
              obtain ⟨hP, hD⟩ := va_join (wr := [(h0, .inr (2, [.int (s0 0 0), .ref (d0 1), .ref (d0 2)])), (d0 1, .inl (cI, (s0 0 0).toNatClampNeg, .inl (s0 1))), (d0 2, .inl (cI, (3 * s0 0 0).toNatClampNeg, .inl (s0 2)))]) (w1 := []) hP hD [] [0, 1, 2] rfl rfl (by decide) (by decide) hk1 hFc hP1 hD1
              have hP := hP.sub (ws' := [(h0, .inr (2, [.int (s0 0 0), .ref (d0 1), .ref (d0 2)])), (d0 1, .inl (cI, (s0 0 0).toNatClampNeg, .inl (s0 1))), (d0 2, .inl (cI, (3 * s0 0 0).toNatClampNeg, .inl (s0 2)))]) [0, 1, 2] rfl
              have hD := hD.sub (ws' := [(h0, .inr (2, [.int (s0 0 0), .ref (d0 1), .ref (d0 2)])), (d0 1, .inl (cI, (s0 0 0).toNatClampNeg, .inl (s0 1))), (d0 2, .inl (cI, (3 * s0 0 0).toNatClampNeg, .inl (s0 2)))]) [0, 1, 2] (by decide) rfl
              refine lv_ior hx hb qd_Mem_closure_55 ?_
              refine lv_ior hx hb qd_Mem_closure_56 ?_
              refine lv_istore_n (lv' := [(2, .int (x2 ||| (q2 ||| q4))), (0, .ref h0), (3, .int x3), (4, .int x4)]) hx hb qd_Mem_closure_57 rfl hl (by decide) rfl (fun ls hl => ?_)
              refine lv_iinc (k := 3) (v := (x4 + 1)) (lv' := [(4, .int (x4 + 1)), (2, .int (x2 ||| (q2 ||| q4))), (0, .ref h0), (3, .int x3)]) hx hb qd_Mem_closure_58 hl rfl (congrArg (fun z : Int32 => x4 + z) (show Int32.ofInt 1 = 1 by decide)) (by decide) rfl (fun ls hl => ?_)
              refine lv_goto hx hb qd_Mem_closure_61 (tgt := 15) (by decide) ?_
              exact ih15 (x2 ||| (q2 ||| q4)) x3 (x4 + 1) s0 _ _ _ (lv_sub (l' := [(0, .ref h0), (2, .int (x2 ||| (q2 ||| q4))), (3, .int x3), (4, .int (x4 + 1))]) hl [2, 1, 3, 0] rfl) hP hD hS h
      unfold qf_Mem_closure_B4 at h
      refine lv_iload_n hx hb qd_Mem_closure_4 rfl (lv_at hl 2 rfl) ?_
      refine lv_aload_n hx hb qd_Mem_closure_5 rfl (lv_at hl 0 rfl) ?_
      refine va_get (D := (dC, dI)) (ci := 2) (v := .int (s0 0 0)) (C := "QuietSweep$Memory") (T := qT_Mem) (N := 3) hx hb hts qi_Mem hown hK.1 hP 0 rfl rfl 0 (by decide) (hts _ qw_67) (fun _ h9 => h9) rfl qd_Mem_closure_6 ?_
      refine lv_icmp_ge hx hb qd_Mem_closure_9 (tgt := 70) (by decide) (fun hc => ?_) (fun hc => ?_)
      · have h := qq_t hc h
        refine lv_iload_n hx hb qd_Mem_closure_70 rfl (lv_at hl 1 rfl) ?_
        obtain rfl := Option.some.inj h
        exact W.iret (v := x2) hx hb hr (fun t ht hW => ⟨⟨x2, (), rfl, rfl, by rw [ht]; exact hP, hD⟩, hS.F ht⟩) hS.2.2 qd_Mem_closure_71
      · have h := qq_f hc h
        refine lv_iconst (v := 0) hx hb qd_Mem_closure_12 rfl ?_
        refine lv_istore (lv' := [(4, .int 0), (0, .ref h0), (2, .int x2), (3, .int x3)]) hx hb qd_Mem_closure_13 hl (by decide) rfl (fun ls hl => ?_)
        exact L15 qN x2 x3 0 s0 _ _ _ (lv_sub (l' := [(0, .ref h0), (2, .int x2), (3, .int x3), (4, .int 0)]) hl [1, 2, 3, 0] rfl) hP hD hS h
  unfold qf_Mem_closure at h
  refine lv_iload_n hx hb qd_Mem_closure_0 rfl (lv_at hl 1 rfl) ?_
  refine lv_istore_n (lv' := [(2, .int a1), (0, .ref h0), (1, .int a1)]) hx hb qd_Mem_closure_1 rfl hl (by decide) rfl (fun ls hl => ?_)
  refine lv_iconst (v := 0) hx hb qd_Mem_closure_2 rfl ?_
  refine lv_istore_n (lv' := [(3, .int 0), (2, .int a1), (0, .ref h0), (1, .int a1)]) hx hb qd_Mem_closure_3 rfl hl (by decide) rfl (fun ls hl => ?_)
  exact L4 qN a1 0 s0 _ _ _ (lv_sub (l' := [(0, .ref h0), (2, .int a1), (3, .int 0)]) hl [2, 1, 0] rfl) hP hD hS h
