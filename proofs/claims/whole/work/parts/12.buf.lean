/-! QuietSweep$Buffer.isFull()Z -/
def qf_Buf_isFull  (s0 : QS) : Option (Int32) := (if (s0 3 0) < 3 then (some 0) else (some 1))
set_option maxHeartbeats 4000000 in
set_option maxRecDepth 100000 in
theorem qm_Buf_isFull (l : Launch) (dC : Nat → ClassId) (dI : Nat → Nat → Nat) (cI cC cB cM : ClassId) (h0 : Nat) (d0 : Nat → Nat) (s0 : QS)  (sz : Nat) (o : Int32) (h : qf_Buf_isFull s0 = some o) : Met l qy_Buf_isFull (ql_Buf_isFull :: qG) ({ frames := 0, cells := 0, slots := 0, locals := 0 } : Room) (qPc dC dI cI cC cB cM [.ref h0] sz [(h0, .inr (0, [.ref (d0 0), .ref (d0 1), .ref (d0 2), .int (s0 3 0)])), (d0 0, .inl (cI, 3, .inl (s0 0))), (d0 1, .inl (cI, 3, .inl (s0 1))), (d0 2, .inl (cI, 3, .inl (s0 2)))]) (va_Qi (fun r (_ : Unit) => r = o) (fun _ t => va_P (dC, dI) qCl [(h0, .inr (0, [.ref (d0 0), .ref (d0 1), .ref (d0 2), .int (s0 3 0)])), (d0 0, .inl (cI, 3, .inl (s0 0))), (d0 1, .inl (cI, 3, .inl (s0 1))), (d0 2, .inl (cI, 3, .inl (s0 2)))] t.heap ∧ va_D (va_A [(h0, .inr (0, [.ref (d0 0), .ref (d0 1), .ref (d0 2), .int (s0 3 0)])), (d0 0, .inl (cI, 3, .inl (s0 0))), (d0 1, .inl (cI, 3, .inl (s0 1))), (d0 2, .inl (cI, 3, .inl (s0 2)))] sz) [(h0, .inr (0, [.ref (d0 0), .ref (d0 1), .ref (d0 2), .int (s0 3 0)])), (d0 0, .inl (cI, 3, .inl (s0 0))), (d0 1, .inl (cI, 3, .inl (s0 1))), (d0 2, .inl (cI, 3, .inl (s0 2)))]) (va_A [(h0, .inr (0, [.ref (d0 0), .ref (d0 1), .ref (d0 2), .int (s0 3 0)])), (d0 0, .inl (cI, 3, .inl (s0 0))), (d0 1, .inl (cI, 3, .inl (s0 1))), (d0 2, .inl (cI, 3, .inl (s0 2)))] sz)) 0 0 (va_A [(h0, .inr (0, [.ref (d0 0), .ref (d0 1), .ref (d0 2), .int (s0 3 0)])), (d0 0, .inl (cI, 3, .inl (s0 0))), (d0 1, .inl (cI, 3, .inl (s0 1))), (d0 2, .inl (cI, 3, .inl (s0 2)))] sz) := by
  refine Met.ofW (cc := qc_Buf_isFull) (maxL := 1) (ret := (some .boolean)) (by decide) rfl ?_
  intro p e s m args below meth c s₁ B hml hv
  obtain ⟨rfl, hsz, hP, hK, hD0⟩ := hv
  have hx := B.exec
  have hb := B.bytes
  have hr := B.returns
  have hts0 := atoms_spec (ws := ql_Buf_isFull :: qG) B.pre
  have hts := fun (w : Cond) (hw : w ∈ qG) => hts0 w (List.mem_cons_of_mem _ hw)
  have hown : s.vm.findClass "QuietSweep$Buffer" = some m.cls := findClass_of_methodNamed B.named
  have hlocks := B.notSynchronized
  subst hsz
  have hD := hD0.self (sz := s.heap.size)
  generalize hAe : va_A [(h0, .inr (0, [.ref (d0 0), .ref (d0 1), .ref (d0 2), .int (s0 3 0)])), (d0 0, .inl (cI, 3, .inl (s0 0))), (d0 1, .inl (cI, 3, .inl (s0 1))), (d0 2, .inl (cI, 3, .inl (s0 2)))] s.heap.size = A at hD ⊢
  have hA : ∀ q : Nat, s.heap.size ≤ q → A q := fun q h => by rw [← hAe]; exact Or.inr h
  have hS : va_S A s.heap s.heap [] := va_S.rf
  have hl := lv_entry ([.ref h0]) (n := 1) (Nat.le_of_ble_eq_true rfl)
  rw [lg_entry_eq]
  generalize (lg_sl ([.ref h0]) ++ List.replicate (1 - (lg_sl ([.ref h0])).length) Slot.unset).toArray = ls at hl ⊢
  have hl : lv_has ls 1 [(0, .ref h0)] := hl
  unfold qf_Buf_isFull at h
  refine lv_aload_n hx hb qd_Buf_isFull_0 rfl (lv_at hl 0 rfl) ?_
  refine va_get (D := (dC, dI)) (ci := 0) (v := .int (s0 3 0)) (C := "QuietSweep$Buffer") (T := qT_Buf) (N := 4) hx hb hts qi_Buf hown hK.1 hP 0 rfl rfl 3 (by decide) (hts _ qw_96) (fun _ h9 => h9) rfl qd_Buf_isFull_1 ?_
  refine lv_iconst (v := 3) hx hb qd_Buf_isFull_4 rfl ?_
  refine lv_icmp_lt hx hb qd_Buf_isFull_5 (tgt := 12) (by decide) (fun hc => ?_) (fun hc => ?_)
  · have h := qq_t hc h
    refine lv_iconst (v := 0) hx hb qd_Buf_isFull_12 rfl ?_
    obtain rfl := Option.some.inj h
    exact W.zret (v := 0) hx hb hr rfl (fun t ht hW => ⟨⟨0, (), rfl, rfl, by rw [ht]; exact hP, hD⟩, hS.F ht⟩) hS.2.2 qd_Buf_isFull_13
  · have h := qq_f hc h
    refine lv_iconst (v := 1) hx hb qd_Buf_isFull_8 rfl ?_
    refine lv_goto hx hb qd_Buf_isFull_9 (tgt := 13) (by decide) ?_
    obtain rfl := Option.some.inj h
    exact W.zret (v := 1) hx hb hr rfl (fun t ht hW => ⟨⟨1, (), rfl, rfl, by rw [ht]; exact hP, hD⟩, hS.F ht⟩) hS.2.2 qd_Buf_isFull_13
/-! QuietSweep$Buffer.add(III)V -/
def qf_Buf_add (a1 : Int32) (a2 : Int32) (a3 : Int32) (s0 : QS) : Option (QS) := (if ((s0 3 0) < 0 ∨ 3 ≤ Int32.toNatClampNeg (s0 3 0)) then none else (if ((s0 3 0) < 0 ∨ 3 ≤ Int32.toNatClampNeg (s0 3 0)) then none else (if ((s0 3 0) < 0 ∨ 3 ≤ Int32.toNatClampNeg (s0 3 0)) then none else (some (qp (qp (qp (qp s0 3 (fun _ => ((s0 3 0) + 1))) 0 (upd (s0 0) (Int32.toNatClampNeg (s0 3 0)) a1)) 1 (upd (s0 1) (Int32.toNatClampNeg (s0 3 0)) a2)) 2 (upd (s0 2) (Int32.toNatClampNeg (s0 3 0)) a3))))))
set_option maxHeartbeats 4000000 in
set_option maxRecDepth 100000 in
theorem qm_Buf_add (l : Launch) (dC : Nat → ClassId) (dI : Nat → Nat → Nat) (cI cC cB cM : ClassId) (h0 : Nat) (d0 : Nat → Nat) (s0 : QS) (a1 : Int32) (a2 : Int32) (a3 : Int32) (sz : Nat) (o : QS) (h : qf_Buf_add a1 a2 a3 s0 = some o) : Met l qy_Buf_add (ql_Buf_add :: qG) ({ frames := 0, cells := 0, slots := 0, locals := 0 } : Room) (qPc dC dI cI cC cB cM [.ref h0, .int a1, .int a2, .int a3] sz [(h0, .inr (0, [.ref (d0 0), .ref (d0 1), .ref (d0 2), .int (s0 3 0)])), (d0 0, .inl (cI, 3, .inl (s0 0))), (d0 1, .inl (cI, 3, .inl (s0 1))), (d0 2, .inl (cI, 3, .inl (s0 2)))]) (va_Qv (fun _ : Unit => True) (fun _ t => va_P (dC, dI) qCl [(h0, .inr (0, [.ref (d0 0), .ref (d0 1), .ref (d0 2), .int (o 3 0)])), (d0 0, .inl (cI, 3, .inl (o 0))), (d0 1, .inl (cI, 3, .inl (o 1))), (d0 2, .inl (cI, 3, .inl (o 2)))] t.heap ∧ va_D (va_A [(h0, .inr (0, [.ref (d0 0), .ref (d0 1), .ref (d0 2), .int (s0 3 0)])), (d0 0, .inl (cI, 3, .inl (s0 0))), (d0 1, .inl (cI, 3, .inl (s0 1))), (d0 2, .inl (cI, 3, .inl (s0 2)))] sz) [(h0, .inr (0, [.ref (d0 0), .ref (d0 1), .ref (d0 2), .int (o 3 0)])), (d0 0, .inl (cI, 3, .inl (o 0))), (d0 1, .inl (cI, 3, .inl (o 1))), (d0 2, .inl (cI, 3, .inl (o 2)))]) (va_A [(h0, .inr (0, [.ref (d0 0), .ref (d0 1), .ref (d0 2), .int (s0 3 0)])), (d0 0, .inl (cI, 3, .inl (s0 0))), (d0 1, .inl (cI, 3, .inl (s0 1))), (d0 2, .inl (cI, 3, .inl (s0 2)))] sz)) 0 0 (va_A [(h0, .inr (0, [.ref (d0 0), .ref (d0 1), .ref (d0 2), .int (s0 3 0)])), (d0 0, .inl (cI, 3, .inl (s0 0))), (d0 1, .inl (cI, 3, .inl (s0 1))), (d0 2, .inl (cI, 3, .inl (s0 2)))] sz) := by
  refine Met.ofW (cc := qc_Buf_add) (maxL := 4) (ret := none) (by decide) rfl ?_
  intro p e s m args below meth c s₁ B hml hv
  obtain ⟨rfl, hsz, hP, hK, hD0⟩ := hv
  have hx := B.exec
  have hb := B.bytes
  have hr := B.returns
  have hts0 := atoms_spec (ws := ql_Buf_add :: qG) B.pre
  have hts := fun (w : Cond) (hw : w ∈ qG) => hts0 w (List.mem_cons_of_mem _ hw)
  have hown : s.vm.findClass "QuietSweep$Buffer" = some m.cls := findClass_of_methodNamed B.named
  have hlocks := B.notSynchronized
  subst hsz
  have hD := hD0.self (sz := s.heap.size)
  generalize hAe : va_A [(h0, .inr (0, [.ref (d0 0), .ref (d0 1), .ref (d0 2), .int (s0 3 0)])), (d0 0, .inl (cI, 3, .inl (s0 0))), (d0 1, .inl (cI, 3, .inl (s0 1))), (d0 2, .inl (cI, 3, .inl (s0 2)))] s.heap.size = A at hD ⊢
  have hA : ∀ q : Nat, s.heap.size ≤ q → A q := fun q h => by rw [← hAe]; exact Or.inr h
  have hS : va_S A s.heap s.heap [] := va_S.rf
  have hl := lv_entry ([.ref h0, .int a1, .int a2, .int a3]) (n := 4) (Nat.le_of_ble_eq_true rfl)
  rw [lg_entry_eq]
  generalize (lg_sl ([.ref h0, .int a1, .int a2, .int a3]) ++ List.replicate (4 - (lg_sl ([.ref h0, .int a1, .int a2, .int a3])).length) Slot.unset).toArray = ls at hl ⊢
  have hl : lv_has ls 4 [(0, .ref h0), (1, .int a1), (2, .int a2), (3, .int a3)] := hl
  unfold qf_Buf_add at h
  refine lv_aload_n hx hb qd_Buf_add_0 rfl (lv_at hl 0 rfl) ?_
  refine va_get (D := (dC, dI)) (ci := 0) (v := .ref (d0 0)) (C := "QuietSweep$Buffer") (T := qT_Buf) (N := 4) hx hb hts qi_Buf hown hK.1 hP 0 rfl rfl 0 (by decide) (hts _ qw_93) (fun _ h9 => h9) rfl qd_Buf_add_1 ?_
  refine lv_aload_n hx hb qd_Buf_add_4 rfl (lv_at hl 0 rfl) ?_
  refine va_get (D := (dC, dI)) (ci := 0) (v := .int (s0 3 0)) (C := "QuietSweep$Buffer") (T := qT_Buf) (N := 4) hx hb hts qi_Buf hown hK.1 hP 0 rfl rfl 3 (by decide) (hts _ qw_96) (fun _ h9 => h9) rfl qd_Buf_add_5 ?_
  refine lv_iload_n hx hb qd_Buf_add_8 rfl (lv_at hl 1 rfl) ?_
  obtain ⟨hb1, h⟩ := qq_n h
  refine va_iast hx hb hK.1 hP hD hS 1 0 rfl rfl hb1 qd_Buf_add_9 (fun H locs hP hD hS => ?_)
  have hP : va_P (dC, dI) qCl [(h0, .inr (0, [.ref (d0 0), .ref (d0 1), .ref (d0 2), .int (s0 3 0)])), (d0 0, .inl (cI, 3, .inl (upd (s0 0) (Int32.toNatClampNeg (s0 3 0)) a1))), (d0 1, .inl (cI, 3, .inl (s0 1))), (d0 2, .inl (cI, 3, .inl (s0 2)))] _ := hP
  have hD : va_D A [(h0, .inr (0, [.ref (d0 0), .ref (d0 1), .ref (d0 2), .int (s0 3 0)])), (d0 0, .inl (cI, 3, .inl (upd (s0 0) (Int32.toNatClampNeg (s0 3 0)) a1))), (d0 1, .inl (cI, 3, .inl (s0 1))), (d0 2, .inl (cI, 3, .inl (s0 2)))] := hD
  refine lv_aload_n hx hb qd_Buf_add_10 rfl (lv_at hl 0 rfl) ?_
  refine va_get (D := (dC, dI)) (ci := 0) (v := .ref (d0 1)) (C := "QuietSweep$Buffer") (T := qT_Buf) (N := 4) hx hb hts qi_Buf hown hK.1 hP 0 rfl rfl 1 (by decide) (hts _ qw_94) (fun _ h9 => h9) rfl qd_Buf_add_11 ?_
  refine lv_aload_n hx hb qd_Buf_add_14 rfl (lv_at hl 0 rfl) ?_
  refine va_get (D := (dC, dI)) (ci := 0) (v := .int (s0 3 0)) (C := "QuietSweep$Buffer") (T := qT_Buf) (N := 4) hx hb hts qi_Buf hown hK.1 hP 0 rfl rfl 3 (by decide) (hts _ qw_96) (fun _ h9 => h9) rfl qd_Buf_add_15 ?_
  refine lv_iload_n hx hb qd_Buf_add_18 rfl (lv_at hl 2 rfl) ?_
  obtain ⟨hb2, h⟩ := qq_n h
  refine va_iast hx hb hK.1 hP hD hS 2 0 rfl rfl hb2 qd_Buf_add_19 (fun H locs hP hD hS => ?_)
  have hP : va_P (dC, dI) qCl [(h0, .inr (0, [.ref (d0 0), .ref (d0 1), .ref (d0 2), .int (s0 3 0)])), (d0 0, .inl (cI, 3, .inl (upd (s0 0) (Int32.toNatClampNeg (s0 3 0)) a1))), (d0 1, .inl (cI, 3, .inl (upd (s0 1) (Int32.toNatClampNeg (s0 3 0)) a2))), (d0 2, .inl (cI, 3, .inl (s0 2)))] _ := hP
  have hD : va_D A [(h0, .inr (0, [.ref (d0 0), .ref (d0 1), .ref (d0 2), .int (s0 3 0)])), (d0 0, .inl (cI, 3, .inl (upd (s0 0) (Int32.toNatClampNeg (s0 3 0)) a1))), (d0 1, .inl (cI, 3, .inl (upd (s0 1) (Int32.toNatClampNeg (s0 3 0)) a2))), (d0 2, .inl (cI, 3, .inl (s0 2)))] := hD
  refine lv_aload_n hx hb qd_Buf_add_20 rfl (lv_at hl 0 rfl) ?_
  refine va_get (D := (dC, dI)) (ci := 0) (v := .ref (d0 2)) (C := "QuietSweep$Buffer") (T := qT_Buf) (N := 4) hx hb hts qi_Buf hown hK.1 hP 0 rfl rfl 2 (by decide) (hts _ qw_95) (fun _ h9 => h9) rfl qd_Buf_add_21 ?_
  refine lv_aload_n hx hb qd_Buf_add_24 rfl (lv_at hl 0 rfl) ?_
  refine va_get (D := (dC, dI)) (ci := 0) (v := .int (s0 3 0)) (C := "QuietSweep$Buffer") (T := qT_Buf) (N := 4) hx hb hts qi_Buf hown hK.1 hP 0 rfl rfl 3 (by decide) (hts _ qw_96) (fun _ h9 => h9) rfl qd_Buf_add_25 ?_
  refine lv_iload_n hx hb qd_Buf_add_28 rfl (lv_at hl 3 rfl) ?_
  obtain ⟨hb3, h⟩ := qq_n h
  refine va_iast hx hb hK.1 hP hD hS 3 0 rfl rfl hb3 qd_Buf_add_29 (fun H locs hP hD hS => ?_)
  have hP : va_P (dC, dI) qCl [(h0, .inr (0, [.ref (d0 0), .ref (d0 1), .ref (d0 2), .int (s0 3 0)])), (d0 0, .inl (cI, 3, .inl (upd (s0 0) (Int32.toNatClampNeg (s0 3 0)) a1))), (d0 1, .inl (cI, 3, .inl (upd (s0 1) (Int32.toNatClampNeg (s0 3 0)) a2))), (d0 2, .inl (cI, 3, .inl (upd (s0 2) (Int32.toNatClampNeg (s0 3 0)) a3)))] _ := hP
  have hD : va_D A [(h0, .inr (0, [.ref (d0 0), .ref (d0 1), .ref (d0 2), .int (s0 3 0)])), (d0 0, .inl (cI, 3, .inl (upd (s0 0) (Int32.toNatClampNeg (s0 3 0)) a1))), (d0 1, .inl (cI, 3, .inl (upd (s0 1) (Int32.toNatClampNeg (s0 3 0)) a2))), (d0 2, .inl (cI, 3, .inl (upd (s0 2) (Int32.toNatClampNeg (s0 3 0)) a3)))] := hD
  refine lv_aload_n hx hb qd_Buf_add_30 rfl (lv_at hl 0 rfl) ?_
  refine lv_dup hx hb qd_Buf_add_31 rfl ?_
  refine va_get (D := (dC, dI)) (ci := 0) (v := .int (s0 3 0)) (C := "QuietSweep$Buffer") (T := qT_Buf) (N := 4) hx hb hts qi_Buf hown hK.1 hP 0 rfl rfl 3 (by decide) (hts _ qw_96) (fun _ h9 => h9) rfl qd_Buf_add_32 ?_
  refine lv_iconst (v := 1) hx hb qd_Buf_add_35 rfl ?_
  refine lv_iadd hx hb qd_Buf_add_36 ?_
  refine va_put (D := (dC, dI)) (ci := 0) (v := .int ((s0 3 0) + 1)) (ty := .int) (C := "QuietSweep$Buffer") (T := qT_Buf) (N := 4) hx hb hts qi_Buf qt_Buf qo_Buf qn_Buf hown hK.1 hP hD hS 0 rfl rfl 3 (by decide) (hts _ qw_96) (fun _ h9 => h9) rfl (qo_Buf 3 (by decide)) rfl rfl (Nat.le_of_ble_eq_true rfl) qd_Buf_add_37 (fun H locs hP hD hS => ?_)
  have hP : va_P (dC, dI) qCl [(h0, .inr (0, [.ref (d0 0), .ref (d0 1), .ref (d0 2), .int ((s0 3 0) + 1)])), (d0 0, .inl (cI, 3, .inl (upd (s0 0) (Int32.toNatClampNeg (s0 3 0)) a1))), (d0 1, .inl (cI, 3, .inl (upd (s0 1) (Int32.toNatClampNeg (s0 3 0)) a2))), (d0 2, .inl (cI, 3, .inl (upd (s0 2) (Int32.toNatClampNeg (s0 3 0)) a3)))] _ := hP
  have hD : va_D A [(h0, .inr (0, [.ref (d0 0), .ref (d0 1), .ref (d0 2), .int ((s0 3 0) + 1)])), (d0 0, .inl (cI, 3, .inl (upd (s0 0) (Int32.toNatClampNeg (s0 3 0)) a1))), (d0 1, .inl (cI, 3, .inl (upd (s0 1) (Int32.toNatClampNeg (s0 3 0)) a2))), (d0 2, .inl (cI, 3, .inl (upd (s0 2) (Int32.toNatClampNeg (s0 3 0)) a3)))] := hD
  obtain rfl := Option.some.inj h
  exact W.vret hx hb hr (fun t ht hW => ⟨⟨(), rfl, trivial, by rw [ht]; exact hP, hD⟩, hS.F ht⟩) hS.2.2 qd_Buf_add_40
/-! QuietSweep$Buffer.look(LQuietSweep$Memory;II)I -/
def qf_Buf_look_B8 (k8 : (Int32 × Int32 × Int32 × QS × QS) → Option (Int32)) (x2 : Int32) (x3 : Int32) (x4 : Int32) (s0 : QS) (s1 : QS) : Option (Int32) := (if x4 < 0 then ((qf_Mem_read x2 x3 s1).bind fun q1 => (some q1)) else (if (x4 < 0 ∨ 3 ≤ Int32.toNatClampNeg x4) then none else (if ((s0 0) (Int32.toNatClampNeg x4)) = x2 then (if (x4 < 0 ∨ 3 ≤ Int32.toNatClampNeg x4) then none else (if ((s0 1) (Int32.toNatClampNeg x4)) = x3 then (if (x4 < 0 ∨ 3 ≤ Int32.toNatClampNeg x4) then none else (some ((s0 2) (Int32.toNatClampNeg x4)))) else (k8 (x2, x3, (x4 + (-1)), s0, s1)))) else (k8 (x2, x3, (x4 + (-1)), s0, s1)))))
def qf_Buf_look_F8 (k8 : (Int32 × Int32 × Int32 × QS × QS) → Option (Int32)) (a : Int32 × Int32 × Int32 × QS × QS) : Option (Int32) := qf_Buf_look_B8 k8 a.1 a.2.1 a.2.2.1 a.2.2.2.1 a.2.2.2.2
def qf_Buf_look (a2 : Int32) (a3 : Int32) (s0 : QS) (s1 : QS) : Option (Int32) := (qfix (qf_Buf_look_F8) qN (a2, a3, ((s0 3 0) - 1), s0, s1))
set_option maxHeartbeats 4000000 in
set_option maxRecDepth 100000 in
theorem qm_Buf_look (l : Launch) (dC : Nat → ClassId) (dI : Nat → Nat → Nat) (cI cC cB cM : ClassId) (h0 : Nat) (h1 : Nat) (d0 : Nat → Nat) (d1 : Nat → Nat) (s0 : QS) (s1 : QS) (a2 : Int32) (a3 : Int32) (sz : Nat) (o : Int32) (h : qf_Buf_look a2 a3 s0 s1 = some o) : Met l qy_Buf_look (ql_Buf_look :: qG) ({ frames := 1, cells := 0, slots := 0, locals := 22 } : Room) (qPc dC dI cI cC cB cM [.ref h0, .ref h1, .int a2, .int a3] sz [(h0, .inr (0, [.ref (d0 0), .ref (d0 1), .ref (d0 2), .int (s0 3 0)])), (d0 0, .inl (cI, 3, .inl (s0 0))), (d0 1, .inl (cI, 3, .inl (s0 1))), (d0 2, .inl (cI, 3, .inl (s0 2))), (h1, .inr (2, [.int (s1 0 0), .ref (d1 1), .ref (d1 2)])), (d1 1, .inl (cI, (s1 0 0).toNatClampNeg, .inl (s1 1))), (d1 2, .inl (cI, (3 * s1 0 0).toNatClampNeg, .inl (s1 2)))]) (va_Qi (fun r (_ : Unit) => r = o) (fun _ t => va_P (dC, dI) qCl [(h0, .inr (0, [.ref (d0 0), .ref (d0 1), .ref (d0 2), .int (s0 3 0)])), (d0 0, .inl (cI, 3, .inl (s0 0))), (d0 1, .inl (cI, 3, .inl (s0 1))), (d0 2, .inl (cI, 3, .inl (s0 2))), (h1, .inr (2, [.int (s1 0 0), .ref (d1 1), .ref (d1 2)])), (d1 1, .inl (cI, (s1 0 0).toNatClampNeg, .inl (s1 1))), (d1 2, .inl (cI, (3 * s1 0 0).toNatClampNeg, .inl (s1 2)))] t.heap ∧ va_D (va_A [(h0, .inr (0, [.ref (d0 0), .ref (d0 1), .ref (d0 2), .int (s0 3 0)])), (d0 0, .inl (cI, 3, .inl (s0 0))), (d0 1, .inl (cI, 3, .inl (s0 1))), (d0 2, .inl (cI, 3, .inl (s0 2))), (h1, .inr (2, [.int (s1 0 0), .ref (d1 1), .ref (d1 2)])), (d1 1, .inl (cI, (s1 0 0).toNatClampNeg, .inl (s1 1))), (d1 2, .inl (cI, (3 * s1 0 0).toNatClampNeg, .inl (s1 2)))] sz) [(h0, .inr (0, [.ref (d0 0), .ref (d0 1), .ref (d0 2), .int (s0 3 0)])), (d0 0, .inl (cI, 3, .inl (s0 0))), (d0 1, .inl (cI, 3, .inl (s0 1))), (d0 2, .inl (cI, 3, .inl (s0 2))), (h1, .inr (2, [.int (s1 0 0), .ref (d1 1), .ref (d1 2)])), (d1 1, .inl (cI, (s1 0 0).toNatClampNeg, .inl (s1 1))), (d1 2, .inl (cI, (3 * s1 0 0).toNatClampNeg, .inl (s1 2)))]) (va_A [(h0, .inr (0, [.ref (d0 0), .ref (d0 1), .ref (d0 2), .int (s0 3 0)])), (d0 0, .inl (cI, 3, .inl (s0 0))), (d0 1, .inl (cI, 3, .inl (s0 1))), (d0 2, .inl (cI, 3, .inl (s0 2))), (h1, .inr (2, [.int (s1 0 0), .ref (d1 1), .ref (d1 2)])), (d1 1, .inl (cI, (s1 0 0).toNatClampNeg, .inl (s1 1))), (d1 2, .inl (cI, (3 * s1 0 0).toNatClampNeg, .inl (s1 2)))] sz)) 0 0 (va_A [(h0, .inr (0, [.ref (d0 0), .ref (d0 1), .ref (d0 2), .int (s0 3 0)])), (d0 0, .inl (cI, 3, .inl (s0 0))), (d0 1, .inl (cI, 3, .inl (s0 1))), (d0 2, .inl (cI, 3, .inl (s0 2))), (h1, .inr (2, [.int (s1 0 0), .ref (d1 1), .ref (d1 2)])), (d1 1, .inl (cI, (s1 0 0).toNatClampNeg, .inl (s1 1))), (d1 2, .inl (cI, (3 * s1 0 0).toNatClampNeg, .inl (s1 2)))] sz) := by
  refine Met.ofW (cc := qc_Buf_look) (maxL := 5) (ret := (some .int)) (by decide) rfl ?_
  intro p e s m args below meth c s₁ B hml hv
  obtain ⟨rfl, hsz, hP, hK, hD0⟩ := hv
  have hx := B.exec
  have hb := B.bytes
  have hr := B.returns
  have hts0 := atoms_spec (ws := ql_Buf_look :: qG) B.pre
  have hts := fun (w : Cond) (hw : w ∈ qG) => hts0 w (List.mem_cons_of_mem _ hw)
  have hown : s.vm.findClass "QuietSweep$Buffer" = some m.cls := findClass_of_methodNamed B.named
  have hlocks := B.notSynchronized
  subst hsz
  have hD := hD0.self (sz := s.heap.size)
  generalize hAe : va_A [(h0, .inr (0, [.ref (d0 0), .ref (d0 1), .ref (d0 2), .int (s0 3 0)])), (d0 0, .inl (cI, 3, .inl (s0 0))), (d0 1, .inl (cI, 3, .inl (s0 1))), (d0 2, .inl (cI, 3, .inl (s0 2))), (h1, .inr (2, [.int (s1 0 0), .ref (d1 1), .ref (d1 2)])), (d1 1, .inl (cI, (s1 0 0).toNatClampNeg, .inl (s1 1))), (d1 2, .inl (cI, (3 * s1 0 0).toNatClampNeg, .inl (s1 2)))] s.heap.size = A at hD ⊢
  have hA : ∀ q : Nat, s.heap.size ≤ q → A q := fun q h => by rw [← hAe]; exact Or.inr h
  have hS : va_S A s.heap s.heap [] := va_S.rf
  have hl := lv_entry ([.ref h0, .ref h1, .int a2, .int a3]) (n := 5) (Nat.le_of_ble_eq_true rfl)
  rw [lg_entry_eq]
  generalize (lg_sl ([.ref h0, .ref h1, .int a2, .int a3]) ++ List.replicate (5 - (lg_sl ([.ref h0, .ref h1, .int a2, .int a3])).length) Slot.unset).toArray = ls at hl ⊢
  have hl : lv_has ls 5 [(0, .ref h0), (1, .ref h1), (2, .int a2), (3, .int a3)] := hl
  have L8 : ∀ (n : Nat) (x2 : Int32) (x3 : Int32) (x4 : Int32) (s0 : QS) (s1 : QS) (H : Heap) (locs : List Loc) (ls : Array Slot), lv_has ls 5 [(0, .ref h0), (1, .ref h1), (2, .int x2), (3, .int x3), (4, .int x4)] → va_P (dC, dI) qCl [(h0, .inr (0, [.ref (d0 0), .ref (d0 1), .ref (d0 2), .int (s0 3 0)])), (d0 0, .inl (cI, 3, .inl (s0 0))), (d0 1, .inl (cI, 3, .inl (s0 1))), (d0 2, .inl (cI, 3, .inl (s0 2))), (h1, .inr (2, [.int (s1 0 0), .ref (d1 1), .ref (d1 2)])), (d1 1, .inl (cI, (s1 0 0).toNatClampNeg, .inl (s1 1))), (d1 2, .inl (cI, (3 * s1 0 0).toNatClampNeg, .inl (s1 2)))] H → va_D A [(h0, .inr (0, [.ref (d0 0), .ref (d0 1), .ref (d0 2), .int (s0 3 0)])), (d0 0, .inl (cI, 3, .inl (s0 0))), (d0 1, .inl (cI, 3, .inl (s0 1))), (d0 2, .inl (cI, 3, .inl (s0 2))), (h1, .inr (2, [.int (s1 0 0), .ref (d1 1), .ref (d1 2)])), (d1 1, .inl (cI, (s1 0 0).toNatClampNeg, .inl (s1 1))), (d1 2, .inl (cI, (3 * s1 0 0).toNatClampNeg, .inl (s1 2)))] → va_S A s.heap H locs → qfix (qf_Buf_look_F8) n (x2, x3, x4, s0, s1) = some o → W p l e (headSpec (ql_Buf_look :: qG) ({ frames := 1, cells := 0, slots := 0, locals := 22 } : Room)).room s m ([.ref h0, .ref h1, .int a2, .int a3] : List Value).toArray below meth c H locs 0 0 (MQ below (va_Qi (fun r (_ : Unit) => r = o) (fun _ t => va_P (dC, dI) qCl [(h0, .inr (0, [.ref (d0 0), .ref (d0 1), .ref (d0 2), .int (s0 3 0)])), (d0 0, .inl (cI, 3, .inl (s0 0))), (d0 1, .inl (cI, 3, .inl (s0 1))), (d0 2, .inl (cI, 3, .inl (s0 2))), (h1, .inr (2, [.int (s1 0 0), .ref (d1 1), .ref (d1 2)])), (d1 1, .inl (cI, (s1 0 0).toNatClampNeg, .inl (s1 1))), (d1 2, .inl (cI, (3 * s1 0 0).toNatClampNeg, .inl (s1 2)))] t.heap ∧ va_D A [(h0, .inr (0, [.ref (d0 0), .ref (d0 1), .ref (d0 2), .int (s0 3 0)])), (d0 0, .inl (cI, 3, .inl (s0 0))), (d0 1, .inl (cI, 3, .inl (s0 1))), (d0 2, .inl (cI, 3, .inl (s0 2))), (h1, .inr (2, [.int (s1 0 0), .ref (d1 1), .ref (d1 2)])), (d1 1, .inl (cI, (s1 0 0).toNatClampNeg, .inl (s1 1))), (d1 2, .inl (cI, (3 * s1 0 0).toNatClampNeg, .inl (s1 2)))]) A) ([.ref h0, .ref h1, .int a2, .int a3] : List Value).toArray s 0 0 A) (F0 m 8 ls []) := by
    intro n
    induction n with
    | zero => intro x2 x3 x4 s0 s1 H locs ls hl hP hD hS h; cases (show (none : Option (Int32)) = some o from h)
    | succ n8 ih8 =>
      intro x2 x3 x4 s0 s1 H locs ls hl hP hD hS h
      have h : qf_Buf_look_B8 (qfix (qf_Buf_look_F8) n8) x2 x3 x4 s0 s1 = some o := h
      unfold qf_Buf_look_B8 at h
      refine lv_iload hx hb qd_Buf_look_8 (lv_at hl 4 rfl) ?_
      refine lv_if_lt hx hb qd_Buf_look_10 (tgt := 49) (by decide) (fun hc => ?_) (fun hc => ?_)
      · have h := qq_t hc h
        refine lv_aload_n hx hb qd_Buf_look_49 rfl (lv_at hl 1 rfl) ?_
        refine lv_iload_n hx hb qd_Buf_look_50 rfl (lv_at hl 2 rfl) ?_
        refine lv_iload_n hx hb qd_Buf_look_51 rfl (lv_at hl 3 rfl) ?_
        obtain ⟨q1, hq1, h⟩ := qq_b h
        have hPc := hP.sub (ws' := [(h1, .inr (2, [.int (s1 0 0), .ref (d1 1), .ref (d1 2)])), (d1 1, .inl (cI, (s1 0 0).toNatClampNeg, .inl (s1 1))), (d1 2, .inl (cI, (3 * s1 0 0).toNatClampNeg, .inl (s1 2)))]) [4, 5, 6] rfl
        have hDc := hD.sub (ws' := [(h1, .inr (2, [.int (s1 0 0), .ref (d1 1), .ref (d1 2)])), (d1 1, .inl (cI, (s1 0 0).toNatClampNeg, .inl (s1 1))), (d1 2, .inl (cI, (3 * s1 0 0).toNatClampNeg, .inl (s1 2)))]) [4, 5, 6] (by decide) rfl
        have hFc := va_free (wc := [(h1, .inr (2, [.int (s1 0 0), .ref (d1 1), .ref (d1 2)])), (d1 1, .inl (cI, (s1 0 0).toNatClampNeg, .inl (s1 1))), (d1 2, .inl (cI, (3 * s1 0 0).toNatClampNeg, .inl (s1 2)))]) hD hS hA [4, 5, 6] rfl
        refine va_calli (va_runV (As := [.int x2, .int x3]) (rest := []) ⟨hx, hb, hml, hown, hts⟩ (qm_Mem_read l dC dI cI cC cB cM h1 d1 s1 x2 x3 _ q1 hq1) (q_CW hts qw_344 qw_345 qw_346 qw_3 qw_347 qh_Mem_read rfl rfl ⟨by decide, by decide⟩) (q_preV [.int x2, .int x3] 0 rfl rfl hK hPc hDc) rfl rfl hl.1 rfl (lv_room (Nat.le_of_ble_eq_true rfl)) qd_Buf_look_52 ⟨Nat.zero_le _, Nat.zero_le _⟩) hS (fun q _ h => hFc q h) hFc (fun r u t H1 locs ht hvm hw hB hz1 hk1 hS => ?_)
        have hw : q1 = r := Eq.symm hw
        subst hw
        obtain ⟨hP1, hD1⟩ := hB
        rw [ht] at hP1
        obtain ⟨hP, hD⟩ := va_join (wr := [(h0, .inr (0, [.ref (d0 0), .ref (d0 1), .ref (d0 2), .int (s0 3 0)])), (d0 0, .inl (cI, 3, .inl (s0 0))), (d0 1, .inl (cI, 3, .inl (s0 1))), (d0 2, .inl (cI, 3, .inl (s0 2)))]) (w1 := [(h1, .inr (2, [.int (s1 0 0), .ref (d1 1), .ref (d1 2)])), (d1 1, .inl (cI, (s1 0 0).toNatClampNeg, .inl (s1 1))), (d1 2, .inl (cI, (3 * s1 0 0).toNatClampNeg, .inl (s1 2)))]) hP hD [4, 5, 6] [0, 1, 2, 3] rfl rfl (by decide) (by decide) hk1 hFc hP1 hD1
        have hP := hP.sub (ws' := [(h0, .inr (0, [.ref (d0 0), .ref (d0 1), .ref (d0 2), .int (s0 3 0)])), (d0 0, .inl (cI, 3, .inl (s0 0))), (d0 1, .inl (cI, 3, .inl (s0 1))), (d0 2, .inl (cI, 3, .inl (s0 2))), (h1, .inr (2, [.int (s1 0 0), .ref (d1 1), .ref (d1 2)])), (d1 1, .inl (cI, (s1 0 0).toNatClampNeg, .inl (s1 1))), (d1 2, .inl (cI, (3 * s1 0 0).toNatClampNeg, .inl (s1 2)))]) [0, 1, 2, 3, 4, 5, 6] rfl
        have hD := hD.sub (ws' := [(h0, .inr (0, [.ref (d0 0), .ref (d0 1), .ref (d0 2), .int (s0 3 0)])), (d0 0, .inl (cI, 3, .inl (s0 0))), (d0 1, .inl (cI, 3, .inl (s0 1))), (d0 2, .inl (cI, 3, .inl (s0 2))), (h1, .inr (2, [.int (s1 0 0), .ref (d1 1), .ref (d1 2)])), (d1 1, .inl (cI, (s1 0 0).toNatClampNeg, .inl (s1 1))), (d1 2, .inl (cI, (3 * s1 0 0).toNatClampNeg, .inl (s1 2)))]) [0, 1, 2, 3, 4, 5, 6] (by decide) rfl
        obtain rfl := Option.some.inj h
        exact W.iret (v := q1) hx hb hr (fun t ht hW => ⟨⟨q1, (), rfl, rfl, by rw [ht]; exact hP, hD⟩, hS.F ht⟩) hS.2.2 qd_Buf_look_55
      · have h := qq_f hc h
        refine lv_aload_n hx hb qd_Buf_look_13 rfl (lv_at hl 0 rfl) ?_
        refine va_get (D := (dC, dI)) (ci := 0) (v := .ref (d0 0)) (C := "QuietSweep$Buffer") (T := qT_Buf) (N := 4) hx hb hts qi_Buf hown hK.1 hP 0 rfl rfl 0 (by decide) (hts _ qw_93) (fun _ h9 => h9) rfl qd_Buf_look_14 ?_
        refine lv_iload hx hb qd_Buf_look_17 (lv_at hl 4 rfl) ?_
        obtain ⟨hb2, h⟩ := qq_n h
        refine va_iald hx hb hK.1 hP 1 0 rfl rfl hb2 qd_Buf_look_19 ?_
        refine lv_iload_n hx hb qd_Buf_look_20 rfl (lv_at hl 2 rfl) ?_
        refine lv_icmp_ne hx hb qd_Buf_look_21 (tgt := 43) (by decide) (fun hc => ?_) (fun hc => ?_)
        · have h := qq_f hc h
          refine lv_iinc (k := 4) (v := (x4 + (-1))) (lv' := [(4, .int (x4 + (-1))), (0, .ref h0), (1, .ref h1), (2, .int x2), (3, .int x3)]) hx hb qd_Buf_look_43 hl rfl (congrArg (fun z : Int32 => x4 + z) (show Int32.ofInt (-1) = (-1) by decide)) (by decide) rfl (fun ls hl => ?_)
          refine lv_goto hx hb qd_Buf_look_46 (tgt := 8) (by decide) ?_
          exact ih8 x2 x3 (x4 + (-1)) s0 s1 _ _ _ (lv_sub (l' := [(0, .ref h0), (1, .ref h1), (2, .int x2), (3, .int x3), (4, .int (x4 + (-1)))]) hl [1, 2, 3, 4, 0] rfl) hP hD hS h
        · have h := qq_t hc h
          refine lv_aload_n hx hb qd_Buf_look_24 rfl (lv_at hl 0 rfl) ?_
          refine va_get (D := (dC, dI)) (ci := 0) (v := .ref (d0 1)) (C := "QuietSweep$Buffer") (T := qT_Buf) (N := 4) hx hb hts qi_Buf hown hK.1 hP 0 rfl rfl 1 (by decide) (hts _ qw_94) (fun _ h9 => h9) rfl qd_Buf_look_25 ?_
          refine lv_iload hx hb qd_Buf_look_28 (lv_at hl 4 rfl) ?_
          obtain ⟨hb3, h⟩ := qq_n h
          refine va_iald hx hb hK.1 hP 2 0 rfl rfl hb3 qd_Buf_look_30 ?_
          refine lv_iload_n hx hb qd_Buf_look_31 rfl (lv_at hl 3 rfl) ?_
          refine lv_icmp_ne hx hb qd_Buf_look_32 (tgt := 43) (by decide) (fun hc => ?_) (fun hc => ?_)
          · have h := qq_f hc h
            refine lv_iinc (k := 4) (v := (x4 + (-1))) (lv' := [(4, .int (x4 + (-1))), (0, .ref h0), (1, .ref h1), (2, .int x2), (3, .int x3)]) hx hb qd_Buf_look_43 hl rfl (congrArg (fun z : Int32 => x4 + z) (show Int32.ofInt (-1) = (-1) by decide)) (by decide) rfl (fun ls hl => ?_)
            refine lv_goto hx hb qd_Buf_look_46 (tgt := 8) (by decide) ?_
            exact ih8 x2 x3 (x4 + (-1)) s0 s1 _ _ _ (lv_sub (l' := [(0, .ref h0), (1, .ref h1), (2, .int x2), (3, .int x3), (4, .int (x4 + (-1)))]) hl [1, 2, 3, 4, 0] rfl) hP hD hS h
          · have h := qq_t hc h
            refine lv_aload_n hx hb qd_Buf_look_35 rfl (lv_at hl 0 rfl) ?_
            refine va_get (D := (dC, dI)) (ci := 0) (v := .ref (d0 2)) (C := "QuietSweep$Buffer") (T := qT_Buf) (N := 4) hx hb hts qi_Buf hown hK.1 hP 0 rfl rfl 2 (by decide) (hts _ qw_95) (fun _ h9 => h9) rfl qd_Buf_look_36 ?_
            refine lv_iload hx hb qd_Buf_look_39 (lv_at hl 4 rfl) ?_
            obtain ⟨hb4, h⟩ := qq_n h
            refine va_iald hx hb hK.1 hP 3 0 rfl rfl hb4 qd_Buf_look_41 ?_
            obtain rfl := Option.some.inj h
            exact W.iret (v := ((s0 2) (Int32.toNatClampNeg x4))) hx hb hr (fun t ht hW => ⟨⟨((s0 2) (Int32.toNatClampNeg x4)), (), rfl, rfl, by rw [ht]; exact hP, hD⟩, hS.F ht⟩) hS.2.2 qd_Buf_look_42
  unfold qf_Buf_look at h
  refine lv_aload_n hx hb qd_Buf_look_0 rfl (lv_at hl 0 rfl) ?_
  refine va_get (D := (dC, dI)) (ci := 0) (v := .int (s0 3 0)) (C := "QuietSweep$Buffer") (T := qT_Buf) (N := 4) hx hb hts qi_Buf hown hK.1 hP 0 rfl rfl 3 (by decide) (hts _ qw_96) (fun _ h9 => h9) rfl qd_Buf_look_1 ?_
  refine lv_iconst (v := 1) hx hb qd_Buf_look_4 rfl ?_
  refine lv_isub hx hb qd_Buf_look_5 ?_
  refine lv_istore (lv' := [(4, .int ((s0 3 0) - 1)), (0, .ref h0), (1, .ref h1), (2, .int a2), (3, .int a3)]) hx hb qd_Buf_look_6 hl (by decide) rfl (fun ls hl => ?_)
  exact L8 qN a2 a3 ((s0 3 0) - 1) s0 s1 _ _ _ (lv_sub (l' := [(0, .ref h0), (1, .ref h1), (2, .int a2), (3, .int a3), (4, .int ((s0 3 0) - 1))]) hl [1, 2, 3, 4, 0] rfl) hP hD hS h
/-! QuietSweep$Buffer.passOldest(LQuietSweep$Memory;)Z -/
def qf_Buf_passOldest_B43 (k43 : (Int32 × QS × QS) → Option (Int32 × QS × QS)) (x2 : Int32) (s0 : QS) (s1 : QS) : Option (Int32 × QS × QS) := (if (s0 3 0) ≤ x2 then (some (1, s0, s1)) else (if ((x2 + 1) < 0 ∨ 3 ≤ Int32.toNatClampNeg (x2 + 1)) then none else (if (x2 < 0 ∨ 3 ≤ Int32.toNatClampNeg x2) then none else (if ((x2 + 1) < 0 ∨ 3 ≤ Int32.toNatClampNeg (x2 + 1)) then none else (if (x2 < 0 ∨ 3 ≤ Int32.toNatClampNeg x2) then none else (if ((x2 + 1) < 0 ∨ 3 ≤ Int32.toNatClampNeg (x2 + 1)) then none else (if (x2 < 0 ∨ 3 ≤ Int32.toNatClampNeg x2) then none else (k43 ((x2 + 1), (qp (qp (qp s0 0 (upd (s0 0) (Int32.toNatClampNeg x2) ((s0 0) (Int32.toNatClampNeg (x2 + 1))))) 1 (upd (s0 1) (Int32.toNatClampNeg x2) ((s0 1) (Int32.toNatClampNeg (x2 + 1))))) 2 (upd (s0 2) (Int32.toNatClampNeg x2) ((s0 2) (Int32.toNatClampNeg (x2 + 1))))), s1)))))))))
def qf_Buf_passOldest_F43 (k43 : (Int32 × QS × QS) → Option (Int32 × QS × QS)) (a : Int32 × QS × QS) : Option (Int32 × QS × QS) := qf_Buf_passOldest_B43 k43 a.1 a.2.1 a.2.2
def qf_Buf_passOldest  (s0 : QS) (s1 : QS) : Option (Int32 × QS × QS) := (if (s0 3 0) = 0 then (some (0, s0, s1)) else ((qf_Mem_put ((s0 0) (Int32.toNatClampNeg 0)) ((s0 1) (Int32.toNatClampNeg 0)) ((s0 2) (Int32.toNatClampNeg 0)) s1).bind fun q1 => (qfix (qf_Buf_passOldest_F43) qN (0, (qp s0 3 (fun _ => ((s0 3 0) - 1))), q1))))
set_option maxHeartbeats 4000000 in
set_option maxRecDepth 100000 in
theorem qm_Buf_passOldest (l : Launch) (dC : Nat → ClassId) (dI : Nat → Nat → Nat) (cI cC cB cM : ClassId) (h0 : Nat) (h1 : Nat) (d0 : Nat → Nat) (d1 : Nat → Nat) (s0 : QS) (s1 : QS)  (sz : Nat) (o : Int32 × QS × QS) (h : qf_Buf_passOldest s0 s1 = some o) : Met l qy_Buf_passOldest (ql_Buf_passOldest :: qG) ({ frames := 1, cells := 0, slots := 0, locals := 23 } : Room) (qPc dC dI cI cC cB cM [.ref h0, .ref h1] sz [(h0, .inr (0, [.ref (d0 0), .ref (d0 1), .ref (d0 2), .int (s0 3 0)])), (d0 0, .inl (cI, 3, .inl (s0 0))), (d0 1, .inl (cI, 3, .inl (s0 1))), (d0 2, .inl (cI, 3, .inl (s0 2))), (h1, .inr (2, [.int (s1 0 0), .ref (d1 1), .ref (d1 2)])), (d1 1, .inl (cI, (s1 0 0).toNatClampNeg, .inl (s1 1))), (d1 2, .inl (cI, (3 * s1 0 0).toNatClampNeg, .inl (s1 2)))]) (va_Qi (fun r (_ : Unit) => r = o.1) (fun _ t => va_P (dC, dI) qCl [(h0, .inr (0, [.ref (d0 0), .ref (d0 1), .ref (d0 2), .int (o.2.1 3 0)])), (d0 0, .inl (cI, 3, .inl (o.2.1 0))), (d0 1, .inl (cI, 3, .inl (o.2.1 1))), (d0 2, .inl (cI, 3, .inl (o.2.1 2))), (h1, .inr (2, [.int (o.2.2 0 0), .ref (d1 1), .ref (d1 2)])), (d1 1, .inl (cI, (o.2.2 0 0).toNatClampNeg, .inl (o.2.2 1))), (d1 2, .inl (cI, (3 * o.2.2 0 0).toNatClampNeg, .inl (o.2.2 2)))] t.heap ∧ va_D (va_A [(h0, .inr (0, [.ref (d0 0), .ref (d0 1), .ref (d0 2), .int (s0 3 0)])), (d0 0, .inl (cI, 3, .inl (s0 0))), (d0 1, .inl (cI, 3, .inl (s0 1))), (d0 2, .inl (cI, 3, .inl (s0 2))), (h1, .inr (2, [.int (s1 0 0), .ref (d1 1), .ref (d1 2)])), (d1 1, .inl (cI, (s1 0 0).toNatClampNeg, .inl (s1 1))), (d1 2, .inl (cI, (3 * s1 0 0).toNatClampNeg, .inl (s1 2)))] sz) [(h0, .inr (0, [.ref (d0 0), .ref (d0 1), .ref (d0 2), .int (o.2.1 3 0)])), (d0 0, .inl (cI, 3, .inl (o.2.1 0))), (d0 1, .inl (cI, 3, .inl (o.2.1 1))), (d0 2, .inl (cI, 3, .inl (o.2.1 2))), (h1, .inr (2, [.int (o.2.2 0 0), .ref (d1 1), .ref (d1 2)])), (d1 1, .inl (cI, (o.2.2 0 0).toNatClampNeg, .inl (o.2.2 1))), (d1 2, .inl (cI, (3 * o.2.2 0 0).toNatClampNeg, .inl (o.2.2 2)))]) (va_A [(h0, .inr (0, [.ref (d0 0), .ref (d0 1), .ref (d0 2), .int (s0 3 0)])), (d0 0, .inl (cI, 3, .inl (s0 0))), (d0 1, .inl (cI, 3, .inl (s0 1))), (d0 2, .inl (cI, 3, .inl (s0 2))), (h1, .inr (2, [.int (s1 0 0), .ref (d1 1), .ref (d1 2)])), (d1 1, .inl (cI, (s1 0 0).toNatClampNeg, .inl (s1 1))), (d1 2, .inl (cI, (3 * s1 0 0).toNatClampNeg, .inl (s1 2)))] sz)) 0 0 (va_A [(h0, .inr (0, [.ref (d0 0), .ref (d0 1), .ref (d0 2), .int (s0 3 0)])), (d0 0, .inl (cI, 3, .inl (s0 0))), (d0 1, .inl (cI, 3, .inl (s0 1))), (d0 2, .inl (cI, 3, .inl (s0 2))), (h1, .inr (2, [.int (s1 0 0), .ref (d1 1), .ref (d1 2)])), (d1 1, .inl (cI, (s1 0 0).toNatClampNeg, .inl (s1 1))), (d1 2, .inl (cI, (3 * s1 0 0).toNatClampNeg, .inl (s1 2)))] sz) := by
  refine Met.ofW (cc := qc_Buf_passOldest) (maxL := 3) (ret := (some .boolean)) (by decide) rfl ?_
  intro p e s m args below meth c s₁ B hml hv
  obtain ⟨rfl, hsz, hP, hK, hD0⟩ := hv
  have hx := B.exec
  have hb := B.bytes
  have hr := B.returns
  have hts0 := atoms_spec (ws := ql_Buf_passOldest :: qG) B.pre
  have hts := fun (w : Cond) (hw : w ∈ qG) => hts0 w (List.mem_cons_of_mem _ hw)
  have hown : s.vm.findClass "QuietSweep$Buffer" = some m.cls := findClass_of_methodNamed B.named
  have hlocks := B.notSynchronized
  subst hsz
  have hD := hD0.self (sz := s.heap.size)
  generalize hAe : va_A [(h0, .inr (0, [.ref (d0 0), .ref (d0 1), .ref (d0 2), .int (s0 3 0)])), (d0 0, .inl (cI, 3, .inl (s0 0))), (d0 1, .inl (cI, 3, .inl (s0 1))), (d0 2, .inl (cI, 3, .inl (s0 2))), (h1, .inr (2, [.int (s1 0 0), .ref (d1 1), .ref (d1 2)])), (d1 1, .inl (cI, (s1 0 0).toNatClampNeg, .inl (s1 1))), (d1 2, .inl (cI, (3 * s1 0 0).toNatClampNeg, .inl (s1 2)))] s.heap.size = A at hD ⊢
  have hA : ∀ q : Nat, s.heap.size ≤ q → A q := fun q h => by rw [← hAe]; exact Or.inr h
  have hS : va_S A s.heap s.heap [] := va_S.rf
  have hl := lv_entry ([.ref h0, .ref h1]) (n := 3) (Nat.le_of_ble_eq_true rfl)
  rw [lg_entry_eq]
  generalize (lg_sl ([.ref h0, .ref h1]) ++ List.replicate (3 - (lg_sl ([.ref h0, .ref h1])).length) Slot.unset).toArray = ls at hl ⊢
  have hl : lv_has ls 3 [(0, .ref h0), (1, .ref h1)] := hl
  have L43 : ∀ (n : Nat) (x2 : Int32) (s0 : QS) (s1 : QS) (H : Heap) (locs : List Loc) (ls : Array Slot), lv_has ls 3 [(0, .ref h0), (2, .int x2)] → va_P (dC, dI) qCl [(h0, .inr (0, [.ref (d0 0), .ref (d0 1), .ref (d0 2), .int (s0 3 0)])), (d0 0, .inl (cI, 3, .inl (s0 0))), (d0 1, .inl (cI, 3, .inl (s0 1))), (d0 2, .inl (cI, 3, .inl (s0 2))), (h1, .inr (2, [.int (s1 0 0), .ref (d1 1), .ref (d1 2)])), (d1 1, .inl (cI, (s1 0 0).toNatClampNeg, .inl (s1 1))), (d1 2, .inl (cI, (3 * s1 0 0).toNatClampNeg, .inl (s1 2)))] H → va_D A [(h0, .inr (0, [.ref (d0 0), .ref (d0 1), .ref (d0 2), .int (s0 3 0)])), (d0 0, .inl (cI, 3, .inl (s0 0))), (d0 1, .inl (cI, 3, .inl (s0 1))), (d0 2, .inl (cI, 3, .inl (s0 2))), (h1, .inr (2, [.int (s1 0 0), .ref (d1 1), .ref (d1 2)])), (d1 1, .inl (cI, (s1 0 0).toNatClampNeg, .inl (s1 1))), (d1 2, .inl (cI, (3 * s1 0 0).toNatClampNeg, .inl (s1 2)))] → va_S A s.heap H locs → qfix (qf_Buf_passOldest_F43) n (x2, s0, s1) = some o → W p l e (headSpec (ql_Buf_passOldest :: qG) ({ frames := 1, cells := 0, slots := 0, locals := 23 } : Room)).room s m ([.ref h0, .ref h1] : List Value).toArray below meth c H locs 0 0 (MQ below (va_Qi (fun r (_ : Unit) => r = o.1) (fun _ t => va_P (dC, dI) qCl [(h0, .inr (0, [.ref (d0 0), .ref (d0 1), .ref (d0 2), .int (o.2.1 3 0)])), (d0 0, .inl (cI, 3, .inl (o.2.1 0))), (d0 1, .inl (cI, 3, .inl (o.2.1 1))), (d0 2, .inl (cI, 3, .inl (o.2.1 2))), (h1, .inr (2, [.int (o.2.2 0 0), .ref (d1 1), .ref (d1 2)])), (d1 1, .inl (cI, (o.2.2 0 0).toNatClampNeg, .inl (o.2.2 1))), (d1 2, .inl (cI, (3 * o.2.2 0 0).toNatClampNeg, .inl (o.2.2 2)))] t.heap ∧ va_D A [(h0, .inr (0, [.ref (d0 0), .ref (d0 1), .ref (d0 2), .int (o.2.1 3 0)])), (d0 0, .inl (cI, 3, .inl (o.2.1 0))), (d0 1, .inl (cI, 3, .inl (o.2.1 1))), (d0 2, .inl (cI, 3, .inl (o.2.1 2))), (h1, .inr (2, [.int (o.2.2 0 0), .ref (d1 1), .ref (d1 2)])), (d1 1, .inl (cI, (o.2.2 0 0).toNatClampNeg, .inl (o.2.2 1))), (d1 2, .inl (cI, (3 * o.2.2 0 0).toNatClampNeg, .inl (o.2.2 2)))]) A) ([.ref h0, .ref h1] : List Value).toArray s 0 0 A) (F0 m 43 ls []) := by
    intro n
    induction n with
    | zero => intro x2 s0 s1 H locs ls hl hP hD hS h; cases (show (none : Option (Int32 × QS × QS)) = some o from h)
    | succ n43 ih43 =>
      intro x2 s0 s1 H locs ls hl hP hD hS h
      have h : qf_Buf_passOldest_B43 (qfix (qf_Buf_passOldest_F43) n43) x2 s0 s1 = some o := h
      unfold qf_Buf_passOldest_B43 at h
      refine lv_iload_n hx hb qd_Buf_passOldest_43 rfl (lv_at hl 1 rfl) ?_
      refine lv_aload_n hx hb qd_Buf_passOldest_44 rfl (lv_at hl 0 rfl) ?_
      refine va_get (D := (dC, dI)) (ci := 0) (v := .int (s0 3 0)) (C := "QuietSweep$Buffer") (T := qT_Buf) (N := 4) hx hb hts qi_Buf hown hK.1 hP 0 rfl rfl 3 (by decide) (hts _ qw_96) (fun _ h9 => h9) rfl qd_Buf_passOldest_45 ?_
      refine lv_icmp_ge hx hb qd_Buf_passOldest_48 (tgt := 99) (by decide) (fun hc => ?_) (fun hc => ?_)
      · have h := qq_t hc h
        refine lv_iconst (v := 1) hx hb qd_Buf_passOldest_99 rfl ?_
        obtain rfl := Option.some.inj h
        exact W.zret (v := 1) hx hb hr rfl (fun t ht hW => ⟨⟨1, (), rfl, rfl, by rw [ht]; exact hP, hD⟩, hS.F ht⟩) hS.2.2 qd_Buf_passOldest_100
      · have h := qq_f hc h
        refine lv_aload_n hx hb qd_Buf_passOldest_51 rfl (lv_at hl 0 rfl) ?_
        refine va_get (D := (dC, dI)) (ci := 0) (v := .ref (d0 0)) (C := "QuietSweep$Buffer") (T := qT_Buf) (N := 4) hx hb hts qi_Buf hown hK.1 hP 0 rfl rfl 0 (by decide) (hts _ qw_93) (fun _ h9 => h9) rfl qd_Buf_passOldest_52 ?_
        refine lv_iload_n hx hb qd_Buf_passOldest_55 rfl (lv_at hl 1 rfl) ?_
        refine lv_aload_n hx hb qd_Buf_passOldest_56 rfl (lv_at hl 0 rfl) ?_
        refine va_get (D := (dC, dI)) (ci := 0) (v := .ref (d0 0)) (C := "QuietSweep$Buffer") (T := qT_Buf) (N := 4) hx hb hts qi_Buf hown hK.1 hP 0 rfl rfl 0 (by decide) (hts _ qw_93) (fun _ h9 => h9) rfl qd_Buf_passOldest_57 ?_
        refine lv_iload_n hx hb qd_Buf_passOldest_60 rfl (lv_at hl 1 rfl) ?_
        refine lv_iconst (v := 1) hx hb qd_Buf_passOldest_61 rfl ?_
        refine lv_iadd hx hb qd_Buf_passOldest_62 ?_
        obtain ⟨hb2, h⟩ := qq_n h
        refine va_iald hx hb hK.1 hP 1 0 rfl rfl hb2 qd_Buf_passOldest_63 ?_
        obtain ⟨hb3, h⟩ := qq_n h
        refine va_iast hx hb hK.1 hP hD hS 1 0 rfl rfl hb3 qd_Buf_passOldest_64 (fun H locs hP hD hS => ?_)
        have hP : va_P (dC, dI) qCl [(h0, .inr (0, [.ref (d0 0), .ref (d0 1), .ref (d0 2), .int (s0 3 0)])), (d0 0, .inl (cI, 3, .inl (upd (s0 0) (Int32.toNatClampNeg x2) ((s0 0) (Int32.toNatClampNeg (x2 + 1)))))), (d0 1, .inl (cI, 3, .inl (s0 1))), (d0 2, .inl (cI, 3, .inl (s0 2))), (h1, .inr (2, [.int (s1 0 0), .ref (d1 1), .ref (d1 2)])), (d1 1, .inl (cI, (s1 0 0).toNatClampNeg, .inl (s1 1))), (d1 2, .inl (cI, (3 * s1 0 0).toNatClampNeg, .inl (s1 2)))] _ := hP
        have hD : va_D A [(h0, .inr (0, [.ref (d0 0), .ref (d0 1), .ref (d0 2), .int (s0 3 0)])), (d0 0, .inl (cI, 3, .inl (upd (s0 0) (Int32.toNatClampNeg x2) ((s0 0) (Int32.toNatClampNeg (x2 + 1)))))), (d0 1, .inl (cI, 3, .inl (s0 1))), (d0 2, .inl (cI, 3, .inl (s0 2))), (h1, .inr (2, [.int (s1 0 0), .ref (d1 1), .ref (d1 2)])), (d1 1, .inl (cI, (s1 0 0).toNatClampNeg, .inl (s1 1))), (d1 2, .inl (cI, (3 * s1 0 0).toNatClampNeg, .inl (s1 2)))] := hD
        refine lv_aload_n hx hb qd_Buf_passOldest_65 rfl (lv_at hl 0 rfl) ?_
        refine va_get (D := (dC, dI)) (ci := 0) (v := .ref (d0 1)) (C := "QuietSweep$Buffer") (T := qT_Buf) (N := 4) hx hb hts qi_Buf hown hK.1 hP 0 rfl rfl 1 (by decide) (hts _ qw_94) (fun _ h9 => h9) rfl qd_Buf_passOldest_66 ?_
        refine lv_iload_n hx hb qd_Buf_passOldest_69 rfl (lv_at hl 1 rfl) ?_
        refine lv_aload_n hx hb qd_Buf_passOldest_70 rfl (lv_at hl 0 rfl) ?_
        refine va_get (D := (dC, dI)) (ci := 0) (v := .ref (d0 1)) (C := "QuietSweep$Buffer") (T := qT_Buf) (N := 4) hx hb hts qi_Buf hown hK.1 hP 0 rfl rfl 1 (by decide) (hts _ qw_94) (fun _ h9 => h9) rfl qd_Buf_passOldest_71 ?_
        refine lv_iload_n hx hb qd_Buf_passOldest_74 rfl (lv_at hl 1 rfl) ?_
        refine lv_iconst (v := 1) hx hb qd_Buf_passOldest_75 rfl ?_
        refine lv_iadd hx hb qd_Buf_passOldest_76 ?_
        obtain ⟨hb4, h⟩ := qq_n h
        refine va_iald hx hb hK.1 hP 2 0 rfl rfl hb4 qd_Buf_passOldest_77 ?_
        obtain ⟨hb5, h⟩ := qq_n h
        refine va_iast hx hb hK.1 hP hD hS 2 0 rfl rfl hb5 qd_Buf_passOldest_78 (fun H locs hP hD hS => ?_)
        have hP : va_P (dC, dI) qCl [(h0, .inr (0, [.ref (d0 0), .ref (d0 1), .ref (d0 2), .int (s0 3 0)])), (d0 0, .inl (cI, 3, .inl (upd (s0 0) (Int32.toNatClampNeg x2) ((s0 0) (Int32.toNatClampNeg (x2 + 1)))))), (d0 1, .inl (cI, 3, .inl (upd (s0 1) (Int32.toNatClampNeg x2) ((s0 1) (Int32.toNatClampNeg (x2 + 1)))))), (d0 2, .inl (cI, 3, .inl (s0 2))), (h1, .inr (2, [.int (s1 0 0), .ref (d1 1), .ref (d1 2)])), (d1 1, .inl (cI, (s1 0 0).toNatClampNeg, .inl (s1 1))), (d1 2, .inl (cI, (3 * s1 0 0).toNatClampNeg, .inl (s1 2)))] _ := hP
        have hD : va_D A [(h0, .inr (0, [.ref (d0 0), .ref (d0 1), .ref (d0 2), .int (s0 3 0)])), (d0 0, .inl (cI, 3, .inl (upd (s0 0) (Int32.toNatClampNeg x2) ((s0 0) (Int32.toNatClampNeg (x2 + 1)))))), (d0 1, .inl (cI, 3, .inl (upd (s0 1) (Int32.toNatClampNeg x2) ((s0 1) (Int32.toNatClampNeg (x2 + 1)))))), (d0 2, .inl (cI, 3, .inl (s0 2))), (h1, .inr (2, [.int (s1 0 0), .ref (d1 1), .ref (d1 2)])), (d1 1, .inl (cI, (s1 0 0).toNatClampNeg, .inl (s1 1))), (d1 2, .inl (cI, (3 * s1 0 0).toNatClampNeg, .inl (s1 2)))] := hD
        refine lv_aload_n hx hb qd_Buf_passOldest_79 rfl (lv_at hl 0 rfl) ?_
        refine va_get (D := (dC, dI)) (ci := 0) (v := .ref (d0 2)) (C := "QuietSweep$Buffer") (T := qT_Buf) (N := 4) hx hb hts qi_Buf hown hK.1 hP 0 rfl rfl 2 (by decide) (hts _ qw_95) (fun _ h9 => h9) rfl qd_Buf_passOldest_80 ?_
        refine lv_iload_n hx hb qd_Buf_passOldest_83 rfl (lv_at hl 1 rfl) ?_
        refine lv_aload_n hx hb qd_Buf_passOldest_84 rfl (lv_at hl 0 rfl) ?_
        refine va_get (D := (dC, dI)) (ci := 0) (v := .ref (d0 2)) (C := "QuietSweep$Buffer") (T := qT_Buf) (N := 4) hx hb hts qi_Buf hown hK.1 hP 0 rfl rfl 2 (by decide) (hts _ qw_95) (fun _ h9 => h9) rfl qd_Buf_passOldest_85 ?_
        refine lv_iload_n hx hb qd_Buf_passOldest_88 rfl (lv_at hl 1 rfl) ?_
        refine lv_iconst (v := 1) hx hb qd_Buf_passOldest_89 rfl ?_
        refine lv_iadd hx hb qd_Buf_passOldest_90 ?_
        obtain ⟨hb6, h⟩ := qq_n h
        refine va_iald hx hb hK.1 hP 3 0 rfl rfl hb6 qd_Buf_passOldest_91 ?_
        obtain ⟨hb7, h⟩ := qq_n h
        refine va_iast hx hb hK.1 hP hD hS 3 0 rfl rfl hb7 qd_Buf_passOldest_92 (fun H locs hP hD hS => ?_)
        have hP : va_P (dC, dI) qCl [(h0, .inr (0, [.ref (d0 0), .ref (d0 1), .ref (d0 2), .int (s0 3 0)])), (d0 0, .inl (cI, 3, .inl (upd (s0 0) (Int32.toNatClampNeg x2) ((s0 0) (Int32.toNatClampNeg (x2 + 1)))))), (d0 1, .inl (cI, 3, .inl (upd (s0 1) (Int32.toNatClampNeg x2) ((s0 1) (Int32.toNatClampNeg (x2 + 1)))))), (d0 2, .inl (cI, 3, .inl (upd (s0 2) (Int32.toNatClampNeg x2) ((s0 2) (Int32.toNatClampNeg (x2 + 1)))))), (h1, .inr (2, [.int (s1 0 0), .ref (d1 1), .ref (d1 2)])), (d1 1, .inl (cI, (s1 0 0).toNatClampNeg, .inl (s1 1))), (d1 2, .inl (cI, (3 * s1 0 0).toNatClampNeg, .inl (s1 2)))] _ := hP
        have hD : va_D A [(h0, .inr (0, [.ref (d0 0), .ref (d0 1), .ref (d0 2), .int (s0 3 0)])), (d0 0, .inl (cI, 3, .inl (upd (s0 0) (Int32.toNatClampNeg x2) ((s0 0) (Int32.toNatClampNeg (x2 + 1)))))), (d0 1, .inl (cI, 3, .inl (upd (s0 1) (Int32.toNatClampNeg x2) ((s0 1) (Int32.toNatClampNeg (x2 + 1)))))), (d0 2, .inl (cI, 3, .inl (upd (s0 2) (Int32.toNatClampNeg x2) ((s0 2) (Int32.toNatClampNeg (x2 + 1)))))), (h1, .inr (2, [.int (s1 0 0), .ref (d1 1), .ref (d1 2)])), (d1 1, .inl (cI, (s1 0 0).toNatClampNeg, .inl (s1 1))), (d1 2, .inl (cI, (3 * s1 0 0).toNatClampNeg, .inl (s1 2)))] := hD
        refine lv_iinc (k := 1) (v := (x2 + 1)) (lv' := [(2, .int (x2 + 1)), (0, .ref h0)]) hx hb qd_Buf_passOldest_93 hl rfl (congrArg (fun z : Int32 => x2 + z) (show Int32.ofInt 1 = 1 by decide)) (by decide) rfl (fun ls hl => ?_)
        refine lv_goto hx hb qd_Buf_passOldest_96 (tgt := 43) (by decide) ?_
        exact ih43 (x2 + 1) (qp (qp (qp s0 0 (upd (s0 0) (Int32.toNatClampNeg x2) ((s0 0) (Int32.toNatClampNeg (x2 + 1))))) 1 (upd (s0 1) (Int32.toNatClampNeg x2) ((s0 1) (Int32.toNatClampNeg (x2 + 1))))) 2 (upd (s0 2) (Int32.toNatClampNeg x2) ((s0 2) (Int32.toNatClampNeg (x2 + 1))))) s1 _ _ _ (lv_sub (l' := [(0, .ref h0), (2, .int (x2 + 1))]) hl [1, 0] rfl) hP hD hS h
  unfold qf_Buf_passOldest at h
  refine lv_aload_n hx hb qd_Buf_passOldest_0 rfl (lv_at hl 0 rfl) ?_
  refine va_get (D := (dC, dI)) (ci := 0) (v := .int (s0 3 0)) (C := "QuietSweep$Buffer") (T := qT_Buf) (N := 4) hx hb hts qi_Buf hown hK.1 hP 0 rfl rfl 3 (by decide) (hts _ qw_96) (fun _ h9 => h9) rfl qd_Buf_passOldest_1 ?_
  refine lv_if_ne hx hb qd_Buf_passOldest_4 (tgt := 9) (by decide) (fun hc => ?_) (fun hc => ?_)
  · have h := qq_f hc h
    refine lv_aload_n hx hb qd_Buf_passOldest_9 rfl (lv_at hl 1 rfl) ?_
    refine lv_aload_n hx hb qd_Buf_passOldest_10 rfl (lv_at hl 0 rfl) ?_
    refine va_get (D := (dC, dI)) (ci := 0) (v := .ref (d0 0)) (C := "QuietSweep$Buffer") (T := qT_Buf) (N := 4) hx hb hts qi_Buf hown hK.1 hP 0 rfl rfl 0 (by decide) (hts _ qw_93) (fun _ h9 => h9) rfl qd_Buf_passOldest_11 ?_
    refine lv_iconst (v := 0) hx hb qd_Buf_passOldest_14 rfl ?_
    refine va_iald hx hb hK.1 hP 1 0 rfl rfl (by decide : ¬ ((0 : Int32) < 0 ∨ 3 ≤ (0 : Int32).toNatClampNeg)) qd_Buf_passOldest_15 ?_
    refine lv_aload_n hx hb qd_Buf_passOldest_16 rfl (lv_at hl 0 rfl) ?_
    refine va_get (D := (dC, dI)) (ci := 0) (v := .ref (d0 1)) (C := "QuietSweep$Buffer") (T := qT_Buf) (N := 4) hx hb hts qi_Buf hown hK.1 hP 0 rfl rfl 1 (by decide) (hts _ qw_94) (fun _ h9 => h9) rfl qd_Buf_passOldest_17 ?_
    refine lv_iconst (v := 0) hx hb qd_Buf_passOldest_20 rfl ?_
    refine va_iald hx hb hK.1 hP 2 0 rfl rfl (by decide : ¬ ((0 : Int32) < 0 ∨ 3 ≤ (0 : Int32).toNatClampNeg)) qd_Buf_passOldest_21 ?_
    refine lv_aload_n hx hb qd_Buf_passOldest_22 rfl (lv_at hl 0 rfl) ?_
    refine va_get (D := (dC, dI)) (ci := 0) (v := .ref (d0 2)) (C := "QuietSweep$Buffer") (T := qT_Buf) (N := 4) hx hb hts qi_Buf hown hK.1 hP 0 rfl rfl 2 (by decide) (hts _ qw_95) (fun _ h9 => h9) rfl qd_Buf_passOldest_23 ?_
    refine lv_iconst (v := 0) hx hb qd_Buf_passOldest_26 rfl ?_
    refine va_iald hx hb hK.1 hP 3 0 rfl rfl (by decide : ¬ ((0 : Int32) < 0 ∨ 3 ≤ (0 : Int32).toNatClampNeg)) qd_Buf_passOldest_27 ?_
    obtain ⟨q1, hq1, h⟩ := qq_b h
    have hPc := hP.sub (ws' := [(h1, .inr (2, [.int (s1 0 0), .ref (d1 1), .ref (d1 2)])), (d1 1, .inl (cI, (s1 0 0).toNatClampNeg, .inl (s1 1))), (d1 2, .inl (cI, (3 * s1 0 0).toNatClampNeg, .inl (s1 2)))]) [4, 5, 6] rfl
    have hDc := hD.sub (ws' := [(h1, .inr (2, [.int (s1 0 0), .ref (d1 1), .ref (d1 2)])), (d1 1, .inl (cI, (s1 0 0).toNatClampNeg, .inl (s1 1))), (d1 2, .inl (cI, (3 * s1 0 0).toNatClampNeg, .inl (s1 2)))]) [4, 5, 6] (by decide) rfl
    have hFc := va_free (wc := [(h1, .inr (2, [.int (s1 0 0), .ref (d1 1), .ref (d1 2)])), (d1 1, .inl (cI, (s1 0 0).toNatClampNeg, .inl (s1 1))), (d1 2, .inl (cI, (3 * s1 0 0).toNatClampNeg, .inl (s1 2)))]) hD hS hA [4, 5, 6] rfl
    refine va_callv (va_runV (As := [.int ((s0 0) (Int32.toNatClampNeg 0)), .int ((s0 1) (Int32.toNatClampNeg 0)), .int ((s0 2) (Int32.toNatClampNeg 0))]) (rest := []) ⟨hx, hb, hml, hown, hts⟩ (qm_Mem_put l dC dI cI cC cB cM h1 d1 s1 ((s0 0) (Int32.toNatClampNeg 0)) ((s0 1) (Int32.toNatClampNeg 0)) ((s0 2) (Int32.toNatClampNeg 0)) _ q1 hq1) (q_CW hts qw_394 qw_64 qw_65 qw_3 qw_66 qh_Mem_put rfl rfl ⟨by decide, by decide⟩) (q_preV [.int ((s0 0) (Int32.toNatClampNeg 0)), .int ((s0 1) (Int32.toNatClampNeg 0)), .int ((s0 2) (Int32.toNatClampNeg 0))] 0 rfl rfl hK hPc hDc) rfl rfl hl.1 rfl (lv_room (Nat.le_of_ble_eq_true rfl)) qd_Buf_passOldest_28 ⟨Nat.zero_le _, Nat.zero_le _⟩) hS (fun q _ h => hFc q h) hFc (fun u t H1 locs ht hvm hw hB hz1 hk1 hS => ?_)
    obtain ⟨hP1, hD1⟩ := hB
    rw [ht] at hP1
    obtain ⟨hP, hD⟩ := va_join (wr := [(h0, .inr (0, [.ref (d0 0), .ref (d0 1), .ref (d0 2), .int (s0 3 0)])), (d0 0, .inl (cI, 3, .inl (s0 0))), (d0 1, .inl (cI, 3, .inl (s0 1))), (d0 2, .inl (cI, 3, .inl (s0 2)))]) (w1 := [(h1, .inr (2, [.int (q1 0 0), .ref (d1 1), .ref (d1 2)])), (d1 1, .inl (cI, (q1 0 0).toNatClampNeg, .inl (q1 1))), (d1 2, .inl (cI, (3 * q1 0 0).toNatClampNeg, .inl (q1 2)))]) hP hD [4, 5, 6] [0, 1, 2, 3] rfl rfl (by decide) (by decide) hk1 hFc hP1 hD1
    have hP := hP.sub (ws' := [(h0, .inr (0, [.ref (d0 0), .ref (d0 1), .ref (d0 2), .int (s0 3 0)])), (d0 0, .inl (cI, 3, .inl (s0 0))), (d0 1, .inl (cI, 3, .inl (s0 1))), (d0 2, .inl (cI, 3, .inl (s0 2))), (h1, .inr (2, [.int (q1 0 0), .ref (d1 1), .ref (d1 2)])), (d1 1, .inl (cI, (q1 0 0).toNatClampNeg, .inl (q1 1))), (d1 2, .inl (cI, (3 * q1 0 0).toNatClampNeg, .inl (q1 2)))]) [0, 1, 2, 3, 4, 5, 6] rfl
    have hD := hD.sub (ws' := [(h0, .inr (0, [.ref (d0 0), .ref (d0 1), .ref (d0 2), .int (s0 3 0)])), (d0 0, .inl (cI, 3, .inl (s0 0))), (d0 1, .inl (cI, 3, .inl (s0 1))), (d0 2, .inl (cI, 3, .inl (s0 2))), (h1, .inr (2, [.int (q1 0 0), .ref (d1 1), .ref (d1 2)])), (d1 1, .inl (cI, (q1 0 0).toNatClampNeg, .inl (q1 1))), (d1 2, .inl (cI, (3 * q1 0 0).toNatClampNeg, .inl (q1 2)))]) [0, 1, 2, 3, 4, 5, 6] (by decide) rfl
    refine lv_aload_n hx hb qd_Buf_passOldest_31 rfl (lv_at hl 0 rfl) ?_
    refine lv_dup hx hb qd_Buf_passOldest_32 rfl ?_
    refine va_get (D := (dC, dI)) (ci := 0) (v := .int (s0 3 0)) (C := "QuietSweep$Buffer") (T := qT_Buf) (N := 4) hx hb hts qi_Buf hown hK.1 hP 0 rfl rfl 3 (by decide) (hts _ qw_96) (fun _ h9 => h9) rfl qd_Buf_passOldest_33 ?_
    refine lv_iconst (v := 1) hx hb qd_Buf_passOldest_36 rfl ?_
    refine lv_isub hx hb qd_Buf_passOldest_37 ?_
    refine va_put (D := (dC, dI)) (ci := 0) (v := .int ((s0 3 0) - 1)) (ty := .int) (C := "QuietSweep$Buffer") (T := qT_Buf) (N := 4) hx hb hts qi_Buf qt_Buf qo_Buf qn_Buf hown hK.1 hP hD hS 0 rfl rfl 3 (by decide) (hts _ qw_96) (fun _ h9 => h9) rfl (qo_Buf 3 (by decide)) rfl rfl (Nat.le_of_ble_eq_true rfl) qd_Buf_passOldest_38 (fun H locs hP hD hS => ?_)
    have hP : va_P (dC, dI) qCl [(h0, .inr (0, [.ref (d0 0), .ref (d0 1), .ref (d0 2), .int ((s0 3 0) - 1)])), (d0 0, .inl (cI, 3, .inl (s0 0))), (d0 1, .inl (cI, 3, .inl (s0 1))), (d0 2, .inl (cI, 3, .inl (s0 2))), (h1, .inr (2, [.int (q1 0 0), .ref (d1 1), .ref (d1 2)])), (d1 1, .inl (cI, (q1 0 0).toNatClampNeg, .inl (q1 1))), (d1 2, .inl (cI, (3 * q1 0 0).toNatClampNeg, .inl (q1 2)))] _ := hP
    have hD : va_D A [(h0, .inr (0, [.ref (d0 0), .ref (d0 1), .ref (d0 2), .int ((s0 3 0) - 1)])), (d0 0, .inl (cI, 3, .inl (s0 0))), (d0 1, .inl (cI, 3, .inl (s0 1))), (d0 2, .inl (cI, 3, .inl (s0 2))), (h1, .inr (2, [.int (q1 0 0), .ref (d1 1), .ref (d1 2)])), (d1 1, .inl (cI, (q1 0 0).toNatClampNeg, .inl (q1 1))), (d1 2, .inl (cI, (3 * q1 0 0).toNatClampNeg, .inl (q1 2)))] := hD
    refine lv_iconst (v := 0) hx hb qd_Buf_passOldest_41 rfl ?_
    refine lv_istore_n (lv' := [(2, .int 0), (0, .ref h0), (1, .ref h1)]) hx hb qd_Buf_passOldest_42 rfl hl (by decide) rfl (fun ls hl => ?_)
    exact L43 qN 0 (qp s0 3 (fun _ => ((s0 3 0) - 1))) q1 _ _ _ (lv_sub (l' := [(0, .ref h0), (2, .int 0)]) hl [1, 0] rfl) hP hD hS h
  · have h := qq_t hc h
    refine lv_iconst (v := 0) hx hb qd_Buf_passOldest_7 rfl ?_
    obtain rfl := Option.some.inj h
    exact W.zret (v := 0) hx hb hr rfl (fun t ht hW => ⟨⟨0, (), rfl, rfl, by rw [ht]; exact hP, hD⟩, hS.F ht⟩) hS.2.2 qd_Buf_passOldest_8
/-! QuietSweep$Buffer.passAll(LQuietSweep$Memory;)V -/
def qf_Buf_passAll_B2 (k2 : (Int32 × QS × QS) → Option (QS × QS)) (x2 : Int32) (s0 : QS) (s1 : QS) : Option (QS × QS) := (if (s0 3 0) ≤ x2 then (some ((qp s0 3 (fun _ => 0)), s1)) else (if (x2 < 0 ∨ 3 ≤ Int32.toNatClampNeg x2) then none else (if (x2 < 0 ∨ 3 ≤ Int32.toNatClampNeg x2) then none else (if (x2 < 0 ∨ 3 ≤ Int32.toNatClampNeg x2) then none else ((qf_Mem_put ((s0 0) (Int32.toNatClampNeg x2)) ((s0 1) (Int32.toNatClampNeg x2)) ((s0 2) (Int32.toNatClampNeg x2)) s1).bind fun q4 => (k2 ((x2 + 1), s0, q4)))))))
def qf_Buf_passAll_F2 (k2 : (Int32 × QS × QS) → Option (QS × QS)) (a : Int32 × QS × QS) : Option (QS × QS) := qf_Buf_passAll_B2 k2 a.1 a.2.1 a.2.2
def qf_Buf_passAll  (s0 : QS) (s1 : QS) : Option (QS × QS) := (qfix (qf_Buf_passAll_F2) qN (0, s0, s1))
set_option maxHeartbeats 4000000 in
set_option maxRecDepth 100000 in
theorem qm_Buf_passAll (l : Launch) (dC : Nat → ClassId) (dI : Nat → Nat → Nat) (cI cC cB cM : ClassId) (h0 : Nat) (h1 : Nat) (d0 : Nat → Nat) (d1 : Nat → Nat) (s0 : QS) (s1 : QS)  (sz : Nat) (o : QS × QS) (h : qf_Buf_passAll s0 s1 = some o) : Met l qy_Buf_passAll (ql_Buf_passAll :: qG) ({ frames := 1, cells := 0, slots := 0, locals := 23 } : Room) (qPc dC dI cI cC cB cM [.ref h0, .ref h1] sz [(h0, .inr (0, [.ref (d0 0), .ref (d0 1), .ref (d0 2), .int (s0 3 0)])), (d0 0, .inl (cI, 3, .inl (s0 0))), (d0 1, .inl (cI, 3, .inl (s0 1))), (d0 2, .inl (cI, 3, .inl (s0 2))), (h1, .inr (2, [.int (s1 0 0), .ref (d1 1), .ref (d1 2)])), (d1 1, .inl (cI, (s1 0 0).toNatClampNeg, .inl (s1 1))), (d1 2, .inl (cI, (3 * s1 0 0).toNatClampNeg, .inl (s1 2)))]) (va_Qv (fun _ : Unit => True) (fun _ t => va_P (dC, dI) qCl [(h0, .inr (0, [.ref (d0 0), .ref (d0 1), .ref (d0 2), .int (o.1 3 0)])), (d0 0, .inl (cI, 3, .inl (o.1 0))), (d0 1, .inl (cI, 3, .inl (o.1 1))), (d0 2, .inl (cI, 3, .inl (o.1 2))), (h1, .inr (2, [.int (o.2 0 0), .ref (d1 1), .ref (d1 2)])), (d1 1, .inl (cI, (o.2 0 0).toNatClampNeg, .inl (o.2 1))), (d1 2, .inl (cI, (3 * o.2 0 0).toNatClampNeg, .inl (o.2 2)))] t.heap ∧ va_D (va_A [(h0, .inr (0, [.ref (d0 0), .ref (d0 1), .ref (d0 2), .int (s0 3 0)])), (d0 0, .inl (cI, 3, .inl (s0 0))), (d0 1, .inl (cI, 3, .inl (s0 1))), (d0 2, .inl (cI, 3, .inl (s0 2))), (h1, .inr (2, [.int (s1 0 0), .ref (d1 1), .ref (d1 2)])), (d1 1, .inl (cI, (s1 0 0).toNatClampNeg, .inl (s1 1))), (d1 2, .inl (cI, (3 * s1 0 0).toNatClampNeg, .inl (s1 2)))] sz) [(h0, .inr (0, [.ref (d0 0), .ref (d0 1), .ref (d0 2), .int (o.1 3 0)])), (d0 0, .inl (cI, 3, .inl (o.1 0))), (d0 1, .inl (cI, 3, .inl (o.1 1))), (d0 2, .inl (cI, 3, .inl (o.1 2))), (h1, .inr (2, [.int (o.2 0 0), .ref (d1 1), .ref (d1 2)])), (d1 1, .inl (cI, (o.2 0 0).toNatClampNeg, .inl (o.2 1))), (d1 2, .inl (cI, (3 * o.2 0 0).toNatClampNeg, .inl (o.2 2)))]) (va_A [(h0, .inr (0, [.ref (d0 0), .ref (d0 1), .ref (d0 2), .int (s0 3 0)])), (d0 0, .inl (cI, 3, .inl (s0 0))), (d0 1, .inl (cI, 3, .inl (s0 1))), (d0 2, .inl (cI, 3, .inl (s0 2))), (h1, .inr (2, [.int (s1 0 0), .ref (d1 1), .ref (d1 2)])), (d1 1, .inl (cI, (s1 0 0).toNatClampNeg, .inl (s1 1))), (d1 2, .inl (cI, (3 * s1 0 0).toNatClampNeg, .inl (s1 2)))] sz)) 0 0 (va_A [(h0, .inr (0, [.ref (d0 0), .ref (d0 1), .ref (d0 2), .int (s0 3 0)])), (d0 0, .inl (cI, 3, .inl (s0 0))), (d0 1, .inl (cI, 3, .inl (s0 1))), (d0 2, .inl (cI, 3, .inl (s0 2))), (h1, .inr (2, [.int (s1 0 0), .ref (d1 1), .ref (d1 2)])), (d1 1, .inl (cI, (s1 0 0).toNatClampNeg, .inl (s1 1))), (d1 2, .inl (cI, (3 * s1 0 0).toNatClampNeg, .inl (s1 2)))] sz) := by
  refine Met.ofW (cc := qc_Buf_passAll) (maxL := 3) (ret := none) (by decide) rfl ?_
  intro p e s m args below meth c s₁ B hml hv
  obtain ⟨rfl, hsz, hP, hK, hD0⟩ := hv
  have hx := B.exec
  have hb := B.bytes
  have hr := B.returns
  have hts0 := atoms_spec (ws := ql_Buf_passAll :: qG) B.pre
  have hts := fun (w : Cond) (hw : w ∈ qG) => hts0 w (List.mem_cons_of_mem _ hw)
  have hown : s.vm.findClass "QuietSweep$Buffer" = some m.cls := findClass_of_methodNamed B.named
  have hlocks := B.notSynchronized
  subst hsz
  have hD := hD0.self (sz := s.heap.size)
  generalize hAe : va_A [(h0, .inr (0, [.ref (d0 0), .ref (d0 1), .ref (d0 2), .int (s0 3 0)])), (d0 0, .inl (cI, 3, .inl (s0 0))), (d0 1, .inl (cI, 3, .inl (s0 1))), (d0 2, .inl (cI, 3, .inl (s0 2))), (h1, .inr (2, [.int (s1 0 0), .ref (d1 1), .ref (d1 2)])), (d1 1, .inl (cI, (s1 0 0).toNatClampNeg, .inl (s1 1))), (d1 2, .inl (cI, (3 * s1 0 0).toNatClampNeg, .inl (s1 2)))] s.heap.size = A at hD ⊢
  have hA : ∀ q : Nat, s.heap.size ≤ q → A q := fun q h => by rw [← hAe]; exact Or.inr h
  have hS : va_S A s.heap s.heap [] := va_S.rf
  have hl := lv_entry ([.ref h0, .ref h1]) (n := 3) (Nat.le_of_ble_eq_true rfl)
  rw [lg_entry_eq]
  generalize (lg_sl ([.ref h0, .ref h1]) ++ List.replicate (3 - (lg_sl ([.ref h0, .ref h1])).length) Slot.unset).toArray = ls at hl ⊢
  have hl : lv_has ls 3 [(0, .ref h0), (1, .ref h1)] := hl
  have L2 : ∀ (n : Nat) (x2 : Int32) (s0 : QS) (s1 : QS) (H : Heap) (locs : List Loc) (ls : Array Slot), lv_has ls 3 [(0, .ref h0), (1, .ref h1), (2, .int x2)] → va_P (dC, dI) qCl [(h0, .inr (0, [.ref (d0 0), .ref (d0 1), .ref (d0 2), .int (s0 3 0)])), (d0 0, .inl (cI, 3, .inl (s0 0))), (d0 1, .inl (cI, 3, .inl (s0 1))), (d0 2, .inl (cI, 3, .inl (s0 2))), (h1, .inr (2, [.int (s1 0 0), .ref (d1 1), .ref (d1 2)])), (d1 1, .inl (cI, (s1 0 0).toNatClampNeg, .inl (s1 1))), (d1 2, .inl (cI, (3 * s1 0 0).toNatClampNeg, .inl (s1 2)))] H → va_D A [(h0, .inr (0, [.ref (d0 0), .ref (d0 1), .ref (d0 2), .int (s0 3 0)])), (d0 0, .inl (cI, 3, .inl (s0 0))), (d0 1, .inl (cI, 3, .inl (s0 1))), (d0 2, .inl (cI, 3, .inl (s0 2))), (h1, .inr (2, [.int (s1 0 0), .ref (d1 1), .ref (d1 2)])), (d1 1, .inl (cI, (s1 0 0).toNatClampNeg, .inl (s1 1))), (d1 2, .inl (cI, (3 * s1 0 0).toNatClampNeg, .inl (s1 2)))] → va_S A s.heap H locs → qfix (qf_Buf_passAll_F2) n (x2, s0, s1) = some o → W p l e (headSpec (ql_Buf_passAll :: qG) ({ frames := 1, cells := 0, slots := 0, locals := 23 } : Room)).room s m ([.ref h0, .ref h1] : List Value).toArray below meth c H locs 0 0 (MQ below (va_Qv (fun _ : Unit => True) (fun _ t => va_P (dC, dI) qCl [(h0, .inr (0, [.ref (d0 0), .ref (d0 1), .ref (d0 2), .int (o.1 3 0)])), (d0 0, .inl (cI, 3, .inl (o.1 0))), (d0 1, .inl (cI, 3, .inl (o.1 1))), (d0 2, .inl (cI, 3, .inl (o.1 2))), (h1, .inr (2, [.int (o.2 0 0), .ref (d1 1), .ref (d1 2)])), (d1 1, .inl (cI, (o.2 0 0).toNatClampNeg, .inl (o.2 1))), (d1 2, .inl (cI, (3 * o.2 0 0).toNatClampNeg, .inl (o.2 2)))] t.heap ∧ va_D A [(h0, .inr (0, [.ref (d0 0), .ref (d0 1), .ref (d0 2), .int (o.1 3 0)])), (d0 0, .inl (cI, 3, .inl (o.1 0))), (d0 1, .inl (cI, 3, .inl (o.1 1))), (d0 2, .inl (cI, 3, .inl (o.1 2))), (h1, .inr (2, [.int (o.2 0 0), .ref (d1 1), .ref (d1 2)])), (d1 1, .inl (cI, (o.2 0 0).toNatClampNeg, .inl (o.2 1))), (d1 2, .inl (cI, (3 * o.2 0 0).toNatClampNeg, .inl (o.2 2)))]) A) ([.ref h0, .ref h1] : List Value).toArray s 0 0 A) (F0 m 2 ls []) := by
    intro n
    induction n with
    | zero => intro x2 s0 s1 H locs ls hl hP hD hS h; cases (show (none : Option (QS × QS)) = some o from h)
    | succ n2 ih2 =>
      intro x2 s0 s1 H locs ls hl hP hD hS h
      have h : qf_Buf_passAll_B2 (qfix (qf_Buf_passAll_F2) n2) x2 s0 s1 = some o := h
      unfold qf_Buf_passAll_B2 at h
      refine lv_iload_n hx hb qd_Buf_passAll_2 rfl (lv_at hl 2 rfl) ?_
      refine lv_aload_n hx hb qd_Buf_passAll_3 rfl (lv_at hl 0 rfl) ?_
      refine va_get (D := (dC, dI)) (ci := 0) (v := .int (s0 3 0)) (C := "QuietSweep$Buffer") (T := qT_Buf) (N := 4) hx hb hts qi_Buf hown hK.1 hP 0 rfl rfl 3 (by decide) (hts _ qw_96) (fun _ h9 => h9) rfl qd_Buf_passAll_4 ?_
      refine lv_icmp_ge hx hb qd_Buf_passAll_7 (tgt := 38) (by decide) (fun hc => ?_) (fun hc => ?_)
      · have h := qq_t hc h
        refine lv_aload_n hx hb qd_Buf_passAll_38 rfl (lv_at hl 0 rfl) ?_
        refine lv_iconst (v := 0) hx hb qd_Buf_passAll_39 rfl ?_
        refine va_put (D := (dC, dI)) (ci := 0) (v := .int 0) (ty := .int) (C := "QuietSweep$Buffer") (T := qT_Buf) (N := 4) hx hb hts qi_Buf qt_Buf qo_Buf qn_Buf hown hK.1 hP hD hS 0 rfl rfl 3 (by decide) (hts _ qw_96) (fun _ h9 => h9) rfl (qo_Buf 3 (by decide)) rfl rfl (Nat.le_of_ble_eq_true rfl) qd_Buf_passAll_40 (fun H locs hP hD hS => ?_)
        have hP : va_P (dC, dI) qCl [(h0, .inr (0, [.ref (d0 0), .ref (d0 1), .ref (d0 2), .int 0])), (d0 0, .inl (cI, 3, .inl (s0 0))), (d0 1, .inl (cI, 3, .inl (s0 1))), (d0 2, .inl (cI, 3, .inl (s0 2))), (h1, .inr (2, [.int (s1 0 0), .ref (d1 1), .ref (d1 2)])), (d1 1, .inl (cI, (s1 0 0).toNatClampNeg, .inl (s1 1))), (d1 2, .inl (cI, (3 * s1 0 0).toNatClampNeg, .inl (s1 2)))] _ := hP
        have hD : va_D A [(h0, .inr (0, [.ref (d0 0), .ref (d0 1), .ref (d0 2), .int 0])), (d0 0, .inl (cI, 3, .inl (s0 0))), (d0 1, .inl (cI, 3, .inl (s0 1))), (d0 2, .inl (cI, 3, .inl (s0 2))), (h1, .inr (2, [.int (s1 0 0), .ref (d1 1), .ref (d1 2)])), (d1 1, .inl (cI, (s1 0 0).toNatClampNeg, .inl (s1 1))), (d1 2, .inl (cI, (3 * s1 0 0).toNatClampNeg, .inl (s1 2)))] := hD
        obtain rfl := Option.some.inj h
        exact W.vret hx hb hr (fun t ht hW => ⟨⟨(), rfl, trivial, by rw [ht]; exact hP, hD⟩, hS.F ht⟩) hS.2.2 qd_Buf_passAll_43
      · have h := qq_f hc h
        refine lv_aload_n hx hb qd_Buf_passAll_10 rfl (lv_at hl 1 rfl) ?_
        refine lv_aload_n hx hb qd_Buf_passAll_11 rfl (lv_at hl 0 rfl) ?_
        refine va_get (D := (dC, dI)) (ci := 0) (v := .ref (d0 0)) (C := "QuietSweep$Buffer") (T := qT_Buf) (N := 4) hx hb hts qi_Buf hown hK.1 hP 0 rfl rfl 0 (by decide) (hts _ qw_93) (fun _ h9 => h9) rfl qd_Buf_passAll_12 ?_
        refine lv_iload_n hx hb qd_Buf_passAll_15 rfl (lv_at hl 2 rfl) ?_
        obtain ⟨hb1, h⟩ := qq_n h
        refine va_iald hx hb hK.1 hP 1 0 rfl rfl hb1 qd_Buf_passAll_16 ?_
        refine lv_aload_n hx hb qd_Buf_passAll_17 rfl (lv_at hl 0 rfl) ?_
        refine va_get (D := (dC, dI)) (ci := 0) (v := .ref (d0 1)) (C := "QuietSweep$Buffer") (T := qT_Buf) (N := 4) hx hb hts qi_Buf hown hK.1 hP 0 rfl rfl 1 (by decide) (hts _ qw_94) (fun _ h9 => h9) rfl qd_Buf_passAll_18 ?_
        refine lv_iload_n hx hb qd_Buf_passAll_21 rfl (lv_at hl 2 rfl) ?_
        obtain ⟨hb2, h⟩ := qq_n h
        refine va_iald hx hb hK.1 hP 2 0 rfl rfl hb2 qd_Buf_passAll_22 ?_
        refine lv_aload_n hx hb qd_Buf_passAll_23 rfl (lv_at hl 0 rfl) ?_
        refine va_get (D := (dC, dI)) (ci := 0) (v := .ref (d0 2)) (C := "QuietSweep$Buffer") (T := qT_Buf) (N := 4) hx hb hts qi_Buf hown hK.1 hP 0 rfl rfl 2 (by decide) (hts _ qw_95) (fun _ h9 => h9) rfl qd_Buf_passAll_24 ?_
        refine lv_iload_n hx hb qd_Buf_passAll_27 rfl (lv_at hl 2 rfl) ?_
        obtain ⟨hb3, h⟩ := qq_n h
        refine va_iald hx hb hK.1 hP 3 0 rfl rfl hb3 qd_Buf_passAll_28 ?_
        obtain ⟨q4, hq4, h⟩ := qq_b h
        have hPc := hP.sub (ws' := [(h1, .inr (2, [.int (s1 0 0), .ref (d1 1), .ref (d1 2)])), (d1 1, .inl (cI, (s1 0 0).toNatClampNeg, .inl (s1 1))), (d1 2, .inl (cI, (3 * s1 0 0).toNatClampNeg, .inl (s1 2)))]) [4, 5, 6] rfl
        have hDc := hD.sub (ws' := [(h1, .inr (2, [.int (s1 0 0), .ref (d1 1), .ref (d1 2)])), (d1 1, .inl (cI, (s1 0 0).toNatClampNeg, .inl (s1 1))), (d1 2, .inl (cI, (3 * s1 0 0).toNatClampNeg, .inl (s1 2)))]) [4, 5, 6] (by decide) rfl
        have hFc := va_free (wc := [(h1, .inr (2, [.int (s1 0 0), .ref (d1 1), .ref (d1 2)])), (d1 1, .inl (cI, (s1 0 0).toNatClampNeg, .inl (s1 1))), (d1 2, .inl (cI, (3 * s1 0 0).toNatClampNeg, .inl (s1 2)))]) hD hS hA [4, 5, 6] rfl
        refine va_callv (va_runV (As := [.int ((s0 0) (Int32.toNatClampNeg x2)), .int ((s0 1) (Int32.toNatClampNeg x2)), .int ((s0 2) (Int32.toNatClampNeg x2))]) (rest := []) ⟨hx, hb, hml, hown, hts⟩ (qm_Mem_put l dC dI cI cC cB cM h1 d1 s1 ((s0 0) (Int32.toNatClampNeg x2)) ((s0 1) (Int32.toNatClampNeg x2)) ((s0 2) (Int32.toNatClampNeg x2)) _ q4 hq4) (q_CW hts qw_394 qw_64 qw_65 qw_3 qw_66 qh_Mem_put rfl rfl ⟨by decide, by decide⟩) (q_preV [.int ((s0 0) (Int32.toNatClampNeg x2)), .int ((s0 1) (Int32.toNatClampNeg x2)), .int ((s0 2) (Int32.toNatClampNeg x2))] 0 rfl rfl hK hPc hDc) rfl rfl hl.1 rfl (lv_room (Nat.le_of_ble_eq_true rfl)) qd_Buf_passAll_29 ⟨Nat.zero_le _, Nat.zero_le _⟩) hS (fun q _ h => hFc q h) hFc (fun u t H1 locs ht hvm hw hB hz1 hk1 hS => ?_)
        obtain ⟨hP1, hD1⟩ := hB
        rw [ht] at hP1
        obtain ⟨hP, hD⟩ := va_join (wr := [(h0, .inr (0, [.ref (d0 0), .ref (d0 1), .ref (d0 2), .int (s0 3 0)])), (d0 0, .inl (cI, 3, .inl (s0 0))), (d0 1, .inl (cI, 3, .inl (s0 1))), (d0 2, .inl (cI, 3, .inl (s0 2)))]) (w1 := [(h1, .inr (2, [.int (q4 0 0), .ref (d1 1), .ref (d1 2)])), (d1 1, .inl (cI, (q4 0 0).toNatClampNeg, .inl (q4 1))), (d1 2, .inl (cI, (3 * q4 0 0).toNatClampNeg, .inl (q4 2)))]) hP hD [4, 5, 6] [0, 1, 2, 3] rfl rfl (by decide) (by decide) hk1 hFc hP1 hD1
        have hP := hP.sub (ws' := [(h0, .inr (0, [.ref (d0 0), .ref (d0 1), .ref (d0 2), .int (s0 3 0)])), (d0 0, .inl (cI, 3, .inl (s0 0))), (d0 1, .inl (cI, 3, .inl (s0 1))), (d0 2, .inl (cI, 3, .inl (s0 2))), (h1, .inr (2, [.int (q4 0 0), .ref (d1 1), .ref (d1 2)])), (d1 1, .inl (cI, (q4 0 0).toNatClampNeg, .inl (q4 1))), (d1 2, .inl (cI, (3 * q4 0 0).toNatClampNeg, .inl (q4 2)))]) [0, 1, 2, 3, 4, 5, 6] rfl
        have hD := hD.sub (ws' := [(h0, .inr (0, [.ref (d0 0), .ref (d0 1), .ref (d0 2), .int (s0 3 0)])), (d0 0, .inl (cI, 3, .inl (s0 0))), (d0 1, .inl (cI, 3, .inl (s0 1))), (d0 2, .inl (cI, 3, .inl (s0 2))), (h1, .inr (2, [.int (q4 0 0), .ref (d1 1), .ref (d1 2)])), (d1 1, .inl (cI, (q4 0 0).toNatClampNeg, .inl (q4 1))), (d1 2, .inl (cI, (3 * q4 0 0).toNatClampNeg, .inl (q4 2)))]) [0, 1, 2, 3, 4, 5, 6] (by decide) rfl
        refine lv_iinc (k := 2) (v := (x2 + 1)) (lv' := [(2, .int (x2 + 1)), (0, .ref h0), (1, .ref h1)]) hx hb qd_Buf_passAll_32 hl rfl (congrArg (fun z : Int32 => x2 + z) (show Int32.ofInt 1 = 1 by decide)) (by decide) rfl (fun ls hl => ?_)
        refine lv_goto hx hb qd_Buf_passAll_35 (tgt := 2) (by decide) ?_
        exact ih2 (x2 + 1) s0 q4 _ _ _ (lv_sub (l' := [(0, .ref h0), (1, .ref h1), (2, .int (x2 + 1))]) hl [1, 2, 0] rfl) hP hD hS h
  unfold qf_Buf_passAll at h
  refine lv_iconst (v := 0) hx hb qd_Buf_passAll_0 rfl ?_
  refine lv_istore_n (lv' := [(2, .int 0), (0, .ref h0), (1, .ref h1)]) hx hb qd_Buf_passAll_1 rfl hl (by decide) rfl (fun ls hl => ?_)
  exact L2 qN 0 s0 s1 _ _ _ (lv_sub (l' := [(0, .ref h0), (1, .ref h1), (2, .int 0)]) hl [1, 2, 0] rfl) hP hD hS h
/-! QuietSweep$Buffer.rootSet()I -/
def qf_Buf_rootSet_B4 (k4 : (Int32 × Int32 × QS) → Option (Int32)) (x1 : Int32) (x2 : Int32) (s0 : QS) : Option (Int32) := (if (s0 3 0) ≤ x2 then (some x1) else (if (x2 < 0 ∨ 3 ≤ Int32.toNatClampNeg x2) then none else ((qf_Qs_setOf ((s0 0) (Int32.toNatClampNeg x2))).bind fun q2 => (if (x2 < 0 ∨ 3 ≤ Int32.toNatClampNeg x2) then none else (if ((s0 1) (Int32.toNatClampNeg x2)) = 2 then (k4 ((x1 ||| q2), (x2 + 1), s0)) else (if (x2 < 0 ∨ 3 ≤ Int32.toNatClampNeg x2) then none else ((qf_Qs_setOf ((s0 2) (Int32.toNatClampNeg x2))).bind fun q5 => (k4 (((x1 ||| q2) ||| q5), (x2 + 1), s0)))))))))
def qf_Buf_rootSet_F4 (k4 : (Int32 × Int32 × QS) → Option (Int32)) (a : Int32 × Int32 × QS) : Option (Int32) := qf_Buf_rootSet_B4 k4 a.1 a.2.1 a.2.2
def qf_Buf_rootSet  (s0 : QS) : Option (Int32) := (qfix (qf_Buf_rootSet_F4) qN (0, 0, s0))
set_option maxHeartbeats 4000000 in
set_option maxRecDepth 100000 in
theorem qm_Buf_rootSet (l : Launch) (dC : Nat → ClassId) (dI : Nat → Nat → Nat) (cI cC cB cM : ClassId) (h0 : Nat) (d0 : Nat → Nat) (s0 : QS)  (sz : Nat) (o : Int32) (h : qf_Buf_rootSet s0 = some o) : Met l qy_Buf_rootSet (ql_Buf_rootSet :: qG) ({ frames := 1, cells := 0, slots := 0, locals := 20 } : Room) (qPc dC dI cI cC cB cM [.ref h0] sz [(h0, .inr (0, [.ref (d0 0), .ref (d0 1), .ref (d0 2), .int (s0 3 0)])), (d0 0, .inl (cI, 3, .inl (s0 0))), (d0 1, .inl (cI, 3, .inl (s0 1))), (d0 2, .inl (cI, 3, .inl (s0 2)))]) (va_Qi (fun r (_ : Unit) => r = o) (fun _ t => va_P (dC, dI) qCl [(h0, .inr (0, [.ref (d0 0), .ref (d0 1), .ref (d0 2), .int (s0 3 0)])), (d0 0, .inl (cI, 3, .inl (s0 0))), (d0 1, .inl (cI, 3, .inl (s0 1))), (d0 2, .inl (cI, 3, .inl (s0 2)))] t.heap ∧ va_D (va_A [(h0, .inr (0, [.ref (d0 0), .ref (d0 1), .ref (d0 2), .int (s0 3 0)])), (d0 0, .inl (cI, 3, .inl (s0 0))), (d0 1, .inl (cI, 3, .inl (s0 1))), (d0 2, .inl (cI, 3, .inl (s0 2)))] sz) [(h0, .inr (0, [.ref (d0 0), .ref (d0 1), .ref (d0 2), .int (s0 3 0)])), (d0 0, .inl (cI, 3, .inl (s0 0))), (d0 1, .inl (cI, 3, .inl (s0 1))), (d0 2, .inl (cI, 3, .inl (s0 2)))]) (va_A [(h0, .inr (0, [.ref (d0 0), .ref (d0 1), .ref (d0 2), .int (s0 3 0)])), (d0 0, .inl (cI, 3, .inl (s0 0))), (d0 1, .inl (cI, 3, .inl (s0 1))), (d0 2, .inl (cI, 3, .inl (s0 2)))] sz)) 0 0 (va_A [(h0, .inr (0, [.ref (d0 0), .ref (d0 1), .ref (d0 2), .int (s0 3 0)])), (d0 0, .inl (cI, 3, .inl (s0 0))), (d0 1, .inl (cI, 3, .inl (s0 1))), (d0 2, .inl (cI, 3, .inl (s0 2)))] sz) := by
  refine Met.ofW (cc := qc_Buf_rootSet) (maxL := 3) (ret := (some .int)) (by decide) rfl ?_
  intro p e s m args below meth c s₁ B hml hv
  obtain ⟨rfl, hsz, hP, hK, hD0⟩ := hv
  have hx := B.exec
  have hb := B.bytes
  have hr := B.returns
  have hts0 := atoms_spec (ws := ql_Buf_rootSet :: qG) B.pre
  have hts := fun (w : Cond) (hw : w ∈ qG) => hts0 w (List.mem_cons_of_mem _ hw)
  have hown : s.vm.findClass "QuietSweep$Buffer" = some m.cls := findClass_of_methodNamed B.named
  have hlocks := B.notSynchronized
  subst hsz
  have hD := hD0.self (sz := s.heap.size)
  generalize hAe : va_A [(h0, .inr (0, [.ref (d0 0), .ref (d0 1), .ref (d0 2), .int (s0 3 0)])), (d0 0, .inl (cI, 3, .inl (s0 0))), (d0 1, .inl (cI, 3, .inl (s0 1))), (d0 2, .inl (cI, 3, .inl (s0 2)))] s.heap.size = A at hD ⊢
  have hA : ∀ q : Nat, s.heap.size ≤ q → A q := fun q h => by rw [← hAe]; exact Or.inr h
  have hS : va_S A s.heap s.heap [] := va_S.rf
  have hl := lv_entry ([.ref h0]) (n := 3) (Nat.le_of_ble_eq_true rfl)
  rw [lg_entry_eq]
  generalize (lg_sl ([.ref h0]) ++ List.replicate (3 - (lg_sl ([.ref h0])).length) Slot.unset).toArray = ls at hl ⊢
  have hl : lv_has ls 3 [(0, .ref h0)] := hl
  have L4 : ∀ (n : Nat) (x1 : Int32) (x2 : Int32) (s0 : QS) (H : Heap) (locs : List Loc) (ls : Array Slot), lv_has ls 3 [(0, .ref h0), (1, .int x1), (2, .int x2)] → va_P (dC, dI) qCl [(h0, .inr (0, [.ref (d0 0), .ref (d0 1), .ref (d0 2), .int (s0 3 0)])), (d0 0, .inl (cI, 3, .inl (s0 0))), (d0 1, .inl (cI, 3, .inl (s0 1))), (d0 2, .inl (cI, 3, .inl (s0 2)))] H → va_D A [(h0, .inr (0, [.ref (d0 0), .ref (d0 1), .ref (d0 2), .int (s0 3 0)])), (d0 0, .inl (cI, 3, .inl (s0 0))), (d0 1, .inl (cI, 3, .inl (s0 1))), (d0 2, .inl (cI, 3, .inl (s0 2)))] → va_S A s.heap H locs → qfix (qf_Buf_rootSet_F4) n (x1, x2, s0) = some o → W p l e (headSpec (ql_Buf_rootSet :: qG) ({ frames := 1, cells := 0, slots := 0, locals := 20 } : Room)).room s m ([.ref h0] : List Value).toArray below meth c H locs 0 0 (MQ below (va_Qi (fun r (_ : Unit) => r = o) (fun _ t => va_P (dC, dI) qCl [(h0, .inr (0, [.ref (d0 0), .ref (d0 1), .ref (d0 2), .int (s0 3 0)])), (d0 0, .inl (cI, 3, .inl (s0 0))), (d0 1, .inl (cI, 3, .inl (s0 1))), (d0 2, .inl (cI, 3, .inl (s0 2)))] t.heap ∧ va_D A [(h0, .inr (0, [.ref (d0 0), .ref (d0 1), .ref (d0 2), .int (s0 3 0)])), (d0 0, .inl (cI, 3, .inl (s0 0))), (d0 1, .inl (cI, 3, .inl (s0 1))), (d0 2, .inl (cI, 3, .inl (s0 2)))]) A) ([.ref h0] : List Value).toArray s 0 0 A) (F0 m 4 ls []) := by
    intro n
    induction n with
    | zero => intro x1 x2 s0 H locs ls hl hP hD hS h; cases (show (none : Option (Int32)) = some o from h)
    | succ n4 ih4 =>
      intro x1 x2 s0 H locs ls hl hP hD hS h
      have h : qf_Buf_rootSet_B4 (qfix (qf_Buf_rootSet_F4) n4) x1 x2 s0 = some o := h
      unfold qf_Buf_rootSet_B4 at h
      refine lv_iload_n hx hb qd_Buf_rootSet_4 rfl (lv_at hl 2 rfl) ?_
      refine lv_aload_n hx hb qd_Buf_rootSet_5 rfl (lv_at hl 0 rfl) ?_
      refine va_get (D := (dC, dI)) (ci := 0) (v := .int (s0 3 0)) (C := "QuietSweep$Buffer") (T := qT_Buf) (N := 4) hx hb hts qi_Buf hown hK.1 hP 0 rfl rfl 3 (by decide) (hts _ qw_96) (fun _ h9 => h9) rfl qd_Buf_rootSet_6 ?_
      refine lv_icmp_ge hx hb qd_Buf_rootSet_9 (tgt := 52) (by decide) (fun hc => ?_) (fun hc => ?_)
      · have h := qq_t hc h
        refine lv_iload_n hx hb qd_Buf_rootSet_52 rfl (lv_at hl 1 rfl) ?_
        obtain rfl := Option.some.inj h
        exact W.iret (v := x1) hx hb hr (fun t ht hW => ⟨⟨x1, (), rfl, rfl, by rw [ht]; exact hP, hD⟩, hS.F ht⟩) hS.2.2 qd_Buf_rootSet_53
      · have h := qq_f hc h
        refine lv_iload_n hx hb qd_Buf_rootSet_12 rfl (lv_at hl 1 rfl) ?_
        refine lv_aload_n hx hb qd_Buf_rootSet_13 rfl (lv_at hl 0 rfl) ?_
        refine va_get (D := (dC, dI)) (ci := 0) (v := .ref (d0 0)) (C := "QuietSweep$Buffer") (T := qT_Buf) (N := 4) hx hb hts qi_Buf hown hK.1 hP 0 rfl rfl 0 (by decide) (hts _ qw_93) (fun _ h9 => h9) rfl qd_Buf_rootSet_14 ?_
        refine lv_iload_n hx hb qd_Buf_rootSet_17 rfl (lv_at hl 2 rfl) ?_
        obtain ⟨hb1, h⟩ := qq_n h
        refine va_iald hx hb hK.1 hP 1 0 rfl rfl hb1 qd_Buf_rootSet_18 ?_
        obtain ⟨q2, hq2, h⟩ := qq_b h
        have hPc := hP.sub (ws' := []) [] rfl
        have hDc := hD.sub (ws' := []) [] (by decide) rfl
        have hFc := va_free (wc := []) hD hS hA [] rfl
        refine va_calli (va_runSN (As := [.int ((s0 0) (Int32.toNatClampNeg x2))]) (rest := [.int x1]) ⟨hx, hb, hml, hown, hts⟩ (qm_Qs_setOf l dC dI cI cC cB cM ((s0 0) (Int32.toNatClampNeg x2)) _ q2 hq2) ⟨q_CN hts hK.2 qu_532 qw_1 qw_534 qh_Qs_setOf rfl rfl ⟨by decide, by decide⟩, hts _ qw_533, trivial⟩ (q_preS [.int ((s0 0) (Int32.toNatClampNeg x2))] hK hPc hDc) rfl rfl hl.1 rfl (lv_room (Nat.le_of_ble_eq_true rfl)) qd_Buf_rootSet_19 ⟨Nat.zero_le _, Nat.zero_le _⟩) hS (fun q _ h => hFc q h) hFc (fun r u t H1 locs ht hvm hw hB hz1 hk1 hS => ?_)
        have hw : q2 = r := Eq.symm hw
        subst hw
        obtain ⟨hP1, hD1⟩ := hB
        rw [ht] at hP1
        obtain ⟨hP, hD⟩ := va_join (wr := [(h0, .inr (0, [.ref (d0 0), .ref (d0 1), .ref (d0 2), .int (s0 3 0)])), (d0 0, .inl (cI, 3, .inl (s0 0))), (d0 1, .inl (cI, 3, .inl (s0 1))), (d0 2, .inl (cI, 3, .inl (s0 2)))]) (w1 := []) hP hD [] [0, 1, 2, 3] rfl rfl (by decide) (by decide) hk1 hFc hP1 hD1
        have hP := hP.sub (ws' := [(h0, .inr (0, [.ref (d0 0), .ref (d0 1), .ref (d0 2), .int (s0 3 0)])), (d0 0, .inl (cI, 3, .inl (s0 0))), (d0 1, .inl (cI, 3, .inl (s0 1))), (d0 2, .inl (cI, 3, .inl (s0 2)))]) [0, 1, 2, 3] rfl
        have hD := hD.sub (ws' := [(h0, .inr (0, [.ref (d0 0), .ref (d0 1), .ref (d0 2), .int (s0 3 0)])), (d0 0, .inl (cI, 3, .inl (s0 0))), (d0 1, .inl (cI, 3, .inl (s0 1))), (d0 2, .inl (cI, 3, .inl (s0 2)))]) [0, 1, 2, 3] (by decide) rfl
        refine lv_ior hx hb qd_Buf_rootSet_22 ?_
        refine lv_istore_n (lv' := [(1, .int (x1 ||| q2)), (0, .ref h0), (2, .int x2)]) hx hb qd_Buf_rootSet_23 rfl hl (by decide) rfl (fun ls hl => ?_)
        refine lv_aload_n hx hb qd_Buf_rootSet_24 rfl (lv_at hl 1 rfl) ?_
        refine va_get (D := (dC, dI)) (ci := 0) (v := .ref (d0 1)) (C := "QuietSweep$Buffer") (T := qT_Buf) (N := 4) hx hb hts qi_Buf hown hK.1 hP 0 rfl rfl 1 (by decide) (hts _ qw_94) (fun _ h9 => h9) rfl qd_Buf_rootSet_25 ?_
        refine lv_iload_n hx hb qd_Buf_rootSet_28 rfl (lv_at hl 2 rfl) ?_
        obtain ⟨hb3, h⟩ := qq_n h
        refine va_iald hx hb hK.1 hP 2 0 rfl rfl hb3 qd_Buf_rootSet_29 ?_
        refine lv_iconst (v := 2) hx hb qd_Buf_rootSet_30 rfl ?_
        refine lv_icmp_eq hx hb qd_Buf_rootSet_31 (tgt := 46) (by decide) (fun hc => ?_) (fun hc => ?_)
        · have h := qq_t hc h
          refine lv_iinc (k := 2) (v := (x2 + 1)) (lv' := [(2, .int (x2 + 1)), (1, .int (x1 ||| q2)), (0, .ref h0)]) hx hb qd_Buf_rootSet_46 hl rfl (congrArg (fun z : Int32 => x2 + z) (show Int32.ofInt 1 = 1 by decide)) (by decide) rfl (fun ls hl => ?_)
          refine lv_goto hx hb qd_Buf_rootSet_49 (tgt := 4) (by decide) ?_
          exact ih4 (x1 ||| q2) (x2 + 1) s0 _ _ _ (lv_sub (l' := [(0, .ref h0), (1, .int (x1 ||| q2)), (2, .int (x2 + 1))]) hl [2, 1, 0] rfl) hP hD hS h
        · have h := qq_f hc h
          refine lv_iload_n hx hb qd_Buf_rootSet_34 rfl (lv_at hl 0 rfl) ?_
          refine lv_aload_n hx hb qd_Buf_rootSet_35 rfl (lv_at hl 1 rfl) ?_
          refine va_get (D := (dC, dI)) (ci := 0) (v := .ref (d0 2)) (C := "QuietSweep$Buffer") (T := qT_Buf) (N := 4) hx hb hts qi_Buf hown hK.1 hP 0 rfl rfl 2 (by decide) (hts _ qw_95) (fun _ h9 => h9) rfl qd_Buf_rootSet_36 ?_
          refine lv_iload_n hx hb qd_Buf_rootSet_39 rfl (lv_at hl 2 rfl) ?_
          obtain ⟨hb4, h⟩ := qq_n h
          refine va_iald hx hb hK.1 hP 3 0 rfl rfl hb4 qd_Buf_rootSet_40 ?_
          obtain ⟨q5, hq5, h⟩ := qq_b h
          have hPc := hP.sub (ws' := []) [] rfl
          have hDc := hD.sub (ws' := []) [] (by decide) rfl
          have hFc := va_free (wc := []) hD hS hA [] rfl
          refine va_calli (va_runSN (As := [.int ((s0 2) (Int32.toNatClampNeg x2))]) (rest := [.int (x1 ||| q2)]) ⟨hx, hb, hml, hown, hts⟩ (qm_Qs_setOf l dC dI cI cC cB cM ((s0 2) (Int32.toNatClampNeg x2)) _ q5 hq5) ⟨q_CN hts hK.2 qu_532 qw_1 qw_534 qh_Qs_setOf rfl rfl ⟨by decide, by decide⟩, hts _ qw_533, trivial⟩ (q_preS [.int ((s0 2) (Int32.toNatClampNeg x2))] hK hPc hDc) rfl rfl hl.1 rfl (lv_room (Nat.le_of_ble_eq_true rfl)) qd_Buf_rootSet_41 ⟨Nat.zero_le _, Nat.zero_le _⟩) hS (fun q _ h => hFc q h) hFc (fun r u t H1 locs ht hvm hw hB hz1 hk1 hS => ?_)
          have hw : q5 = r := Eq.symm hw
          subst hw
          obtain ⟨hP1, hD1⟩ := hB
          rw [ht] at hP1
          obtain ⟨hP, hD⟩ := va_join (wr := [(h0, .inr (0, [.ref (d0 0), .ref (d0 1), .ref (d0 2), .int (s0 3 0)])), (d0 0, .inl (cI, 3, .inl (s0 0))), (d0 1, .inl (cI, 3, .inl (s0 1))), (d0 2, .inl (cI, 3, .inl (s0 2)))]) (w1 := []) hP hD [] [0, 1, 2, 3] rfl rfl (by decide) (by decide) hk1 hFc hP1 hD1
          have hP := hP.sub (ws' := [(h0, .inr (0, [.ref (d0 0), .ref (d0 1), .ref (d0 2), .int (s0 3 0)])), (d0 0, .inl (cI, 3, .inl (s0 0))), (d0 1, .inl (cI, 3, .inl (s0 1))), (d0 2, .inl (cI, 3, .inl (s0 2)))]) [0, 1, 2, 3] rfl
          have hD := hD.sub (ws' := [(h0, .inr (0, [.ref (d0 0), .ref (d0 1), .ref (d0 2), .int (s0 3 0)])), (d0 0, .inl (cI, 3, .inl (s0 0))), (d0 1, .inl (cI, 3, .inl (s0 1))), (d0 2, .inl (cI, 3, .inl (s0 2)))]) [0, 1, 2, 3] (by decide) rfl
          refine lv_ior hx hb qd_Buf_rootSet_44 ?_
          refine lv_istore_n (lv' := [(1, .int ((x1 ||| q2) ||| q5)), (0, .ref h0), (2, .int x2)]) hx hb qd_Buf_rootSet_45 rfl hl (by decide) rfl (fun ls hl => ?_)
          refine lv_iinc (k := 2) (v := (x2 + 1)) (lv' := [(2, .int (x2 + 1)), (1, .int ((x1 ||| q2) ||| q5)), (0, .ref h0)]) hx hb qd_Buf_rootSet_46 hl rfl (congrArg (fun z : Int32 => x2 + z) (show Int32.ofInt 1 = 1 by decide)) (by decide) rfl (fun ls hl => ?_)
          refine lv_goto hx hb qd_Buf_rootSet_49 (tgt := 4) (by decide) ?_
          exact ih4 ((x1 ||| q2) ||| q5) (x2 + 1) s0 _ _ _ (lv_sub (l' := [(0, .ref h0), (1, .int ((x1 ||| q2) ||| q5)), (2, .int (x2 + 1))]) hl [2, 1, 0] rfl) hP hD hS h
  unfold qf_Buf_rootSet at h
  refine lv_iconst (v := 0) hx hb qd_Buf_rootSet_0 rfl ?_
  refine lv_istore_n (lv' := [(1, .int 0), (0, .ref h0)]) hx hb qd_Buf_rootSet_1 rfl hl (by decide) rfl (fun ls hl => ?_)
  refine lv_iconst (v := 0) hx hb qd_Buf_rootSet_2 rfl ?_
  refine lv_istore_n (lv' := [(2, .int 0), (1, .int 0), (0, .ref h0)]) hx hb qd_Buf_rootSet_3 rfl hl (by decide) rfl (fun ls hl => ?_)
  exact L4 qN 0 0 s0 _ _ _ (lv_sub (l' := [(0, .ref h0), (1, .int 0), (2, .int 0)]) hl [2, 1, 0] rfl) hP hD hS h
