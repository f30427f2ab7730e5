/-! java/lang/Math.floorMod(II)I -/
def qf_Jmat_floorMod (a1 : Int32) (a2 : Int32)  : Option (Int32) := (if a2 = 0 then none else (if 0 ≤ (a1 ^^^ a2) then (some (a1 - a1 / a2 * a2)) else (if (a1 - a1 / a2 * a2) = 0 then (some (a1 - a1 / a2 * a2)) else (some ((a1 - a1 / a2 * a2) + a2)))))
set_option maxHeartbeats 4000000 in
set_option maxRecDepth 100000 in
theorem qm_Jmat_floorMod (l : Launch) (dC : Nat → ClassId) (dI : Nat → Nat → Nat) (cI cC cB cM : ClassId)    (a1 : Int32) (a2 : Int32) (sz : Nat) (o : Int32) (h : qf_Jmat_floorMod a1 a2 = some o) : Met l qy_Jmat_floorMod (ql_Jmat_floorMod :: qG) ({ frames := 0, cells := 0, slots := 0, locals := 0 } : Room) (qPc dC dI cI cC cB cM [.int a1, .int a2] sz []) (va_Qi (fun r (_ : Unit) => r = o) (fun _ t => va_P (dC, dI) qCl [] t.heap ∧ va_D (va_A [] sz) []) (va_A [] sz)) 0 0 (va_A [] sz) := by
  refine va_MetF (cc := qc_Jmat_floorMod) (maxL := 3) (ret := (some .int)) (by decide +kernel) rfl ?_
  intro p e s m args below meth c s₁ B hml hv
  obtain ⟨rfl, hsz, hP, hK, hD0⟩ := hv
  have hx := B.exec
  have hb := B.bytes
  have hr := B.returns
  have hts0 := atoms_spec (ws := ql_Jmat_floorMod :: qG) B.pre
  have hts := fun (w : Cond) (hw : w ∈ qG) => hts0 w (List.mem_cons_of_mem _ hw)
  have hown : s.vm.findClass "java/lang/Math" = some m.cls := findClass_of_methodNamed B.named
  have hlocks := B.notSynchronized
  subst hsz
  have hD := hD0.self (sz := s.heap.size)
  generalize hAe : va_A [] s.heap.size = A at hD ⊢
  have hA : ∀ q : Nat, s.heap.size ≤ q → A q := fun q h => by rw [← hAe]; exact Or.inr h
  have hS : va_S A s.heap s.heap [] := va_S.rf
  have hl := lv_entry ([.int a1, .int a2]) (n := 3) (Nat.le_of_ble_eq_true rfl)
  rw [lg_entry_eq]
  generalize (lg_sl ([.int a1, .int a2]) ++ List.replicate (3 - (lg_sl ([.int a1, .int a2])).length) Slot.unset).toArray = ls at hl ⊢
  have hl : lv_has ls 3 [(0, .int a1), (1, .int a2)] := hl
  unfold qf_Jmat_floorMod at h
  refine lv_iload_n hx hb qd_Jmat_floorMod_0 rfl (lv_at hl 0 rfl) ?_
  refine lv_iload_n hx hb qd_Jmat_floorMod_1 rfl (lv_at hl 1 rfl) ?_
  obtain ⟨hb1, h⟩ := qq_n h
  refine lv_irem hx hb qd_Jmat_floorMod_2 hb1 ?_
  refine lv_istore_n (lv' := [(2, .int (a1 - a1 / a2 * a2)), (0, .int a1), (1, .int a2)]) hx hb qd_Jmat_floorMod_3 rfl hl (by decide) rfl (fun ls hl => ?_)
  refine lv_iload_n hx hb qd_Jmat_floorMod_4 rfl (lv_at hl 1 rfl) ?_
  refine lv_iload_n hx hb qd_Jmat_floorMod_5 rfl (lv_at hl 2 rfl) ?_
  refine lv_ixor hx hb qd_Jmat_floorMod_6 ?_
  refine lv_if_ge hx hb qd_Jmat_floorMod_7 (tgt := 18) (by decide) (fun hc => ?_) (fun hc => ?_)
  · have h := qq_t hc h
    refine lv_iload_n hx hb qd_Jmat_floorMod_18 rfl (lv_at hl 0 rfl) ?_
    obtain rfl := Option.some.inj h
    exact W.iret (v := (a1 - a1 / a2 * a2)) hx hb hr (fun t ht hW => ⟨⟨(a1 - a1 / a2 * a2), (), rfl, rfl, by rw [ht]; exact hP, hD⟩, hS.F ht⟩) hS.2.2 qd_Jmat_floorMod_19
  · have h := qq_f hc h
    refine lv_iload_n hx hb qd_Jmat_floorMod_10 rfl (lv_at hl 0 rfl) ?_
    refine lv_if_eq hx hb qd_Jmat_floorMod_11 (tgt := 18) (by decide) (fun hc => ?_) (fun hc => ?_)
    · have h := qq_t hc h
      refine lv_iload_n hx hb qd_Jmat_floorMod_18 rfl (lv_at hl 0 rfl) ?_
      obtain rfl := Option.some.inj h
      exact W.iret (v := (a1 - a1 / a2 * a2)) hx hb hr (fun t ht hW => ⟨⟨(a1 - a1 / a2 * a2), (), rfl, rfl, by rw [ht]; exact hP, hD⟩, hS.F ht⟩) hS.2.2 qd_Jmat_floorMod_19
    · have h := qq_f hc h
      refine lv_iload_n hx hb qd_Jmat_floorMod_14 rfl (lv_at hl 0 rfl) ?_
      refine lv_iload_n hx hb qd_Jmat_floorMod_15 rfl (lv_at hl 2 rfl) ?_
      refine lv_iadd hx hb qd_Jmat_floorMod_16 ?_
      obtain rfl := Option.some.inj h
      exact W.iret (v := ((a1 - a1 / a2 * a2) + a2)) hx hb hr (fun t ht hW => ⟨⟨((a1 - a1 / a2 * a2) + a2), (), rfl, rfl, by rw [ht]; exact hP, hD⟩, hS.F ht⟩) hS.2.2 qd_Jmat_floorMod_17
/-! QuietSweep$Outs.placeOf(I)I -/
def qf_Out_placeOf (a1 : Int32)  : Option (Int32) := ((qf_Jmat_floorMod a1 16).bind fun q1 => (some q1))
set_option maxHeartbeats 4000000 in
set_option maxRecDepth 100000 in
theorem qm_Out_placeOf (l : Launch) (dC : Nat → ClassId) (dI : Nat → Nat → Nat) (cI cC cB cM : ClassId)    (a1 : Int32) (sz : Nat) (o : Int32) (h : qf_Out_placeOf a1 = some o) : Met l qy_Out_placeOf (ql_Out_placeOf :: qG) ({ frames := 1, cells := 0, slots := 0, locals := 22 } : Room) (qPc dC dI cI cC cB cM [.int a1] sz []) (va_Qi (fun r (_ : Unit) => r = o) (fun _ t => va_P (dC, dI) qCl [] t.heap ∧ va_D (va_A [] sz) []) (va_A [] sz)) 0 0 (va_A [] sz) := by
  refine Met.ofW (cc := qc_Out_placeOf) (maxL := 1) (ret := (some .int)) (by decide) rfl ?_
  intro p e s m args below meth c s₁ B hml hv
  obtain ⟨rfl, hsz, hP, hK, hD0⟩ := hv
  have hx := B.exec
  have hb := B.bytes
  have hr := B.returns
  have hts0 := atoms_spec (ws := ql_Out_placeOf :: qG) B.pre
  have hts := fun (w : Cond) (hw : w ∈ qG) => hts0 w (List.mem_cons_of_mem _ hw)
  have hown : s.vm.findClass "QuietSweep$Outs" = some m.cls := findClass_of_methodNamed B.named
  have hlocks := B.notSynchronized
  subst hsz
  have hD := hD0.self (sz := s.heap.size)
  generalize hAe : va_A [] s.heap.size = A at hD ⊢
  have hA : ∀ q : Nat, s.heap.size ≤ q → A q := fun q h => by rw [← hAe]; exact Or.inr h
  have hS : va_S A s.heap s.heap [] := va_S.rf
  have hl := lv_entry ([.int a1]) (n := 1) (Nat.le_of_ble_eq_true rfl)
  rw [lg_entry_eq]
  generalize (lg_sl ([.int a1]) ++ List.replicate (1 - (lg_sl ([.int a1])).length) Slot.unset).toArray = ls at hl ⊢
  have hl : lv_has ls 1 [(0, .int a1)] := hl
  unfold qf_Out_placeOf at h
  refine lv_iload_n hx hb qd_Out_placeOf_0 rfl (lv_at hl 0 rfl) ?_
  refine lv_bipush (v := 16) hx hb qd_Out_placeOf_1 (by decide) ?_
  obtain ⟨q1, hq1, h⟩ := qq_b h
  have hPc := hP.sub (ws' := []) [] rfl
  have hDc := hD.sub (ws' := []) [] (by decide) rfl
  have hFc := va_free (wc := []) hD hS hA [] rfl
  refine va_calli (va_runS (As := [.int a1, .int 16]) (rest := []) ⟨hx, hb, hml, hown, hts⟩ (qm_Jmat_floorMod l dC dI cI cC cB cM a1 16 _ q1 hq1) ⟨q_CB hts qw_355 qw_14 qw_357 qh_Jmat_floorMod rfl rfl ⟨by decide, by decide⟩, hts _ qw_356⟩ (q_preS [.int a1, .int 16] hK hPc hDc) rfl rfl hl.1 rfl (lv_room (Nat.le_of_ble_eq_true rfl)) qd_Out_placeOf_3 ⟨Nat.zero_le _, Nat.zero_le _⟩) hS (fun q _ h => hFc q h) hFc (fun r u t H1 locs ht hvm hw hB hz1 hk1 hS => ?_)
  have hw : q1 = r := Eq.symm hw
  subst hw
  obtain ⟨hP1, hD1⟩ := hB
  rw [ht] at hP1
  obtain ⟨hP, hD⟩ := va_join (wr := []) (w1 := []) hP hD [] [] rfl rfl (by decide) (by decide) hk1 hFc hP1 hD1
  have hP := hP.sub (ws' := []) [] rfl
  have hD := hD.sub (ws' := []) [] (by decide) rfl
  obtain rfl := Option.some.inj h
  exact W.iret (v := q1) hx hb hr (fun t ht hW => ⟨⟨q1, (), rfl, rfl, by rw [ht]; exact hP, hD⟩, hS.F ht⟩) hS.2.2 qd_Out_placeOf_6
/-! QuietSweep$Outs.add(I)V -/
def qf_Out_add (a1 : Int32) (s0 : QS) : Option (QS) := ((qf_Out_placeOf (s0 1 0)).bind fun q1 => (if (q1 < 0 ∨ 16 ≤ Int32.toNatClampNeg q1) then none else (some (qp (qp s0 1 (fun _ => ((s0 1 0) + 1))) 0 (upd (s0 0) (Int32.toNatClampNeg q1) a1)))))
set_option maxHeartbeats 4000000 in
set_option maxRecDepth 100000 in
theorem qm_Out_add (l : Launch) (dC : Nat → ClassId) (dI : Nat → Nat → Nat) (cI cC cB cM : ClassId) (h0 : Nat) (d0 : Nat → Nat) (s0 : QS) (a1 : Int32) (sz : Nat) (o : QS) (h : qf_Out_add a1 s0 = some o) : Met l qy_Out_add (ql_Out_add :: qG) ({ frames := 2, cells := 0, slots := 0, locals := 42 } : Room) (qPc dC dI cI cC cB cM [.ref h0, .int a1] sz [(h0, .inr (4, [.ref (d0 0), .int (s0 1 0)])), (d0 0, .inl (cI, 16, .inl (s0 0)))]) (va_Qv (fun _ : Unit => True) (fun _ t => va_P (dC, dI) qCl [(h0, .inr (4, [.ref (d0 0), .int (o 1 0)])), (d0 0, .inl (cI, 16, .inl (o 0)))] t.heap ∧ va_D (va_A [(h0, .inr (4, [.ref (d0 0), .int (s0 1 0)])), (d0 0, .inl (cI, 16, .inl (s0 0)))] sz) [(h0, .inr (4, [.ref (d0 0), .int (o 1 0)])), (d0 0, .inl (cI, 16, .inl (o 0)))]) (va_A [(h0, .inr (4, [.ref (d0 0), .int (s0 1 0)])), (d0 0, .inl (cI, 16, .inl (s0 0)))] sz)) 0 0 (va_A [(h0, .inr (4, [.ref (d0 0), .int (s0 1 0)])), (d0 0, .inl (cI, 16, .inl (s0 0)))] sz) := by
  refine Met.ofW (cc := qc_Out_add) (maxL := 2) (ret := none) (by decide) rfl ?_
  intro p e s m args below meth c s₁ B hml hv
  obtain ⟨rfl, hsz, hP, hK, hD0⟩ := hv
  have hx := B.exec
  have hb := B.bytes
  have hr := B.returns
  have hts0 := atoms_spec (ws := ql_Out_add :: qG) B.pre
  have hts := fun (w : Cond) (hw : w ∈ qG) => hts0 w (List.mem_cons_of_mem _ hw)
  have hown : s.vm.findClass "QuietSweep$Outs" = some m.cls := findClass_of_methodNamed B.named
  have hlocks := B.notSynchronized
  subst hsz
  have hD := hD0.self (sz := s.heap.size)
  generalize hAe : va_A [(h0, .inr (4, [.ref (d0 0), .int (s0 1 0)])), (d0 0, .inl (cI, 16, .inl (s0 0)))] s.heap.size = A at hD ⊢
  have hA : ∀ q : Nat, s.heap.size ≤ q → A q := fun q h => by rw [← hAe]; exact Or.inr h
  have hS : va_S A s.heap s.heap [] := va_S.rf
  have hl := lv_entry ([.ref h0, .int a1]) (n := 2) (Nat.le_of_ble_eq_true rfl)
  rw [lg_entry_eq]
  generalize (lg_sl ([.ref h0, .int a1]) ++ List.replicate (2 - (lg_sl ([.ref h0, .int a1])).length) Slot.unset).toArray = ls at hl ⊢
  have hl : lv_has ls 2 [(0, .ref h0), (1, .int a1)] := hl
  unfold qf_Out_add at h
  refine lv_aload_n hx hb qd_Out_add_0 rfl (lv_at hl 0 rfl) ?_
  refine va_get (D := (dC, dI)) (ci := 4) (v := .ref (d0 0)) (C := "QuietSweep$Outs") (T := qT_Out) (N := 2) hx hb hts qi_Out hown hK.1 hP 0 rfl rfl 0 (by decide) (hts _ qw_113) (fun _ h9 => h9) rfl qd_Out_add_1 ?_
  refine lv_aload_n hx hb qd_Out_add_4 rfl (lv_at hl 0 rfl) ?_
  refine va_get (D := (dC, dI)) (ci := 4) (v := .int (s0 1 0)) (C := "QuietSweep$Outs") (T := qT_Out) (N := 2) hx hb hts qi_Out hown hK.1 hP 0 rfl rfl 1 (by decide) (hts _ qw_114) (fun _ h9 => h9) rfl qd_Out_add_5 ?_
  obtain ⟨q1, hq1, h⟩ := qq_b h
  have hPc := hP.sub (ws' := []) [] rfl
  have hDc := hD.sub (ws' := []) [] (by decide) rfl
  have hFc := va_free (wc := []) hD hS hA [] rfl
  refine va_calli (va_runS (As := [.int (s0 1 0)]) (rest := [.ref (d0 0)]) ⟨hx, hb, hml, hown, hts⟩ (qm_Out_placeOf l dC dI cI cC cB cM (s0 1 0) _ q1 hq1) ⟨q_CB hts qw_352 qw_6 qw_354 qh_Out_placeOf rfl rfl ⟨by decide, by decide⟩, hts _ qw_353⟩ (q_preS [.int (s0 1 0)] hK hPc hDc) rfl rfl hl.1 rfl (lv_room (Nat.le_of_ble_eq_true rfl)) qd_Out_add_8 ⟨Nat.zero_le _, Nat.zero_le _⟩) hS (fun q _ h => hFc q h) hFc (fun r u t H1 locs ht hvm hw hB hz1 hk1 hS => ?_)
  have hw : q1 = r := Eq.symm hw
  subst hw
  obtain ⟨hP1, hD1⟩ := hB
  rw [ht] at hP1
  obtain ⟨hP, hD⟩ := va_join (wr := [(h0, .inr (4, [.ref (d0 0), .int (s0 1 0)])), (d0 0, .inl (cI, 16, .inl (s0 0)))]) (w1 := []) hP hD [] [0, 1] rfl rfl (by decide) (by decide) hk1 hFc hP1 hD1
  have hP := hP.sub (ws' := [(h0, .inr (4, [.ref (d0 0), .int (s0 1 0)])), (d0 0, .inl (cI, 16, .inl (s0 0)))]) [0, 1] rfl
  have hD := hD.sub (ws' := [(h0, .inr (4, [.ref (d0 0), .int (s0 1 0)])), (d0 0, .inl (cI, 16, .inl (s0 0)))]) [0, 1] (by decide) rfl
  refine lv_iload_n hx hb qd_Out_add_11 rfl (lv_at hl 1 rfl) ?_
  obtain ⟨hb2, h⟩ := qq_n h
  refine va_iast hx hb hK.1 hP hD hS 1 0 rfl rfl hb2 qd_Out_add_12 (fun H locs hP hD hS => ?_)
  have hP : va_P (dC, dI) qCl [(h0, .inr (4, [.ref (d0 0), .int (s0 1 0)])), (d0 0, .inl (cI, 16, .inl (upd (s0 0) (Int32.toNatClampNeg q1) a1)))] _ := hP
  have hD : va_D A [(h0, .inr (4, [.ref (d0 0), .int (s0 1 0)])), (d0 0, .inl (cI, 16, .inl (upd (s0 0) (Int32.toNatClampNeg q1) a1)))] := hD
  refine lv_aload_n hx hb qd_Out_add_13 rfl (lv_at hl 0 rfl) ?_
  refine lv_dup hx hb qd_Out_add_14 rfl ?_
  refine va_get (D := (dC, dI)) (ci := 4) (v := .int (s0 1 0)) (C := "QuietSweep$Outs") (T := qT_Out) (N := 2) hx hb hts qi_Out hown hK.1 hP 0 rfl rfl 1 (by decide) (hts _ qw_114) (fun _ h9 => h9) rfl qd_Out_add_15 ?_
  refine lv_iconst (v := 1) hx hb qd_Out_add_18 rfl ?_
  refine lv_iadd hx hb qd_Out_add_19 ?_
  refine va_put (D := (dC, dI)) (ci := 4) (v := .int ((s0 1 0) + 1)) (ty := .int) (C := "QuietSweep$Outs") (T := qT_Out) (N := 2) hx hb hts qi_Out qt_Out qo_Out qn_Out hown hK.1 hP hD hS 0 rfl rfl 1 (by decide) (hts _ qw_114) (fun _ h9 => h9) rfl (qo_Out 1 (by decide)) rfl rfl (Nat.le_of_ble_eq_true rfl) qd_Out_add_20 (fun H locs hP hD hS => ?_)
  have hP : va_P (dC, dI) qCl [(h0, .inr (4, [.ref (d0 0), .int ((s0 1 0) + 1)])), (d0 0, .inl (cI, 16, .inl (upd (s0 0) (Int32.toNatClampNeg q1) a1)))] _ := hP
  have hD : va_D A [(h0, .inr (4, [.ref (d0 0), .int ((s0 1 0) + 1)])), (d0 0, .inl (cI, 16, .inl (upd (s0 0) (Int32.toNatClampNeg q1) a1)))] := hD
  obtain rfl := Option.some.inj h
  exact W.vret hx hb hr (fun t ht hW => ⟨⟨(), rfl, trivial, by rw [ht]; exact hP, hD⟩, hS.F ht⟩) hS.2.2 qd_Out_add_23
/-! QuietSweep$Outs.latest(I)I -/
def qf_Out_latest (a1 : Int32) (s0 : QS) : Option (Int32) := (if a1 < 0 then (some 0) else (if 16 ≤ a1 then (some 0) else (if a1 < (s0 1 0) then ((qf_Out_placeOf (((s0 1 0) - 1) - a1)).bind fun q1 => (if (q1 < 0 ∨ 16 ≤ Int32.toNatClampNeg q1) then none else (some ((s0 0) (Int32.toNatClampNeg q1))))) else (some 0))))
set_option maxHeartbeats 4000000 in
set_option maxRecDepth 100000 in
theorem qm_Out_latest (l : Launch) (dC : Nat → ClassId) (dI : Nat → Nat → Nat) (cI cC cB cM : ClassId) (h0 : Nat) (d0 : Nat → Nat) (s0 : QS) (a1 : Int32) (sz : Nat) (o : Int32) (h : qf_Out_latest a1 s0 = some o) : Met l qy_Out_latest (ql_Out_latest :: qG) ({ frames := 2, cells := 0, slots := 0, locals := 42 } : Room) (qPc dC dI cI cC cB cM [.ref h0, .int a1] sz [(h0, .inr (4, [.ref (d0 0), .int (s0 1 0)])), (d0 0, .inl (cI, 16, .inl (s0 0)))]) (va_Qi (fun r (_ : Unit) => r = o) (fun _ t => va_P (dC, dI) qCl [(h0, .inr (4, [.ref (d0 0), .int (s0 1 0)])), (d0 0, .inl (cI, 16, .inl (s0 0)))] t.heap ∧ va_D (va_A [(h0, .inr (4, [.ref (d0 0), .int (s0 1 0)])), (d0 0, .inl (cI, 16, .inl (s0 0)))] sz) [(h0, .inr (4, [.ref (d0 0), .int (s0 1 0)])), (d0 0, .inl (cI, 16, .inl (s0 0)))]) (va_A [(h0, .inr (4, [.ref (d0 0), .int (s0 1 0)])), (d0 0, .inl (cI, 16, .inl (s0 0)))] sz)) 0 0 (va_A [(h0, .inr (4, [.ref (d0 0), .int (s0 1 0)])), (d0 0, .inl (cI, 16, .inl (s0 0)))] sz) := by
  refine Met.ofW (cc := qc_Out_latest) (maxL := 2) (ret := (some .int)) (by decide) rfl ?_
  intro p e s m args below meth c s₁ B hml hv
  obtain ⟨rfl, hsz, hP, hK, hD0⟩ := hv
  have hx := B.exec
  have hb := B.bytes
  have hr := B.returns
  have hts0 := atoms_spec (ws := ql_Out_latest :: qG) B.pre
  have hts := fun (w : Cond) (hw : w ∈ qG) => hts0 w (List.mem_cons_of_mem _ hw)
  have hown : s.vm.findClass "QuietSweep$Outs" = some m.cls := findClass_of_methodNamed B.named
  have hlocks := B.notSynchronized
  subst hsz
  have hD := hD0.self (sz := s.heap.size)
  generalize hAe : va_A [(h0, .inr (4, [.ref (d0 0), .int (s0 1 0)])), (d0 0, .inl (cI, 16, .inl (s0 0)))] s.heap.size = A at hD ⊢
  have hA : ∀ q : Nat, s.heap.size ≤ q → A q := fun q h => by rw [← hAe]; exact Or.inr h
  have hS : va_S A s.heap s.heap [] := va_S.rf
  have hl := lv_entry ([.ref h0, .int a1]) (n := 2) (Nat.le_of_ble_eq_true rfl)
  rw [lg_entry_eq]
  generalize (lg_sl ([.ref h0, .int a1]) ++ List.replicate (2 - (lg_sl ([.ref h0, .int a1])).length) Slot.unset).toArray = ls at hl ⊢
  have hl : lv_has ls 2 [(0, .ref h0), (1, .int a1)] := hl
  unfold qf_Out_latest at h
  refine lv_iload_n hx hb qd_Out_latest_0 rfl (lv_at hl 1 rfl) ?_
  refine lv_if_lt hx hb qd_Out_latest_1 (tgt := 18) (by decide) (fun hc => ?_) (fun hc => ?_)
  · have h := qq_t hc h
    refine lv_iconst (v := 0) hx hb qd_Out_latest_18 rfl ?_
    obtain rfl := Option.some.inj h
    exact W.iret (v := 0) hx hb hr (fun t ht hW => ⟨⟨0, (), rfl, rfl, by rw [ht]; exact hP, hD⟩, hS.F ht⟩) hS.2.2 qd_Out_latest_19
  · have h := qq_f hc h
    refine lv_iload_n hx hb qd_Out_latest_4 rfl (lv_at hl 1 rfl) ?_
    refine lv_bipush (v := 16) hx hb qd_Out_latest_5 (by decide) ?_
    refine lv_icmp_ge hx hb qd_Out_latest_7 (tgt := 18) (by decide) (fun hc => ?_) (fun hc => ?_)
    · have h := qq_t hc h
      refine lv_iconst (v := 0) hx hb qd_Out_latest_18 rfl ?_
      obtain rfl := Option.some.inj h
      exact W.iret (v := 0) hx hb hr (fun t ht hW => ⟨⟨0, (), rfl, rfl, by rw [ht]; exact hP, hD⟩, hS.F ht⟩) hS.2.2 qd_Out_latest_19
    · have h := qq_f hc h
      refine lv_iload_n hx hb qd_Out_latest_10 rfl (lv_at hl 1 rfl) ?_
      refine lv_aload_n hx hb qd_Out_latest_11 rfl (lv_at hl 0 rfl) ?_
      refine va_get (D := (dC, dI)) (ci := 4) (v := .int (s0 1 0)) (C := "QuietSweep$Outs") (T := qT_Out) (N := 2) hx hb hts qi_Out hown hK.1 hP 0 rfl rfl 1 (by decide) (hts _ qw_114) (fun _ h9 => h9) rfl qd_Out_latest_12 ?_
      refine lv_icmp_lt hx hb qd_Out_latest_15 (tgt := 20) (by decide) (fun hc => ?_) (fun hc => ?_)
      · have h := qq_t hc h
        refine lv_aload_n hx hb qd_Out_latest_20 rfl (lv_at hl 0 rfl) ?_
        refine va_get (D := (dC, dI)) (ci := 4) (v := .ref (d0 0)) (C := "QuietSweep$Outs") (T := qT_Out) (N := 2) hx hb hts qi_Out hown hK.1 hP 0 rfl rfl 0 (by decide) (hts _ qw_113) (fun _ h9 => h9) rfl qd_Out_latest_21 ?_
        refine lv_aload_n hx hb qd_Out_latest_24 rfl (lv_at hl 0 rfl) ?_
        refine va_get (D := (dC, dI)) (ci := 4) (v := .int (s0 1 0)) (C := "QuietSweep$Outs") (T := qT_Out) (N := 2) hx hb hts qi_Out hown hK.1 hP 0 rfl rfl 1 (by decide) (hts _ qw_114) (fun _ h9 => h9) rfl qd_Out_latest_25 ?_
        refine lv_iconst (v := 1) hx hb qd_Out_latest_28 rfl ?_
        refine lv_isub hx hb qd_Out_latest_29 ?_
        refine lv_iload_n hx hb qd_Out_latest_30 rfl (lv_at hl 1 rfl) ?_
        refine lv_isub hx hb qd_Out_latest_31 ?_
        obtain ⟨q1, hq1, h⟩ := qq_b h
        have hPc := hP.sub (ws' := []) [] rfl
        have hDc := hD.sub (ws' := []) [] (by decide) rfl
        have hFc := va_free (wc := []) hD hS hA [] rfl
        refine va_calli (va_runS (As := [.int (((s0 1 0) - 1) - a1)]) (rest := [.ref (d0 0)]) ⟨hx, hb, hml, hown, hts⟩ (qm_Out_placeOf l dC dI cI cC cB cM (((s0 1 0) - 1) - a1) _ q1 hq1) ⟨q_CB hts qw_352 qw_6 qw_354 qh_Out_placeOf rfl rfl ⟨by decide, by decide⟩, hts _ qw_353⟩ (q_preS [.int (((s0 1 0) - 1) - a1)] hK hPc hDc) rfl rfl hl.1 rfl (lv_room (Nat.le_of_ble_eq_true rfl)) qd_Out_latest_32 ⟨Nat.zero_le _, Nat.zero_le _⟩) hS (fun q _ h => hFc q h) hFc (fun r u t H1 locs ht hvm hw hB hz1 hk1 hS => ?_)
        have hw : q1 = r := Eq.symm hw
        subst hw
        obtain ⟨hP1, hD1⟩ := hB
        rw [ht] at hP1
        obtain ⟨hP, hD⟩ := va_join (wr := [(h0, .inr (4, [.ref (d0 0), .int (s0 1 0)])), (d0 0, .inl (cI, 16, .inl (s0 0)))]) (w1 := []) hP hD [] [0, 1] rfl rfl (by decide) (by decide) hk1 hFc hP1 hD1
        have hP := hP.sub (ws' := [(h0, .inr (4, [.ref (d0 0), .int (s0 1 0)])), (d0 0, .inl (cI, 16, .inl (s0 0)))]) [0, 1] rfl
        have hD := hD.sub (ws' := [(h0, .inr (4, [.ref (d0 0), .int (s0 1 0)])), (d0 0, .inl (cI, 16, .inl (s0 0)))]) [0, 1] (by decide) rfl
        obtain ⟨hb2, h⟩ := qq_n h
        refine va_iald hx hb hK.1 hP 1 0 rfl rfl hb2 qd_Out_latest_35 ?_
        obtain rfl := Option.some.inj h
        exact W.iret (v := ((s0 0) (Int32.toNatClampNeg q1))) hx hb hr (fun t ht hW => ⟨⟨((s0 0) (Int32.toNatClampNeg q1)), (), rfl, rfl, by rw [ht]; exact hP, hD⟩, hS.F ht⟩) hS.2.2 qd_Out_latest_36
      · have h := qq_f hc h
        refine lv_iconst (v := 0) hx hb qd_Out_latest_18 rfl ?_
        obtain rfl := Option.some.inj h
        exact W.iret (v := 0) hx hb hr (fun t ht hW => ⟨⟨0, (), rfl, rfl, by rw [ht]; exact hP, hD⟩, hS.F ht⟩) hS.2.2 qd_Out_latest_19
