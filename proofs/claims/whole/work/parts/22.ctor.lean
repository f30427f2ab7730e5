def qz : QS := fun _ _ => 0
theorem q_reP {D : va_G} {cl : List vw_C} {ws ws2 : va_W} {H : Heap} (e : ws = ws2) (h : va_P D cl ws H) : va_P D cl ws2 H := e ▸ h
theorem q_reD {A : Nat → Prop} {ws ws2 : va_W} (e : ws = ws2) (h : va_D A ws) : va_D A ws2 := e ▸ h
theorem q_mx {a b : Prop} (h : ¬ (a ∨ ¬ b)) : ¬ a ∧ b := ⟨fun x => h (Or.inl x), Classical.byContradiction (fun x => h (Or.inr x))⟩
theorem q_by {n k : Nat} (h : k + n ≤ 44) : n * componentBytes .int ≤ 536870912 := by
  show n * 4 ≤ 536870912
  omega
/-! Out_init -/
def qf_Out_init  : Option (QS) := (some qz)
set_option maxHeartbeats 4000000 in
set_option maxRecDepth 100000 in
theorem qm_Out_init (l : Launch) (dC : Nat → ClassId) (dI : Nat → Nat → Nat) (cI cC cB cM : ClassId) (h0 : Nat)  (sz : Nat) (o : QS) (h : qf_Out_init  = some o) : Met l qy_Out_init (ql_Out_init :: qG) ({ frames := 1, cells := 1, slots := 16, locals := 12 } : Room) (qPc dC dI cI cC cB cM [.ref h0] sz [(h0, .inr (4, [.null, .int 0]))]) (va_Qv (fun _ : (Nat → Nat) => True) (fun u t => va_P (dC, dI) qCl [(h0, .inr (4, [.ref (u 0), .int (o 1 0)])), (u 0, .inl (cI, 16, .inl (o 0)))] t.heap ∧ va_D (va_A [(h0, .inr (4, [.null, .int 0]))] sz) [(h0, .inr (4, [.ref (u 0), .int (o 1 0)])), (u 0, .inl (cI, 16, .inl (o 0)))]) (va_A [(h0, .inr (4, [.null, .int 0]))] sz)) 1 16 (va_A [(h0, .inr (4, [.null, .int 0]))] sz) := by
  refine Met.ofW (cc := qc_Out_init) (maxL := 1) (ret := none) (by decide) rfl ?_
  intro p e s m args below meth c s₁ B hml hv
  obtain ⟨rfl, hsz, hP, hK, hD0⟩ := hv
  have hx := B.exec
  have hb := B.bytes
  have hr := B.returns
  have hts0 := atoms_spec (ws := ql_Out_init :: qG) B.pre
  have hts := fun (w : Cond) (hw : w ∈ qG) => hts0 w (List.mem_cons_of_mem _ hw)
  have hown : s.vm.findClass "QuietSweep$Outs" = some m.cls := findClass_of_methodNamed B.named
  have hlocks := B.notSynchronized
  have hin : meth.name = "<init>" := (name_of_methodNamed B.named B.method).1
  subst hsz
  have hD := hD0.self (sz := s.heap.size)
  generalize hAe : va_A [(h0, .inr (4, [.null, .int 0]))] s.heap.size = A at hD ⊢
  have hA : ∀ q : Nat, s.heap.size ≤ q → A q := fun q h => by rw [← hAe]; exact Or.inr h
  have hS : va_S A s.heap s.heap [] := va_S.rf
  have hl := lv_entry ([.ref h0]) (n := 1) (Nat.le_of_ble_eq_true rfl)
  rw [lg_entry_eq]
  generalize (lg_sl ([.ref h0]) ++ List.replicate (1 - (lg_sl ([.ref h0])).length) Slot.unset).toArray = ls at hl ⊢
  have hl : lv_has ls 1 [(0, .ref h0)] := hl
  unfold qf_Out_init at h
  refine lv_aload_n hx hb qd_Out_init_0 rfl (lv_at hl 0 rfl) ?_
  refine W.objInit hx hb hown (hts _ qw_111) (hts _ qw_21) (hts _ qw_22) rfl (by rw [hml]; exact hl.1) rfl qd_Out_init_1 (Nat.le_of_ble_eq_true rfl) (Nat.le_of_ble_eq_true rfl) ?_
  refine W.eq (g2 := F0 m 4 ls []) rfl ?_
  refine lv_aload_n hx hb qd_Out_init_4 rfl (lv_at hl 0 rfl) ?_
  refine lv_bipush (v := 16) hx hb qd_Out_init_5 (by decide) ?_
  refine va_newa (D := (dC, dI)) (atype := .int) (ty := .int) (N' := 16) (a0 := (16, .inl (fun _ => 0))) hx hb (hts _ qw_51) rfl hK.1 hP hD hS hA (fun _ => rfl) (by decide) (by decide) (by decide) (by decide) (by decide) qd_Out_init_7 (fun q7 cA H hK2 hP hD hS => ?_)
  have e : cI = cA := q_ra (hK.1.2 0 _ rfl).2 (hK2.2 4 _ rfl).2
  subst e
  have hP : va_P (dC, dI) qCl [(h0, .inr (4, [.null, .int 0])), (q7, .inl (cI, 16, .inl (fun _ => 0)))] _ := hP
  have hD : va_D A [(h0, .inr (4, [.null, .int 0])), (q7, .inl (cI, 16, .inl (fun _ => 0)))] := hD
  refine va_putF (D := (dC, dI)) (ci := 4) (v := .ref q7) (ty := (.array .int)) (C := "QuietSweep$Outs") (T := qT_Out) (N := 2) hx hb hts qi_Out qt_Out qo_Out qn_Out hown hK.1 hP hD hS 0 rfl rfl 0 (by decide) (hts _ qw_112) (fun _ h9 => h9) rfl hin rfl (qo_Out 0 (by decide)) rfl rfl (Nat.le_of_ble_eq_true rfl) qd_Out_init_9 (fun H locs hP hD hS => ?_)
  have hP : va_P (dC, dI) qCl [(h0, .inr (4, [.ref q7, .int 0])), (q7, .inl (cI, 16, .inl (fun _ => 0)))] _ := hP
  have hD : va_D A [(h0, .inr (4, [.ref q7, .int 0])), (q7, .inl (cI, 16, .inl (fun _ => 0)))] := hD
  obtain ⟨d0, hd0⟩ : ∃ d : Nat → Nat, d = (fun k => ([q7, 0] : List Nat).getD k 0) := ⟨_, rfl⟩
  have hP := hP.sub (ws' := [(h0, .inr (4, [.ref q7, .int 0])), (q7, .inl (cI, 16, .inl (fun _ => 0)))]) [0, 1] rfl
  have hD := hD.sub (ws' := [(h0, .inr (4, [.ref q7, .int 0])), (q7, .inl (cI, 16, .inl (fun _ => 0)))]) [0, 1] (by decide) rfl
  have hWe : ([(h0, .inr (4, [.ref q7, .int 0])), (q7, .inl (cI, 16, .inl (fun _ => 0)))] : va_W) = [(h0, .inr (4, [.ref (d0 0), .int 0])), (d0 0, .inl (cI, 16, .inl (fun _ => 0)))] := by
    subst hd0
    rfl
  have hP := q_reP hWe hP
  have hD := q_reD hWe hD
  refine W.widen (k := 1) (n := 16) (by decide) (by decide) ?_
  have hl := lv_sub (l' := [(0, .ref h0)]) hl [0] rfl
  refine lv_aload_n hx hb qd_Out_init_12 rfl (lv_at hl 0 rfl) ?_
  refine lv_iconst (v := 0) hx hb qd_Out_init_13 rfl ?_
  refine va_put (D := (dC, dI)) (ci := 4) (v := .int 0) (ty := .int) (C := "QuietSweep$Outs") (T := qT_Out) (N := 2) hx hb hts qi_Out qt_Out qo_Out qn_Out hown hK.1 hP hD hS 0 rfl rfl 1 (by decide) (hts _ qw_113) (fun _ h9 => h9) rfl (qo_Out 1 (by decide)) rfl rfl (Nat.le_of_ble_eq_true rfl) qd_Out_init_14 (fun H locs hP hD hS => ?_)
  have hP : va_P (dC, dI) qCl [(h0, .inr (4, [.ref (d0 0), .int 0])), (d0 0, .inl (cI, 16, .inl (fun _ => 0)))] _ := hP
  have hD : va_D A [(h0, .inr (4, [.ref (d0 0), .int 0])), (d0 0, .inl (cI, 16, .inl (fun _ => 0)))] := hD
  obtain rfl := Option.some.inj h
  exact W.vret hx hb hr (fun t ht hW => ⟨⟨d0, rfl, trivial, by rw [ht]; exact hP, hD⟩, hS.F ht⟩) hS.2.2 qd_Out_init_17
/-! Buf_init -/
def qf_Buf_init  : Option (QS) := (some qz)
set_option maxHeartbeats 4000000 in
set_option maxRecDepth 100000 in
theorem qm_Buf_init (l : Launch) (dC : Nat → ClassId) (dI : Nat → Nat → Nat) (cI cC cB cM : ClassId) (h0 : Nat)  (sz : Nat) (o : QS) (h : qf_Buf_init  = some o) : Met l qy_Buf_init (ql_Buf_init :: qG) ({ frames := 1, cells := 3, slots := 9, locals := 12 } : Room) (qPc dC dI cI cC cB cM [.ref h0] sz [(h0, .inr (0, [.null, .null, .null, .int 0]))]) (va_Qv (fun _ : (Nat → Nat) => True) (fun u t => va_P (dC, dI) qCl [(h0, .inr (0, [.ref (u 0), .ref (u 1), .ref (u 2), .int (o 3 0)])), (u 0, .inl (cI, 3, .inl (o 0))), (u 1, .inl (cI, 3, .inl (o 1))), (u 2, .inl (cI, 3, .inl (o 2)))] t.heap ∧ va_D (va_A [(h0, .inr (0, [.null, .null, .null, .int 0]))] sz) [(h0, .inr (0, [.ref (u 0), .ref (u 1), .ref (u 2), .int (o 3 0)])), (u 0, .inl (cI, 3, .inl (o 0))), (u 1, .inl (cI, 3, .inl (o 1))), (u 2, .inl (cI, 3, .inl (o 2)))]) (va_A [(h0, .inr (0, [.null, .null, .null, .int 0]))] sz)) 3 9 (va_A [(h0, .inr (0, [.null, .null, .null, .int 0]))] sz) := by
  refine Met.ofW (cc := qc_Buf_init) (maxL := 1) (ret := none) (by decide) rfl ?_
  intro p e s m args below meth c s₁ B hml hv
  obtain ⟨rfl, hsz, hP, hK, hD0⟩ := hv
  have hx := B.exec
  have hb := B.bytes
  have hr := B.returns
  have hts0 := atoms_spec (ws := ql_Buf_init :: qG) B.pre
  have hts := fun (w : Cond) (hw : w ∈ qG) => hts0 w (List.mem_cons_of_mem _ hw)
  have hown : s.vm.findClass "QuietSweep$Buffer" = some m.cls := findClass_of_methodNamed B.named
  have hlocks := B.notSynchronized
  have hin : meth.name = "<init>" := (name_of_methodNamed B.named B.method).1
  subst hsz
  have hD := hD0.self (sz := s.heap.size)
  generalize hAe : va_A [(h0, .inr (0, [.null, .null, .null, .int 0]))] s.heap.size = A at hD ⊢
  have hA : ∀ q : Nat, s.heap.size ≤ q → A q := fun q h => by rw [← hAe]; exact Or.inr h
  have hS : va_S A s.heap s.heap [] := va_S.rf
  have hl := lv_entry ([.ref h0]) (n := 1) (Nat.le_of_ble_eq_true rfl)
  rw [lg_entry_eq]
  generalize (lg_sl ([.ref h0]) ++ List.replicate (1 - (lg_sl ([.ref h0])).length) Slot.unset).toArray = ls at hl ⊢
  have hl : lv_has ls 1 [(0, .ref h0)] := hl
  unfold qf_Buf_init at h
  refine lv_aload_n hx hb qd_Buf_init_0 rfl (lv_at hl 0 rfl) ?_
  refine W.objInit hx hb hown (hts _ qw_91) (hts _ qw_21) (hts _ qw_22) rfl (by rw [hml]; exact hl.1) rfl qd_Buf_init_1 (Nat.le_of_ble_eq_true rfl) (Nat.le_of_ble_eq_true rfl) ?_
  refine W.eq (g2 := F0 m 4 ls []) rfl ?_
  refine lv_aload_n hx hb qd_Buf_init_4 rfl (lv_at hl 0 rfl) ?_
  refine lv_iconst (v := 3) hx hb qd_Buf_init_5 rfl ?_
  refine va_newa (D := (dC, dI)) (atype := .int) (ty := .int) (N' := 3) (a0 := (3, .inl (fun _ => 0))) hx hb (hts _ qw_51) rfl hK.1 hP hD hS hA (fun _ => rfl) (by decide) (by decide) (by decide) (by decide) (by decide) qd_Buf_init_6 (fun q6 cA H hK2 hP hD hS => ?_)
  have e : cI = cA := q_ra (hK.1.2 0 _ rfl).2 (hK2.2 4 _ rfl).2
  subst e
  have hP : va_P (dC, dI) qCl [(h0, .inr (0, [.null, .null, .null, .int 0])), (q6, .inl (cI, 3, .inl (fun _ => 0)))] _ := hP
  have hD : va_D A [(h0, .inr (0, [.null, .null, .null, .int 0])), (q6, .inl (cI, 3, .inl (fun _ => 0)))] := hD
  refine va_putF (D := (dC, dI)) (ci := 0) (v := .ref q6) (ty := (.array .int)) (C := "QuietSweep$Buffer") (T := qT_Buf) (N := 4) hx hb hts qi_Buf qt_Buf qo_Buf qn_Buf hown hK.1 hP hD hS 0 rfl rfl 0 (by decide) (hts _ qw_92) (fun _ h9 => h9) rfl hin rfl (qo_Buf 0 (by decide)) rfl rfl (Nat.le_of_ble_eq_true rfl) qd_Buf_init_8 (fun H locs hP hD hS => ?_)
  have hP : va_P (dC, dI) qCl [(h0, .inr (0, [.ref q6, .null, .null, .int 0])), (q6, .inl (cI, 3, .inl (fun _ => 0)))] _ := hP
  have hD : va_D A [(h0, .inr (0, [.ref q6, .null, .null, .int 0])), (q6, .inl (cI, 3, .inl (fun _ => 0)))] := hD
  refine lv_aload_n hx hb qd_Buf_init_11 rfl (lv_at hl 0 rfl) ?_
  refine lv_iconst (v := 3) hx hb qd_Buf_init_12 rfl ?_
  refine va_newa (D := (dC, dI)) (atype := .int) (ty := .int) (N' := 3) (a0 := (3, .inl (fun _ => 0))) hx hb (hts _ qw_51) rfl hK.1 hP hD hS hA (fun _ => rfl) (by decide) (by decide) (by decide) (by decide) (by decide) qd_Buf_init_13 (fun q13 cA H hK2 hP hD hS => ?_)
  have e : cI = cA := q_ra (hK.1.2 0 _ rfl).2 (hK2.2 4 _ rfl).2
  subst e
  have hP : va_P (dC, dI) qCl [(h0, .inr (0, [.ref q6, .null, .null, .int 0])), (q6, .inl (cI, 3, .inl (fun _ => 0))), (q13, .inl (cI, 3, .inl (fun _ => 0)))] _ := hP
  have hD : va_D A [(h0, .inr (0, [.ref q6, .null, .null, .int 0])), (q6, .inl (cI, 3, .inl (fun _ => 0))), (q13, .inl (cI, 3, .inl (fun _ => 0)))] := hD
  refine va_putF (D := (dC, dI)) (ci := 0) (v := .ref q13) (ty := (.array .int)) (C := "QuietSweep$Buffer") (T := qT_Buf) (N := 4) hx hb hts qi_Buf qt_Buf qo_Buf qn_Buf hown hK.1 hP hD hS 0 rfl rfl 1 (by decide) (hts _ qw_93) (fun _ h9 => h9) rfl hin rfl (qo_Buf 1 (by decide)) rfl rfl (Nat.le_of_ble_eq_true rfl) qd_Buf_init_15 (fun H locs hP hD hS => ?_)
  have hP : va_P (dC, dI) qCl [(h0, .inr (0, [.ref q6, .ref q13, .null, .int 0])), (q6, .inl (cI, 3, .inl (fun _ => 0))), (q13, .inl (cI, 3, .inl (fun _ => 0)))] _ := hP
  have hD : va_D A [(h0, .inr (0, [.ref q6, .ref q13, .null, .int 0])), (q6, .inl (cI, 3, .inl (fun _ => 0))), (q13, .inl (cI, 3, .inl (fun _ => 0)))] := hD
  refine lv_aload_n hx hb qd_Buf_init_18 rfl (lv_at hl 0 rfl) ?_
  refine lv_iconst (v := 3) hx hb qd_Buf_init_19 rfl ?_
  refine va_newa (D := (dC, dI)) (atype := .int) (ty := .int) (N' := 3) (a0 := (3, .inl (fun _ => 0))) hx hb (hts _ qw_51) rfl hK.1 hP hD hS hA (fun _ => rfl) (by decide) (by decide) (by decide) (by decide) (by decide) qd_Buf_init_20 (fun q20 cA H hK2 hP hD hS => ?_)
  have e : cI = cA := q_ra (hK.1.2 0 _ rfl).2 (hK2.2 4 _ rfl).2
  subst e
  have hP : va_P (dC, dI) qCl [(h0, .inr (0, [.ref q6, .ref q13, .null, .int 0])), (q6, .inl (cI, 3, .inl (fun _ => 0))), (q13, .inl (cI, 3, .inl (fun _ => 0))), (q20, .inl (cI, 3, .inl (fun _ => 0)))] _ := hP
  have hD : va_D A [(h0, .inr (0, [.ref q6, .ref q13, .null, .int 0])), (q6, .inl (cI, 3, .inl (fun _ => 0))), (q13, .inl (cI, 3, .inl (fun _ => 0))), (q20, .inl (cI, 3, .inl (fun _ => 0)))] := hD
  refine va_putF (D := (dC, dI)) (ci := 0) (v := .ref q20) (ty := (.array .int)) (C := "QuietSweep$Buffer") (T := qT_Buf) (N := 4) hx hb hts qi_Buf qt_Buf qo_Buf qn_Buf hown hK.1 hP hD hS 0 rfl rfl 2 (by decide) (hts _ qw_94) (fun _ h9 => h9) rfl hin rfl (qo_Buf 2 (by decide)) rfl rfl (Nat.le_of_ble_eq_true rfl) qd_Buf_init_22 (fun H locs hP hD hS => ?_)
  have hP : va_P (dC, dI) qCl [(h0, .inr (0, [.ref q6, .ref q13, .ref q20, .int 0])), (q6, .inl (cI, 3, .inl (fun _ => 0))), (q13, .inl (cI, 3, .inl (fun _ => 0))), (q20, .inl (cI, 3, .inl (fun _ => 0)))] _ := hP
  have hD : va_D A [(h0, .inr (0, [.ref q6, .ref q13, .ref q20, .int 0])), (q6, .inl (cI, 3, .inl (fun _ => 0))), (q13, .inl (cI, 3, .inl (fun _ => 0))), (q20, .inl (cI, 3, .inl (fun _ => 0)))] := hD
  obtain ⟨d0, hd0⟩ : ∃ d : Nat → Nat, d = (fun k => ([q6, q13, q20, 0] : List Nat).getD k 0) := ⟨_, rfl⟩
  have hP := hP.sub (ws' := [(h0, .inr (0, [.ref q6, .ref q13, .ref q20, .int 0])), (q6, .inl (cI, 3, .inl (fun _ => 0))), (q13, .inl (cI, 3, .inl (fun _ => 0))), (q20, .inl (cI, 3, .inl (fun _ => 0)))]) [0, 1, 2, 3] rfl
  have hD := hD.sub (ws' := [(h0, .inr (0, [.ref q6, .ref q13, .ref q20, .int 0])), (q6, .inl (cI, 3, .inl (fun _ => 0))), (q13, .inl (cI, 3, .inl (fun _ => 0))), (q20, .inl (cI, 3, .inl (fun _ => 0)))]) [0, 1, 2, 3] (by decide) rfl
  have hWe : ([(h0, .inr (0, [.ref q6, .ref q13, .ref q20, .int 0])), (q6, .inl (cI, 3, .inl (fun _ => 0))), (q13, .inl (cI, 3, .inl (fun _ => 0))), (q20, .inl (cI, 3, .inl (fun _ => 0)))] : va_W) = [(h0, .inr (0, [.ref (d0 0), .ref (d0 1), .ref (d0 2), .int 0])), (d0 0, .inl (cI, 3, .inl (fun _ => 0))), (d0 1, .inl (cI, 3, .inl (fun _ => 0))), (d0 2, .inl (cI, 3, .inl (fun _ => 0)))] := by
    subst hd0
    rfl
  have hP := q_reP hWe hP
  have hD := q_reD hWe hD
  refine W.widen (k := 3) (n := 9) (by decide) (by decide) ?_
  have hl := lv_sub (l' := [(0, .ref h0)]) hl [0] rfl
  refine lv_aload_n hx hb qd_Buf_init_25 rfl (lv_at hl 0 rfl) ?_
  refine lv_iconst (v := 0) hx hb qd_Buf_init_26 rfl ?_
  refine va_put (D := (dC, dI)) (ci := 0) (v := .int 0) (ty := .int) (C := "QuietSweep$Buffer") (T := qT_Buf) (N := 4) hx hb hts qi_Buf qt_Buf qo_Buf qn_Buf hown hK.1 hP hD hS 0 rfl rfl 3 (by decide) (hts _ qw_95) (fun _ h9 => h9) rfl (qo_Buf 3 (by decide)) rfl rfl (Nat.le_of_ble_eq_true rfl) qd_Buf_init_27 (fun H locs hP hD hS => ?_)
  have hP : va_P (dC, dI) qCl [(h0, .inr (0, [.ref (d0 0), .ref (d0 1), .ref (d0 2), .int 0])), (d0 0, .inl (cI, 3, .inl (fun _ => 0))), (d0 1, .inl (cI, 3, .inl (fun _ => 0))), (d0 2, .inl (cI, 3, .inl (fun _ => 0)))] _ := hP
  have hD : va_D A [(h0, .inr (0, [.ref (d0 0), .ref (d0 1), .ref (d0 2), .int 0])), (d0 0, .inl (cI, 3, .inl (fun _ => 0))), (d0 1, .inl (cI, 3, .inl (fun _ => 0))), (d0 2, .inl (cI, 3, .inl (fun _ => 0)))] := hD
  obtain rfl := Option.some.inj h
  exact W.vret hx hb hr (fun t ht hW => ⟨⟨d0, rfl, trivial, by rw [ht]; exact hP, hD⟩, hS.F ht⟩) hS.2.2 qd_Buf_init_30
/-! Col_init -/
def qf_Col_init  : Option (QS) := (some (qp qz 2 (fun _ => (-1))))
set_option maxHeartbeats 4000000 in
set_option maxRecDepth 100000 in
theorem qm_Col_init (l : Launch) (dC : Nat → ClassId) (dI : Nat → Nat → Nat) (cI cC cB cM : ClassId) (h0 : Nat)  (sz : Nat) (o : QS) (h : qf_Col_init  = some o) : Met l qy_Col_init (ql_Col_init :: qG) ({ frames := 1, cells := 0, slots := 0, locals := 12 } : Room) (qPc dC dI cI cC cB cM [.ref h0] sz [(h0, .inr (1, [.int 0, .int 0, .int 0, .int 0]))]) (va_Qv (fun _ : (Nat → Nat) => True) (fun u t => va_P (dC, dI) qCl [(h0, .inr (1, [.int (o 0 0), .int (o 1 0), .int (o 2 0), .int (o 3 0)]))] t.heap ∧ va_D (va_A [(h0, .inr (1, [.int 0, .int 0, .int 0, .int 0]))] sz) [(h0, .inr (1, [.int (o 0 0), .int (o 1 0), .int (o 2 0), .int (o 3 0)]))]) (va_A [(h0, .inr (1, [.int 0, .int 0, .int 0, .int 0]))] sz)) 0 0 (va_A [(h0, .inr (1, [.int 0, .int 0, .int 0, .int 0]))] sz) := by
  refine Met.ofW (cc := qc_Col_init) (maxL := 1) (ret := none) (by decide) rfl ?_
  intro p e s m args below meth c s₁ B hml hv
  obtain ⟨rfl, hsz, hP, hK, hD0⟩ := hv
  have hx := B.exec
  have hb := B.bytes
  have hr := B.returns
  have hts0 := atoms_spec (ws := ql_Col_init :: qG) B.pre
  have hts := fun (w : Cond) (hw : w ∈ qG) => hts0 w (List.mem_cons_of_mem _ hw)
  have hown : s.vm.findClass "QuietSweep$Collector" = some m.cls := findClass_of_methodNamed B.named
  have hlocks := B.notSynchronized
  have hin : meth.name = "<init>" := (name_of_methodNamed B.named B.method).1
  subst hsz
  have hD := hD0.self (sz := s.heap.size)
  generalize hAe : va_A [(h0, .inr (1, [.int 0, .int 0, .int 0, .int 0]))] s.heap.size = A at hD ⊢
  have hA : ∀ q : Nat, s.heap.size ≤ q → A q := fun q h => by rw [← hAe]; exact Or.inr h
  have hS : va_S A s.heap s.heap [] := va_S.rf
  have hl := lv_entry ([.ref h0]) (n := 1) (Nat.le_of_ble_eq_true rfl)
  rw [lg_entry_eq]
  generalize (lg_sl ([.ref h0]) ++ List.replicate (1 - (lg_sl ([.ref h0])).length) Slot.unset).toArray = ls at hl ⊢
  have hl : lv_has ls 1 [(0, .ref h0)] := hl
  unfold qf_Col_init at h
  refine lv_aload_n hx hb qd_Col_init_0 rfl (lv_at hl 0 rfl) ?_
  refine W.objInit hx hb hown (hts _ qw_159) (hts _ qw_21) (hts _ qw_22) rfl (by rw [hml]; exact hl.1) rfl qd_Col_init_1 (Nat.le_of_ble_eq_true rfl) (Nat.le_of_ble_eq_true rfl) ?_
  refine W.eq (g2 := F0 m 4 ls []) rfl ?_
  obtain ⟨d0, hd0⟩ : ∃ d : Nat → Nat, d = (fun k => ([0, 0, 0, 0] : List Nat).getD k 0) := ⟨_, rfl⟩
  have hP := hP.sub (ws' := [(h0, .inr (1, [.int 0, .int 0, .int 0, .int 0]))]) [0] rfl
  have hD := hD.sub (ws' := [(h0, .inr (1, [.int 0, .int 0, .int 0, .int 0]))]) [0] (by decide) rfl
  have hWe : ([(h0, .inr (1, [.int 0, .int 0, .int 0, .int 0]))] : va_W) = [(h0, .inr (1, [.int 0, .int 0, .int 0, .int 0]))] := by
    subst hd0
    rfl
  have hP := q_reP hWe hP
  have hD := q_reD hWe hD
  refine W.widen (k := 0) (n := 0) (by decide) (by decide) ?_
  have hl := lv_sub (l' := [(0, .ref h0)]) hl [0] rfl
  refine lv_aload_n hx hb qd_Col_init_4 rfl (lv_at hl 0 rfl) ?_
  refine lv_iconst (v := 0) hx hb qd_Col_init_5 rfl ?_
  refine va_put (D := (dC, dI)) (ci := 1) (v := .int 0) (ty := .int) (C := "QuietSweep$Collector") (T := qT_Col) (N := 4) hx hb hts qi_Col qt_Col qo_Col qn_Col hown hK.1 hP hD hS 0 rfl rfl 0 (by decide) (hts _ qw_160) (fun _ h9 => h9) rfl (qo_Col 0 (by decide)) rfl rfl (Nat.le_of_ble_eq_true rfl) qd_Col_init_6 (fun H locs hP hD hS => ?_)
  have hP : va_P (dC, dI) qCl [(h0, .inr (1, [.int 0, .int 0, .int 0, .int 0]))] _ := hP
  have hD : va_D A [(h0, .inr (1, [.int 0, .int 0, .int 0, .int 0]))] := hD
  refine lv_aload_n hx hb qd_Col_init_9 rfl (lv_at hl 0 rfl) ?_
  refine lv_iconst (v := 0) hx hb qd_Col_init_10 rfl ?_
  refine va_put (D := (dC, dI)) (ci := 1) (v := .int 0) (ty := .int) (C := "QuietSweep$Collector") (T := qT_Col) (N := 4) hx hb hts qi_Col qt_Col qo_Col qn_Col hown hK.1 hP hD hS 0 rfl rfl 1 (by decide) (hts _ qw_162) (fun _ h9 => h9) rfl (qo_Col 1 (by decide)) rfl rfl (Nat.le_of_ble_eq_true rfl) qd_Col_init_11 (fun H locs hP hD hS => ?_)
  have hP : va_P (dC, dI) qCl [(h0, .inr (1, [.int 0, .int 0, .int 0, .int 0]))] _ := hP
  have hD : va_D A [(h0, .inr (1, [.int 0, .int 0, .int 0, .int 0]))] := hD
  refine lv_aload_n hx hb qd_Col_init_14 rfl (lv_at hl 0 rfl) ?_
  refine lv_iconst (v := (-1)) hx hb qd_Col_init_15 rfl ?_
  refine va_put (D := (dC, dI)) (ci := 1) (v := .int (-1)) (ty := .int) (C := "QuietSweep$Collector") (T := qT_Col) (N := 4) hx hb hts qi_Col qt_Col qo_Col qn_Col hown hK.1 hP hD hS 0 rfl rfl 2 (by decide) (hts _ qw_164) (fun _ h9 => h9) rfl (qo_Col 2 (by decide)) rfl rfl (Nat.le_of_ble_eq_true rfl) qd_Col_init_16 (fun H locs hP hD hS => ?_)
  have hP : va_P (dC, dI) qCl [(h0, .inr (1, [.int 0, .int 0, .int (-1), .int 0]))] _ := hP
  have hD : va_D A [(h0, .inr (1, [.int 0, .int 0, .int (-1), .int 0]))] := hD
  refine lv_aload_n hx hb qd_Col_init_19 rfl (lv_at hl 0 rfl) ?_
  refine lv_iconst (v := 0) hx hb qd_Col_init_20 rfl ?_
  refine va_put (D := (dC, dI)) (ci := 1) (v := .int 0) (ty := .int) (C := "QuietSweep$Collector") (T := qT_Col) (N := 4) hx hb hts qi_Col qt_Col qo_Col qn_Col hown hK.1 hP hD hS 0 rfl rfl 3 (by decide) (hts _ qw_165) (fun _ h9 => h9) rfl (qo_Col 3 (by decide)) rfl rfl (Nat.le_of_ble_eq_true rfl) qd_Col_init_21 (fun H locs hP hD hS => ?_)
  have hP : va_P (dC, dI) qCl [(h0, .inr (1, [.int 0, .int 0, .int (-1), .int 0]))] _ := hP
  have hD : va_D A [(h0, .inr (1, [.int 0, .int 0, .int (-1), .int 0]))] := hD
  obtain rfl := Option.some.inj h
  exact W.vret hx hb hr (fun t ht hW => ⟨⟨d0, rfl, trivial, by rw [ht]; exact hP, hD⟩, hS.F ht⟩) hS.2.2 qd_Col_init_24
/-! Src_init -/
def qf_Src_init  : Option (QS) := (some qz)
set_option maxHeartbeats 4000000 in
set_option maxRecDepth 100000 in
theorem qm_Src_init (l : Launch) (dC : Nat → ClassId) (dI : Nat → Nat → Nat) (cI cC cB cM : ClassId) (h0 : Nat)  (sz : Nat) (o : QS) (h : qf_Src_init  = some o) : Met l qy_Src_init (ql_Src_init :: qG) ({ frames := 1, cells := 3, slots := 126, locals := 12 } : Room) (qPc dC dI cI cC cB cM [.ref h0] sz [(h0, .inr (5, [.null, .int 0, .null, .int 0, .null, .int 0]))]) (va_Qv (fun _ : (Nat → Nat) => True) (fun u t => va_P (dC, dI) qCl [(h0, .inr (5, [.ref (u 0), .int (o 1 0), .ref (u 2), .int (o 3 0), .ref (u 4), .int (o 5 0)])), (u 0, .inl (cC, 60, .inl (o 0))), (u 2, .inl (cI, 60, .inl (o 2))), (u 4, .inl (cI, 6, .inl (o 4)))] t.heap ∧ va_D (va_A [(h0, .inr (5, [.null, .int 0, .null, .int 0, .null, .int 0]))] sz) [(h0, .inr (5, [.ref (u 0), .int (o 1 0), .ref (u 2), .int (o 3 0), .ref (u 4), .int (o 5 0)])), (u 0, .inl (cC, 60, .inl (o 0))), (u 2, .inl (cI, 60, .inl (o 2))), (u 4, .inl (cI, 6, .inl (o 4)))]) (va_A [(h0, .inr (5, [.null, .int 0, .null, .int 0, .null, .int 0]))] sz)) 3 126 (va_A [(h0, .inr (5, [.null, .int 0, .null, .int 0, .null, .int 0]))] sz) := by
  refine Met.ofW (cc := qc_Src_init) (maxL := 1) (ret := none) (by decide) rfl ?_
  intro p e s m args below meth c s₁ B hml hv
  obtain ⟨rfl, hsz, hP, hK, hD0⟩ := hv
  have hx := B.exec
  have hb := B.bytes
  have hr := B.returns
  have hts0 := atoms_spec (ws := ql_Src_init :: qG) B.pre
  have hts := fun (w : Cond) (hw : w ∈ qG) => hts0 w (List.mem_cons_of_mem _ hw)
  have hown : s.vm.findClass "QuietSweep$Source" = some m.cls := findClass_of_methodNamed B.named
  have hlocks := B.notSynchronized
  have hin : meth.name = "<init>" := (name_of_methodNamed B.named B.method).1
  subst hsz
  have hD := hD0.self (sz := s.heap.size)
  generalize hAe : va_A [(h0, .inr (5, [.null, .int 0, .null, .int 0, .null, .int 0]))] s.heap.size = A at hD ⊢
  have hA : ∀ q : Nat, s.heap.size ≤ q → A q := fun q h => by rw [← hAe]; exact Or.inr h
  have hS : va_S A s.heap s.heap [] := va_S.rf
  have hl := lv_entry ([.ref h0]) (n := 1) (Nat.le_of_ble_eq_true rfl)
  rw [lg_entry_eq]
  generalize (lg_sl ([.ref h0]) ++ List.replicate (1 - (lg_sl ([.ref h0])).length) Slot.unset).toArray = ls at hl ⊢
  have hl : lv_has ls 1 [(0, .ref h0)] := hl
  unfold qf_Src_init at h
  refine lv_aload_n hx hb qd_Src_init_0 rfl (lv_at hl 0 rfl) ?_
  refine W.objInit hx hb hown (hts _ qw_28) (hts _ qw_21) (hts _ qw_22) rfl (by rw [hml]; exact hl.1) rfl qd_Src_init_1 (Nat.le_of_ble_eq_true rfl) (Nat.le_of_ble_eq_true rfl) ?_
  refine W.eq (g2 := F0 m 4 ls []) rfl ?_
  refine lv_aload_n hx hb qd_Src_init_4 rfl (lv_at hl 0 rfl) ?_
  refine lv_bipush (v := 60) hx hb qd_Src_init_5 (by decide) ?_
  refine va_newa (D := (dC, dI)) (atype := .char) (ty := .char) (N' := 60) (a0 := (60, .inl (fun _ => 0))) hx hb (hts _ qw_50) rfl hK.1 hP hD hS hA (fun _ => rfl) (by decide) (by decide) (by decide) (by decide) (by decide) qd_Src_init_7 (fun q7 cA H hK2 hP hD hS => ?_)
  have e : cC = cA := q_ra (hK.1.2 1 _ rfl).2 (hK2.2 4 _ rfl).2
  subst e
  have hP : va_P (dC, dI) qCl [(h0, .inr (5, [.null, .int 0, .null, .int 0, .null, .int 0])), (q7, .inl (cC, 60, .inl (fun _ => 0)))] _ := hP
  have hD : va_D A [(h0, .inr (5, [.null, .int 0, .null, .int 0, .null, .int 0])), (q7, .inl (cC, 60, .inl (fun _ => 0)))] := hD
  refine va_putF (D := (dC, dI)) (ci := 5) (v := .ref q7) (ty := (.array .char)) (C := "QuietSweep$Source") (T := qT_Src) (N := 6) hx hb hts qi_Src qt_Src qo_Src qn_Src hown hK.1 hP hD hS 0 rfl rfl 0 (by decide) (hts _ qw_29) (fun _ h9 => h9) rfl hin rfl (qo_Src 0 (by decide)) rfl rfl (Nat.le_of_ble_eq_true rfl) qd_Src_init_9 (fun H locs hP hD hS => ?_)
  have hP : va_P (dC, dI) qCl [(h0, .inr (5, [.ref q7, .int 0, .null, .int 0, .null, .int 0])), (q7, .inl (cC, 60, .inl (fun _ => 0)))] _ := hP
  have hD : va_D A [(h0, .inr (5, [.ref q7, .int 0, .null, .int 0, .null, .int 0])), (q7, .inl (cC, 60, .inl (fun _ => 0)))] := hD
  refine lv_aload_n hx hb qd_Src_init_12 rfl (lv_at hl 0 rfl) ?_
  refine lv_iconst (v := 0) hx hb qd_Src_init_13 rfl ?_
  refine va_put (D := (dC, dI)) (ci := 5) (v := .int 0) (ty := .int) (C := "QuietSweep$Source") (T := qT_Src) (N := 6) hx hb hts qi_Src qt_Src qo_Src qn_Src hown hK.1 hP hD hS 0 rfl rfl 1 (by decide) (hts _ qw_30) (fun _ h9 => h9) rfl (qo_Src 1 (by decide)) rfl rfl (Nat.le_of_ble_eq_true rfl) qd_Src_init_14 (fun H locs hP hD hS => ?_)
  have hP : va_P (dC, dI) qCl [(h0, .inr (5, [.ref q7, .int 0, .null, .int 0, .null, .int 0])), (q7, .inl (cC, 60, .inl (fun _ => 0)))] _ := hP
  have hD : va_D A [(h0, .inr (5, [.ref q7, .int 0, .null, .int 0, .null, .int 0])), (q7, .inl (cC, 60, .inl (fun _ => 0)))] := hD
  refine lv_aload_n hx hb qd_Src_init_17 rfl (lv_at hl 0 rfl) ?_
  refine lv_bipush (v := 60) hx hb qd_Src_init_18 (by decide) ?_
  refine va_newa (D := (dC, dI)) (atype := .int) (ty := .int) (N' := 60) (a0 := (60, .inl (fun _ => 0))) hx hb (hts _ qw_51) rfl hK.1 hP hD hS hA (fun _ => rfl) (by decide) (by decide) (by decide) (by decide) (by decide) qd_Src_init_20 (fun q20 cA H hK2 hP hD hS => ?_)
  have e : cI = cA := q_ra (hK.1.2 0 _ rfl).2 (hK2.2 4 _ rfl).2
  subst e
  have hP : va_P (dC, dI) qCl [(h0, .inr (5, [.ref q7, .int 0, .null, .int 0, .null, .int 0])), (q7, .inl (cC, 60, .inl (fun _ => 0))), (q20, .inl (cI, 60, .inl (fun _ => 0)))] _ := hP
  have hD : va_D A [(h0, .inr (5, [.ref q7, .int 0, .null, .int 0, .null, .int 0])), (q7, .inl (cC, 60, .inl (fun _ => 0))), (q20, .inl (cI, 60, .inl (fun _ => 0)))] := hD
  refine va_putF (D := (dC, dI)) (ci := 5) (v := .ref q20) (ty := (.array .int)) (C := "QuietSweep$Source") (T := qT_Src) (N := 6) hx hb hts qi_Src qt_Src qo_Src qn_Src hown hK.1 hP hD hS 0 rfl rfl 2 (by decide) (hts _ qw_31) (fun _ h9 => h9) rfl hin rfl (qo_Src 2 (by decide)) rfl rfl (Nat.le_of_ble_eq_true rfl) qd_Src_init_22 (fun H locs hP hD hS => ?_)
  have hP : va_P (dC, dI) qCl [(h0, .inr (5, [.ref q7, .int 0, .ref q20, .int 0, .null, .int 0])), (q7, .inl (cC, 60, .inl (fun _ => 0))), (q20, .inl (cI, 60, .inl (fun _ => 0)))] _ := hP
  have hD : va_D A [(h0, .inr (5, [.ref q7, .int 0, .ref q20, .int 0, .null, .int 0])), (q7, .inl (cC, 60, .inl (fun _ => 0))), (q20, .inl (cI, 60, .inl (fun _ => 0)))] := hD
  refine lv_aload_n hx hb qd_Src_init_25 rfl (lv_at hl 0 rfl) ?_
  refine lv_iconst (v := 0) hx hb qd_Src_init_26 rfl ?_
  refine va_put (D := (dC, dI)) (ci := 5) (v := .int 0) (ty := .int) (C := "QuietSweep$Source") (T := qT_Src) (N := 6) hx hb hts qi_Src qt_Src qo_Src qn_Src hown hK.1 hP hD hS 0 rfl rfl 3 (by decide) (hts _ qw_33) (fun _ h9 => h9) rfl (qo_Src 3 (by decide)) rfl rfl (Nat.le_of_ble_eq_true rfl) qd_Src_init_27 (fun H locs hP hD hS => ?_)
  have hP : va_P (dC, dI) qCl [(h0, .inr (5, [.ref q7, .int 0, .ref q20, .int 0, .null, .int 0])), (q7, .inl (cC, 60, .inl (fun _ => 0))), (q20, .inl (cI, 60, .inl (fun _ => 0)))] _ := hP
  have hD : va_D A [(h0, .inr (5, [.ref q7, .int 0, .ref q20, .int 0, .null, .int 0])), (q7, .inl (cC, 60, .inl (fun _ => 0))), (q20, .inl (cI, 60, .inl (fun _ => 0)))] := hD
  refine lv_aload_n hx hb qd_Src_init_30 rfl (lv_at hl 0 rfl) ?_
  refine lv_bipush (v := 6) hx hb qd_Src_init_31 (by decide) ?_
  refine va_newa (D := (dC, dI)) (atype := .int) (ty := .int) (N' := 6) (a0 := (6, .inl (fun _ => 0))) hx hb (hts _ qw_51) rfl hK.1 hP hD hS hA (fun _ => rfl) (by decide) (by decide) (by decide) (by decide) (by decide) qd_Src_init_33 (fun q33 cA H hK2 hP hD hS => ?_)
  have e : cI = cA := q_ra (hK.1.2 0 _ rfl).2 (hK2.2 4 _ rfl).2
  subst e
  have hP : va_P (dC, dI) qCl [(h0, .inr (5, [.ref q7, .int 0, .ref q20, .int 0, .null, .int 0])), (q7, .inl (cC, 60, .inl (fun _ => 0))), (q20, .inl (cI, 60, .inl (fun _ => 0))), (q33, .inl (cI, 6, .inl (fun _ => 0)))] _ := hP
  have hD : va_D A [(h0, .inr (5, [.ref q7, .int 0, .ref q20, .int 0, .null, .int 0])), (q7, .inl (cC, 60, .inl (fun _ => 0))), (q20, .inl (cI, 60, .inl (fun _ => 0))), (q33, .inl (cI, 6, .inl (fun _ => 0)))] := hD
  refine va_putF (D := (dC, dI)) (ci := 5) (v := .ref q33) (ty := (.array .int)) (C := "QuietSweep$Source") (T := qT_Src) (N := 6) hx hb hts qi_Src qt_Src qo_Src qn_Src hown hK.1 hP hD hS 0 rfl rfl 4 (by decide) (hts _ qw_35) (fun _ h9 => h9) rfl hin rfl (qo_Src 4 (by decide)) rfl rfl (Nat.le_of_ble_eq_true rfl) qd_Src_init_35 (fun H locs hP hD hS => ?_)
  have hP : va_P (dC, dI) qCl [(h0, .inr (5, [.ref q7, .int 0, .ref q20, .int 0, .ref q33, .int 0])), (q7, .inl (cC, 60, .inl (fun _ => 0))), (q20, .inl (cI, 60, .inl (fun _ => 0))), (q33, .inl (cI, 6, .inl (fun _ => 0)))] _ := hP
  have hD : va_D A [(h0, .inr (5, [.ref q7, .int 0, .ref q20, .int 0, .ref q33, .int 0])), (q7, .inl (cC, 60, .inl (fun _ => 0))), (q20, .inl (cI, 60, .inl (fun _ => 0))), (q33, .inl (cI, 6, .inl (fun _ => 0)))] := hD
  obtain ⟨d0, hd0⟩ : ∃ d : Nat → Nat, d = (fun k => ([q7, 0, q20, 0, q33, 0] : List Nat).getD k 0) := ⟨_, rfl⟩
  have hP := hP.sub (ws' := [(h0, .inr (5, [.ref q7, .int 0, .ref q20, .int 0, .ref q33, .int 0])), (q7, .inl (cC, 60, .inl (fun _ => 0))), (q20, .inl (cI, 60, .inl (fun _ => 0))), (q33, .inl (cI, 6, .inl (fun _ => 0)))]) [0, 1, 2, 3] rfl
  have hD := hD.sub (ws' := [(h0, .inr (5, [.ref q7, .int 0, .ref q20, .int 0, .ref q33, .int 0])), (q7, .inl (cC, 60, .inl (fun _ => 0))), (q20, .inl (cI, 60, .inl (fun _ => 0))), (q33, .inl (cI, 6, .inl (fun _ => 0)))]) [0, 1, 2, 3] (by decide) rfl
  have hWe : ([(h0, .inr (5, [.ref q7, .int 0, .ref q20, .int 0, .ref q33, .int 0])), (q7, .inl (cC, 60, .inl (fun _ => 0))), (q20, .inl (cI, 60, .inl (fun _ => 0))), (q33, .inl (cI, 6, .inl (fun _ => 0)))] : va_W) = [(h0, .inr (5, [.ref (d0 0), .int 0, .ref (d0 2), .int 0, .ref (d0 4), .int 0])), (d0 0, .inl (cC, 60, .inl (fun _ => 0))), (d0 2, .inl (cI, 60, .inl (fun _ => 0))), (d0 4, .inl (cI, 6, .inl (fun _ => 0)))] := by
    subst hd0
    rfl
  have hP := q_reP hWe hP
  have hD := q_reD hWe hD
  refine W.widen (k := 3) (n := 126) (by decide) (by decide) ?_
  have hl := lv_sub (l' := [(0, .ref h0)]) hl [0] rfl
  refine lv_aload_n hx hb qd_Src_init_38 rfl (lv_at hl 0 rfl) ?_
  refine lv_iconst (v := 0) hx hb qd_Src_init_39 rfl ?_
  refine va_put (D := (dC, dI)) (ci := 5) (v := .int 0) (ty := .int) (C := "QuietSweep$Source") (T := qT_Src) (N := 6) hx hb hts qi_Src qt_Src qo_Src qn_Src hown hK.1 hP hD hS 0 rfl rfl 5 (by decide) (hts _ qw_36) (fun _ h9 => h9) rfl (qo_Src 5 (by decide)) rfl rfl (Nat.le_of_ble_eq_true rfl) qd_Src_init_40 (fun H locs hP hD hS => ?_)
  have hP : va_P (dC, dI) qCl [(h0, .inr (5, [.ref (d0 0), .int 0, .ref (d0 2), .int 0, .ref (d0 4), .int 0])), (d0 0, .inl (cC, 60, .inl (fun _ => 0))), (d0 2, .inl (cI, 60, .inl (fun _ => 0))), (d0 4, .inl (cI, 6, .inl (fun _ => 0)))] _ := hP
  have hD : va_D A [(h0, .inr (5, [.ref (d0 0), .int 0, .ref (d0 2), .int 0, .ref (d0 4), .int 0])), (d0 0, .inl (cC, 60, .inl (fun _ => 0))), (d0 2, .inl (cI, 60, .inl (fun _ => 0))), (d0 4, .inl (cI, 6, .inl (fun _ => 0)))] := hD
  obtain rfl := Option.some.inj h
  exact W.vret hx hb hr (fun t ht hW => ⟨⟨d0, rfl, trivial, by rw [ht]; exact hP, hD⟩, hS.F ht⟩) hS.2.2 qd_Src_init_43
/-! Mut_init -/
def qf_Mut_init  : Option (QS × QS × QS) := ((qf_Buf_init).bind fun q1 => ((qf_Out_init).bind fun q3 => (some ((qp qz 3 (upd (upd (upd (upd (fun _ => 0) (Int32.toNatClampNeg 0) (-1)) (Int32.toNatClampNeg 1) (-1)) (Int32.toNatClampNeg 2) (-1)) (Int32.toNatClampNeg 3) (-1))), q1, q3))))
set_option maxHeartbeats 4000000 in
set_option maxRecDepth 100000 in
theorem qm_Mut_init (l : Launch) (dC : Nat → ClassId) (dI : Nat → Nat → Nat) (cI cC cB cM : ClassId) (h0 : Nat)  (sz : Nat) (o : QS × QS × QS) (h : qf_Mut_init  = some o) : Met l qy_Mut_init (ql_Mut_init :: qG) ({ frames := 2, cells := 9, slots := 98, locals := 32 } : Room) (qPc dC dI cI cC cB cM [.ref h0] sz [(h0, .inr (3, [.null, .int 0, .int 0, .null, .null, .int 0, .int 0, .null, .null]))]) (va_Qv (fun _ : (Nat → Nat) × (Nat → Nat) × (Nat → Nat) => True) (fun u t => va_P (dC, dI) qCl [(h0, .inr (3, [.ref ((u.1) 0), .int (o.1 1 0), .int (o.1 2 0), .ref ((u.1) 3), .ref ((u.1) 4), .int (o.1 5 0), .int (o.1 6 0), .ref ((u.1) 7), .ref ((u.1) 8)])), ((u.1) 0, .inl (cI, 60, .inl (o.1 0))), ((u.1) 3, .inl (cI, 4, .inl (o.1 3))), ((u.1) 4, .inl (cI, 3, .inl (o.1 4))), (((u.1) 7), .inr (0, [.ref ((u.2.1) 0), .ref ((u.2.1) 1), .ref ((u.2.1) 2), .int (o.2.1 3 0)])), ((u.2.1) 0, .inl (cI, 3, .inl (o.2.1 0))), ((u.2.1) 1, .inl (cI, 3, .inl (o.2.1 1))), ((u.2.1) 2, .inl (cI, 3, .inl (o.2.1 2))), (((u.1) 8), .inr (4, [.ref ((u.2.2) 0), .int (o.2.2 1 0)])), ((u.2.2) 0, .inl (cI, 16, .inl (o.2.2 0)))] t.heap ∧ va_D (va_A [(h0, .inr (3, [.null, .int 0, .int 0, .null, .null, .int 0, .int 0, .null, .null]))] sz) [(h0, .inr (3, [.ref ((u.1) 0), .int (o.1 1 0), .int (o.1 2 0), .ref ((u.1) 3), .ref ((u.1) 4), .int (o.1 5 0), .int (o.1 6 0), .ref ((u.1) 7), .ref ((u.1) 8)])), ((u.1) 0, .inl (cI, 60, .inl (o.1 0))), ((u.1) 3, .inl (cI, 4, .inl (o.1 3))), ((u.1) 4, .inl (cI, 3, .inl (o.1 4))), (((u.1) 7), .inr (0, [.ref ((u.2.1) 0), .ref ((u.2.1) 1), .ref ((u.2.1) 2), .int (o.2.1 3 0)])), ((u.2.1) 0, .inl (cI, 3, .inl (o.2.1 0))), ((u.2.1) 1, .inl (cI, 3, .inl (o.2.1 1))), ((u.2.1) 2, .inl (cI, 3, .inl (o.2.1 2))), (((u.1) 8), .inr (4, [.ref ((u.2.2) 0), .int (o.2.2 1 0)])), ((u.2.2) 0, .inl (cI, 16, .inl (o.2.2 0)))]) (va_A [(h0, .inr (3, [.null, .int 0, .int 0, .null, .null, .int 0, .int 0, .null, .null]))] sz)) 9 98 (va_A [(h0, .inr (3, [.null, .int 0, .int 0, .null, .null, .int 0, .int 0, .null, .null]))] sz) := by
  refine Met.ofW (cc := qc_Mut_init) (maxL := 1) (ret := none) (by decide) rfl ?_
  intro p e s m args below meth c s₁ B hml hv
  obtain ⟨rfl, hsz, hP, hK, hD0⟩ := hv
  have hx := B.exec
  have hb := B.bytes
  have hr := B.returns
  have hts0 := atoms_spec (ws := ql_Mut_init :: qG) B.pre
  have hts := fun (w : Cond) (hw : w ∈ qG) => hts0 w (List.mem_cons_of_mem _ hw)
  have hown : s.vm.findClass "QuietSweep$Mutator" = some m.cls := findClass_of_methodNamed B.named
  have hlocks := B.notSynchronized
  have hin : meth.name = "<init>" := (name_of_methodNamed B.named B.method).1
  subst hsz
  have hD := hD0.self (sz := s.heap.size)
  generalize hAe : va_A [(h0, .inr (3, [.null, .int 0, .int 0, .null, .null, .int 0, .int 0, .null, .null]))] s.heap.size = A at hD ⊢
  have hA : ∀ q : Nat, s.heap.size ≤ q → A q := fun q h => by rw [← hAe]; exact Or.inr h
  have hS : va_S A s.heap s.heap [] := va_S.rf
  have hl := lv_entry ([.ref h0]) (n := 1) (Nat.le_of_ble_eq_true rfl)
  rw [lg_entry_eq]
  generalize (lg_sl ([.ref h0]) ++ List.replicate (1 - (lg_sl ([.ref h0])).length) Slot.unset).toArray = ls at hl ⊢
  have hl : lv_has ls 1 [(0, .ref h0)] := hl
  unfold qf_Mut_init at h
  refine lv_aload_n hx hb qd_Mut_init_0 rfl (lv_at hl 0 rfl) ?_
  refine W.objInit hx hb hown (hts _ qw_85) (hts _ qw_21) (hts _ qw_22) rfl (by rw [hml]; exact hl.1) rfl qd_Mut_init_1 (Nat.le_of_ble_eq_true rfl) (Nat.le_of_ble_eq_true rfl) ?_
  refine W.eq (g2 := F0 m 4 ls []) rfl ?_
  refine lv_aload_n hx hb qd_Mut_init_4 rfl (lv_at hl 0 rfl) ?_
  refine lv_bipush (v := 60) hx hb qd_Mut_init_5 (by decide) ?_
  refine va_newa (D := (dC, dI)) (atype := .int) (ty := .int) (N' := 60) (a0 := (60, .inl (fun _ => 0))) hx hb (hts _ qw_51) rfl hK.1 hP hD hS hA (fun _ => rfl) (by decide) (by decide) (by decide) (by decide) (by decide) qd_Mut_init_7 (fun q7 cA H hK2 hP hD hS => ?_)
  have e : cI = cA := q_ra (hK.1.2 0 _ rfl).2 (hK2.2 4 _ rfl).2
  subst e
  have hP : va_P (dC, dI) qCl [(h0, .inr (3, [.null, .int 0, .int 0, .null, .null, .int 0, .int 0, .null, .null])), (q7, .inl (cI, 60, .inl (fun _ => 0)))] _ := hP
  have hD : va_D A [(h0, .inr (3, [.null, .int 0, .int 0, .null, .null, .int 0, .int 0, .null, .null])), (q7, .inl (cI, 60, .inl (fun _ => 0)))] := hD
  refine va_putF (D := (dC, dI)) (ci := 3) (v := .ref q7) (ty := (.array .int)) (C := "QuietSweep$Mutator") (T := qT_Mut) (N := 9) hx hb hts qi_Mut qt_Mut qo_Mut qn_Mut hown hK.1 hP hD hS 0 rfl rfl 0 (by decide) (hts _ qw_120) (fun _ h9 => h9) rfl hin rfl (qo_Mut 0 (by decide)) rfl rfl (Nat.le_of_ble_eq_true rfl) qd_Mut_init_9 (fun H locs hP hD hS => ?_)
  have hP : va_P (dC, dI) qCl [(h0, .inr (3, [.ref q7, .int 0, .int 0, .null, .null, .int 0, .int 0, .null, .null])), (q7, .inl (cI, 60, .inl (fun _ => 0)))] _ := hP
  have hD : va_D A [(h0, .inr (3, [.ref q7, .int 0, .int 0, .null, .null, .int 0, .int 0, .null, .null])), (q7, .inl (cI, 60, .inl (fun _ => 0)))] := hD
  refine lv_aload_n hx hb qd_Mut_init_12 rfl (lv_at hl 0 rfl) ?_
  refine lv_iconst (v := 0) hx hb qd_Mut_init_13 rfl ?_
  refine va_put (D := (dC, dI)) (ci := 3) (v := .int 0) (ty := .int) (C := "QuietSweep$Mutator") (T := qT_Mut) (N := 9) hx hb hts qi_Mut qt_Mut qo_Mut qn_Mut hown hK.1 hP hD hS 0 rfl rfl 1 (by decide) (hts _ qw_121) (fun _ h9 => h9) rfl (qo_Mut 1 (by decide)) rfl rfl (Nat.le_of_ble_eq_true rfl) qd_Mut_init_14 (fun H locs hP hD hS => ?_)
  have hP : va_P (dC, dI) qCl [(h0, .inr (3, [.ref q7, .int 0, .int 0, .null, .null, .int 0, .int 0, .null, .null])), (q7, .inl (cI, 60, .inl (fun _ => 0)))] _ := hP
  have hD : va_D A [(h0, .inr (3, [.ref q7, .int 0, .int 0, .null, .null, .int 0, .int 0, .null, .null])), (q7, .inl (cI, 60, .inl (fun _ => 0)))] := hD
  refine lv_aload_n hx hb qd_Mut_init_17 rfl (lv_at hl 0 rfl) ?_
  refine lv_iconst (v := 0) hx hb qd_Mut_init_18 rfl ?_
  refine va_put (D := (dC, dI)) (ci := 3) (v := .int 0) (ty := .int) (C := "QuietSweep$Mutator") (T := qT_Mut) (N := 9) hx hb hts qi_Mut qt_Mut qo_Mut qn_Mut hown hK.1 hP hD hS 0 rfl rfl 2 (by decide) (hts _ qw_122) (fun _ h9 => h9) rfl (qo_Mut 2 (by decide)) rfl rfl (Nat.le_of_ble_eq_true rfl) qd_Mut_init_19 (fun H locs hP hD hS => ?_)
  have hP : va_P (dC, dI) qCl [(h0, .inr (3, [.ref q7, .int 0, .int 0, .null, .null, .int 0, .int 0, .null, .null])), (q7, .inl (cI, 60, .inl (fun _ => 0)))] _ := hP
  have hD : va_D A [(h0, .inr (3, [.ref q7, .int 0, .int 0, .null, .null, .int 0, .int 0, .null, .null])), (q7, .inl (cI, 60, .inl (fun _ => 0)))] := hD
  refine lv_aload_n hx hb qd_Mut_init_22 rfl (lv_at hl 0 rfl) ?_
  refine lv_iconst (v := 4) hx hb qd_Mut_init_23 rfl ?_
  refine va_newa (D := (dC, dI)) (atype := .int) (ty := .int) (N' := 4) (a0 := (4, .inl (fun _ => 0))) hx hb (hts _ qw_51) rfl hK.1 hP hD hS hA (fun _ => rfl) (by decide) (by decide) (by decide) (by decide) (by decide) qd_Mut_init_24 (fun q24 cA H hK2 hP hD hS => ?_)
  have e : cI = cA := q_ra (hK.1.2 0 _ rfl).2 (hK2.2 4 _ rfl).2
  subst e
  have hP : va_P (dC, dI) qCl [(h0, .inr (3, [.ref q7, .int 0, .int 0, .null, .null, .int 0, .int 0, .null, .null])), (q7, .inl (cI, 60, .inl (fun _ => 0))), (q24, .inl (cI, 4, .inl (fun _ => 0)))] _ := hP
  have hD : va_D A [(h0, .inr (3, [.ref q7, .int 0, .int 0, .null, .null, .int 0, .int 0, .null, .null])), (q7, .inl (cI, 60, .inl (fun _ => 0))), (q24, .inl (cI, 4, .inl (fun _ => 0)))] := hD
  refine lv_dup hx hb qd_Mut_init_26 rfl ?_
  refine lv_iconst (v := 0) hx hb qd_Mut_init_27 rfl ?_
  refine lv_iconst (v := (-1)) hx hb qd_Mut_init_28 rfl ?_
  refine va_iast hx hb hK.1 hP hD hS 2 0 rfl rfl (by decide : ¬ ((0 : Int32) < 0 ∨ 4 ≤ (0 : Int32).toNatClampNeg)) qd_Mut_init_29 (fun H locs hP hD hS => ?_)
  have hP : va_P (dC, dI) qCl [(h0, .inr (3, [.ref q7, .int 0, .int 0, .null, .null, .int 0, .int 0, .null, .null])), (q7, .inl (cI, 60, .inl (fun _ => 0))), (q24, .inl (cI, 4, .inl (upd (fun _ => 0) (Int32.toNatClampNeg 0) (-1))))] _ := hP
  have hD : va_D A [(h0, .inr (3, [.ref q7, .int 0, .int 0, .null, .null, .int 0, .int 0, .null, .null])), (q7, .inl (cI, 60, .inl (fun _ => 0))), (q24, .inl (cI, 4, .inl (upd (fun _ => 0) (Int32.toNatClampNeg 0) (-1))))] := hD
  refine lv_dup hx hb qd_Mut_init_30 rfl ?_
  refine lv_iconst (v := 1) hx hb qd_Mut_init_31 rfl ?_
  refine lv_iconst (v := (-1)) hx hb qd_Mut_init_32 rfl ?_
  refine va_iast hx hb hK.1 hP hD hS 2 0 rfl rfl (by decide : ¬ ((1 : Int32) < 0 ∨ 4 ≤ (1 : Int32).toNatClampNeg)) qd_Mut_init_33 (fun H locs hP hD hS => ?_)
  have hP : va_P (dC, dI) qCl [(h0, .inr (3, [.ref q7, .int 0, .int 0, .null, .null, .int 0, .int 0, .null, .null])), (q7, .inl (cI, 60, .inl (fun _ => 0))), (q24, .inl (cI, 4, .inl (upd (upd (fun _ => 0) (Int32.toNatClampNeg 0) (-1)) (Int32.toNatClampNeg 1) (-1))))] _ := hP
  have hD : va_D A [(h0, .inr (3, [.ref q7, .int 0, .int 0, .null, .null, .int 0, .int 0, .null, .null])), (q7, .inl (cI, 60, .inl (fun _ => 0))), (q24, .inl (cI, 4, .inl (upd (upd (fun _ => 0) (Int32.toNatClampNeg 0) (-1)) (Int32.toNatClampNeg 1) (-1))))] := hD
  refine lv_dup hx hb qd_Mut_init_34 rfl ?_
  refine lv_iconst (v := 2) hx hb qd_Mut_init_35 rfl ?_
  refine lv_iconst (v := (-1)) hx hb qd_Mut_init_36 rfl ?_
  refine va_iast hx hb hK.1 hP hD hS 2 0 rfl rfl (by decide : ¬ ((2 : Int32) < 0 ∨ 4 ≤ (2 : Int32).toNatClampNeg)) qd_Mut_init_37 (fun H locs hP hD hS => ?_)
  have hP : va_P (dC, dI) qCl [(h0, .inr (3, [.ref q7, .int 0, .int 0, .null, .null, .int 0, .int 0, .null, .null])), (q7, .inl (cI, 60, .inl (fun _ => 0))), (q24, .inl (cI, 4, .inl (upd (upd (upd (fun _ => 0) (Int32.toNatClampNeg 0) (-1)) (Int32.toNatClampNeg 1) (-1)) (Int32.toNatClampNeg 2) (-1))))] _ := hP
  have hD : va_D A [(h0, .inr (3, [.ref q7, .int 0, .int 0, .null, .null, .int 0, .int 0, .null, .null])), (q7, .inl (cI, 60, .inl (fun _ => 0))), (q24, .inl (cI, 4, .inl (upd (upd (upd (fun _ => 0) (Int32.toNatClampNeg 0) (-1)) (Int32.toNatClampNeg 1) (-1)) (Int32.toNatClampNeg 2) (-1))))] := hD
  refine lv_dup hx hb qd_Mut_init_38 rfl ?_
  refine lv_iconst (v := 3) hx hb qd_Mut_init_39 rfl ?_
  refine lv_iconst (v := (-1)) hx hb qd_Mut_init_40 rfl ?_
  refine va_iast hx hb hK.1 hP hD hS 2 0 rfl rfl (by decide : ¬ ((3 : Int32) < 0 ∨ 4 ≤ (3 : Int32).toNatClampNeg)) qd_Mut_init_41 (fun H locs hP hD hS => ?_)
  have hP : va_P (dC, dI) qCl [(h0, .inr (3, [.ref q7, .int 0, .int 0, .null, .null, .int 0, .int 0, .null, .null])), (q7, .inl (cI, 60, .inl (fun _ => 0))), (q24, .inl (cI, 4, .inl (upd (upd (upd (upd (fun _ => 0) (Int32.toNatClampNeg 0) (-1)) (Int32.toNatClampNeg 1) (-1)) (Int32.toNatClampNeg 2) (-1)) (Int32.toNatClampNeg 3) (-1))))] _ := hP
  have hD : va_D A [(h0, .inr (3, [.ref q7, .int 0, .int 0, .null, .null, .int 0, .int 0, .null, .null])), (q7, .inl (cI, 60, .inl (fun _ => 0))), (q24, .inl (cI, 4, .inl (upd (upd (upd (upd (fun _ => 0) (Int32.toNatClampNeg 0) (-1)) (Int32.toNatClampNeg 1) (-1)) (Int32.toNatClampNeg 2) (-1)) (Int32.toNatClampNeg 3) (-1))))] := hD
  refine va_putF (D := (dC, dI)) (ci := 3) (v := .ref q24) (ty := (.array .int)) (C := "QuietSweep$Mutator") (T := qT_Mut) (N := 9) hx hb hts qi_Mut qt_Mut qo_Mut qn_Mut hown hK.1 hP hD hS 0 rfl rfl 3 (by decide) (hts _ qw_124) (fun _ h9 => h9) rfl hin rfl (qo_Mut 3 (by decide)) rfl rfl (Nat.le_of_ble_eq_true rfl) qd_Mut_init_42 (fun H locs hP hD hS => ?_)
  have hP : va_P (dC, dI) qCl [(h0, .inr (3, [.ref q7, .int 0, .int 0, .ref q24, .null, .int 0, .int 0, .null, .null])), (q7, .inl (cI, 60, .inl (fun _ => 0))), (q24, .inl (cI, 4, .inl (upd (upd (upd (upd (fun _ => 0) (Int32.toNatClampNeg 0) (-1)) (Int32.toNatClampNeg 1) (-1)) (Int32.toNatClampNeg 2) (-1)) (Int32.toNatClampNeg 3) (-1))))] _ := hP
  have hD : va_D A [(h0, .inr (3, [.ref q7, .int 0, .int 0, .ref q24, .null, .int 0, .int 0, .null, .null])), (q7, .inl (cI, 60, .inl (fun _ => 0))), (q24, .inl (cI, 4, .inl (upd (upd (upd (upd (fun _ => 0) (Int32.toNatClampNeg 0) (-1)) (Int32.toNatClampNeg 1) (-1)) (Int32.toNatClampNeg 2) (-1)) (Int32.toNatClampNeg 3) (-1))))] := hD
  refine lv_aload_n hx hb qd_Mut_init_45 rfl (lv_at hl 0 rfl) ?_
  refine lv_iconst (v := 3) hx hb qd_Mut_init_46 rfl ?_
  refine va_newa (D := (dC, dI)) (atype := .int) (ty := .int) (N' := 3) (a0 := (3, .inl (fun _ => 0))) hx hb (hts _ qw_51) rfl hK.1 hP hD hS hA (fun _ => rfl) (by decide) (by decide) (by decide) (by decide) (by decide) qd_Mut_init_47 (fun q47 cA H hK2 hP hD hS => ?_)
  have e : cI = cA := q_ra (hK.1.2 0 _ rfl).2 (hK2.2 4 _ rfl).2
  subst e
  have hP : va_P (dC, dI) qCl [(h0, .inr (3, [.ref q7, .int 0, .int 0, .ref q24, .null, .int 0, .int 0, .null, .null])), (q7, .inl (cI, 60, .inl (fun _ => 0))), (q24, .inl (cI, 4, .inl (upd (upd (upd (upd (fun _ => 0) (Int32.toNatClampNeg 0) (-1)) (Int32.toNatClampNeg 1) (-1)) (Int32.toNatClampNeg 2) (-1)) (Int32.toNatClampNeg 3) (-1)))), (q47, .inl (cI, 3, .inl (fun _ => 0)))] _ := hP
  have hD : va_D A [(h0, .inr (3, [.ref q7, .int 0, .int 0, .ref q24, .null, .int 0, .int 0, .null, .null])), (q7, .inl (cI, 60, .inl (fun _ => 0))), (q24, .inl (cI, 4, .inl (upd (upd (upd (upd (fun _ => 0) (Int32.toNatClampNeg 0) (-1)) (Int32.toNatClampNeg 1) (-1)) (Int32.toNatClampNeg 2) (-1)) (Int32.toNatClampNeg 3) (-1)))), (q47, .inl (cI, 3, .inl (fun _ => 0)))] := hD
  refine va_putF (D := (dC, dI)) (ci := 3) (v := .ref q47) (ty := (.array .int)) (C := "QuietSweep$Mutator") (T := qT_Mut) (N := 9) hx hb hts qi_Mut qt_Mut qo_Mut qn_Mut hown hK.1 hP hD hS 0 rfl rfl 4 (by decide) (hts _ qw_125) (fun _ h9 => h9) rfl hin rfl (qo_Mut 4 (by decide)) rfl rfl (Nat.le_of_ble_eq_true rfl) qd_Mut_init_49 (fun H locs hP hD hS => ?_)
  have hP : va_P (dC, dI) qCl [(h0, .inr (3, [.ref q7, .int 0, .int 0, .ref q24, .ref q47, .int 0, .int 0, .null, .null])), (q7, .inl (cI, 60, .inl (fun _ => 0))), (q24, .inl (cI, 4, .inl (upd (upd (upd (upd (fun _ => 0) (Int32.toNatClampNeg 0) (-1)) (Int32.toNatClampNeg 1) (-1)) (Int32.toNatClampNeg 2) (-1)) (Int32.toNatClampNeg 3) (-1)))), (q47, .inl (cI, 3, .inl (fun _ => 0)))] _ := hP
  have hD : va_D A [(h0, .inr (3, [.ref q7, .int 0, .int 0, .ref q24, .ref q47, .int 0, .int 0, .null, .null])), (q7, .inl (cI, 60, .inl (fun _ => 0))), (q24, .inl (cI, 4, .inl (upd (upd (upd (upd (fun _ => 0) (Int32.toNatClampNeg 0) (-1)) (Int32.toNatClampNeg 1) (-1)) (Int32.toNatClampNeg 2) (-1)) (Int32.toNatClampNeg 3) (-1)))), (q47, .inl (cI, 3, .inl (fun _ => 0)))] := hD
  refine lv_aload_n hx hb qd_Mut_init_52 rfl (lv_at hl 0 rfl) ?_
  refine lv_iconst (v := 0) hx hb qd_Mut_init_53 rfl ?_
  refine va_put (D := (dC, dI)) (ci := 3) (v := .int 0) (ty := .int) (C := "QuietSweep$Mutator") (T := qT_Mut) (N := 9) hx hb hts qi_Mut qt_Mut qo_Mut qn_Mut hown hK.1 hP hD hS 0 rfl rfl 5 (by decide) (hts _ qw_126) (fun _ h9 => h9) rfl (qo_Mut 5 (by decide)) rfl rfl (Nat.le_of_ble_eq_true rfl) qd_Mut_init_54 (fun H locs hP hD hS => ?_)
  have hP : va_P (dC, dI) qCl [(h0, .inr (3, [.ref q7, .int 0, .int 0, .ref q24, .ref q47, .int 0, .int 0, .null, .null])), (q7, .inl (cI, 60, .inl (fun _ => 0))), (q24, .inl (cI, 4, .inl (upd (upd (upd (upd (fun _ => 0) (Int32.toNatClampNeg 0) (-1)) (Int32.toNatClampNeg 1) (-1)) (Int32.toNatClampNeg 2) (-1)) (Int32.toNatClampNeg 3) (-1)))), (q47, .inl (cI, 3, .inl (fun _ => 0)))] _ := hP
  have hD : va_D A [(h0, .inr (3, [.ref q7, .int 0, .int 0, .ref q24, .ref q47, .int 0, .int 0, .null, .null])), (q7, .inl (cI, 60, .inl (fun _ => 0))), (q24, .inl (cI, 4, .inl (upd (upd (upd (upd (fun _ => 0) (Int32.toNatClampNeg 0) (-1)) (Int32.toNatClampNeg 1) (-1)) (Int32.toNatClampNeg 2) (-1)) (Int32.toNatClampNeg 3) (-1)))), (q47, .inl (cI, 3, .inl (fun _ => 0)))] := hD
  refine lv_aload_n hx hb qd_Mut_init_57 rfl (lv_at hl 0 rfl) ?_
  refine lv_iconst (v := 0) hx hb qd_Mut_init_58 rfl ?_
  refine va_put (D := (dC, dI)) (ci := 3) (v := .int 0) (ty := .int) (C := "QuietSweep$Mutator") (T := qT_Mut) (N := 9) hx hb hts qi_Mut qt_Mut qo_Mut qn_Mut hown hK.1 hP hD hS 0 rfl rfl 6 (by decide) (hts _ qw_129) (fun _ h9 => h9) rfl (qo_Mut 6 (by decide)) rfl rfl (Nat.le_of_ble_eq_true rfl) qd_Mut_init_59 (fun H locs hP hD hS => ?_)
  have hP : va_P (dC, dI) qCl [(h0, .inr (3, [.ref q7, .int 0, .int 0, .ref q24, .ref q47, .int 0, .int 0, .null, .null])), (q7, .inl (cI, 60, .inl (fun _ => 0))), (q24, .inl (cI, 4, .inl (upd (upd (upd (upd (fun _ => 0) (Int32.toNatClampNeg 0) (-1)) (Int32.toNatClampNeg 1) (-1)) (Int32.toNatClampNeg 2) (-1)) (Int32.toNatClampNeg 3) (-1)))), (q47, .inl (cI, 3, .inl (fun _ => 0)))] _ := hP
  have hD : va_D A [(h0, .inr (3, [.ref q7, .int 0, .int 0, .ref q24, .ref q47, .int 0, .int 0, .null, .null])), (q7, .inl (cI, 60, .inl (fun _ => 0))), (q24, .inl (cI, 4, .inl (upd (upd (upd (upd (fun _ => 0) (Int32.toNatClampNeg 0) (-1)) (Int32.toNatClampNeg 1) (-1)) (Int32.toNatClampNeg 2) (-1)) (Int32.toNatClampNeg 3) (-1)))), (q47, .inl (cI, 3, .inl (fun _ => 0)))] := hD
  refine lv_aload_n hx hb qd_Mut_init_62 rfl (lv_at hl 0 rfl) ?_
  refine va_new (D := (dC, dI)) (ci := 0) (fs := [.null, .null, .null, .int 0]) (C := "QuietSweep$Buffer") (T := qT_Buf) (N := 4) hx hb hts qi_Buf qt_Buf qo_Buf hown (hts _ qw_86) (hts _ qw_87) (hts _ qw_5) hK.1 hP hD hS hA rfl (fun j hj => by rcases (show j = 0 ∨ j = 1 ∨ j = 2 ∨ j = 3 by omega) with rfl | rfl | rfl | rfl <;> rfl) (by decide) (by decide) qd_Mut_init_63 (fun q63_1 H hP hD hS => ?_)
  have hP : va_P (dC, dI) qCl [(h0, .inr (3, [.ref q7, .int 0, .int 0, .ref q24, .ref q47, .int 0, .int 0, .null, .null])), (q7, .inl (cI, 60, .inl (fun _ => 0))), (q24, .inl (cI, 4, .inl (upd (upd (upd (upd (fun _ => 0) (Int32.toNatClampNeg 0) (-1)) (Int32.toNatClampNeg 1) (-1)) (Int32.toNatClampNeg 2) (-1)) (Int32.toNatClampNeg 3) (-1)))), (q47, .inl (cI, 3, .inl (fun _ => 0))), (q63_1, .inr (0, [.null, .null, .null, .int 0]))] _ := hP
  have hD : va_D A [(h0, .inr (3, [.ref q7, .int 0, .int 0, .ref q24, .ref q47, .int 0, .int 0, .null, .null])), (q7, .inl (cI, 60, .inl (fun _ => 0))), (q24, .inl (cI, 4, .inl (upd (upd (upd (upd (fun _ => 0) (Int32.toNatClampNeg 0) (-1)) (Int32.toNatClampNeg 1) (-1)) (Int32.toNatClampNeg 2) (-1)) (Int32.toNatClampNeg 3) (-1)))), (q47, .inl (cI, 3, .inl (fun _ => 0))), (q63_1, .inr (0, [.null, .null, .null, .int 0]))] := hD
  refine lv_dup hx hb qd_Mut_init_66 rfl ?_
  obtain ⟨q1, hq1, h⟩ := qq_b h
  have hPc := hP.sub (ws' := [(q63_1, .inr (0, [.null, .null, .null, .int 0]))]) [4] rfl
  have hDc := hD.sub (ws' := [(q63_1, .inr (0, [.null, .null, .null, .int 0]))]) [4] (by decide) rfl
  have hFc := va_free (wc := [(q63_1, .inr (0, [.null, .null, .null, .int 0]))]) hD hS hA [4] rfl
  refine va_callv (va_runIN (As := []) (rest := [.ref q63_1, .ref h0]) ⟨hx, hb, hml, hown, hts⟩ (qm_Buf_init l dC dI cI cC cB cM q63_1  _ q1 hq1) ⟨q_CN hts hK.2 qu_88 qw_5 qw_90 qh_Buf_init rfl rfl ⟨by decide, by decide⟩, rfl, hts _ qw_89⟩ (q_preS [.ref q63_1] hK hPc hDc) rfl rfl hl.1 rfl (lv_room (Nat.le_of_ble_eq_true rfl)) qd_Mut_init_67 ⟨by decide, by decide⟩) hS (fun q _ h => hFc q h) hFc (fun u t H1 locs ht hvm hw hB hz1 hk1 hS => ?_)
  obtain ⟨e2, rfl⟩ : ∃ z, z = u := ⟨_, rfl⟩
  obtain ⟨hP1, hD1⟩ := hB
  rw [ht] at hP1
  obtain ⟨hP, hD⟩ := va_join (wr := [(h0, .inr (3, [.ref q7, .int 0, .int 0, .ref q24, .ref q47, .int 0, .int 0, .null, .null])), (q7, .inl (cI, 60, .inl (fun _ => 0))), (q24, .inl (cI, 4, .inl (upd (upd (upd (upd (fun _ => 0) (Int32.toNatClampNeg 0) (-1)) (Int32.toNatClampNeg 1) (-1)) (Int32.toNatClampNeg 2) (-1)) (Int32.toNatClampNeg 3) (-1)))), (q47, .inl (cI, 3, .inl (fun _ => 0)))]) (w1 := [(q63_1, .inr (0, [.ref (e2 0), .ref (e2 1), .ref (e2 2), .int (q1 3 0)])), ((e2 0), .inl (cI, 3, .inl (q1 0))), ((e2 1), .inl (cI, 3, .inl (q1 1))), ((e2 2), .inl (cI, 3, .inl (q1 2)))]) hP hD [4] [0, 1, 2, 3] rfl rfl (by decide) (by decide) hk1 hFc hP1 hD1
  have hP : va_P (dC, dI) qCl [(h0, .inr (3, [.ref q7, .int 0, .int 0, .ref q24, .ref q47, .int 0, .int 0, .null, .null])), (q7, .inl (cI, 60, .inl (fun _ => 0))), (q24, .inl (cI, 4, .inl (upd (upd (upd (upd (fun _ => 0) (Int32.toNatClampNeg 0) (-1)) (Int32.toNatClampNeg 1) (-1)) (Int32.toNatClampNeg 2) (-1)) (Int32.toNatClampNeg 3) (-1)))), (q47, .inl (cI, 3, .inl (fun _ => 0))), (q63_1, .inr (0, [.ref (e2 0), .ref (e2 1), .ref (e2 2), .int (q1 3 0)])), ((e2 0), .inl (cI, 3, .inl (q1 0))), ((e2 1), .inl (cI, 3, .inl (q1 1))), ((e2 2), .inl (cI, 3, .inl (q1 2)))] _ := hP
  have hD : va_D A [(h0, .inr (3, [.ref q7, .int 0, .int 0, .ref q24, .ref q47, .int 0, .int 0, .null, .null])), (q7, .inl (cI, 60, .inl (fun _ => 0))), (q24, .inl (cI, 4, .inl (upd (upd (upd (upd (fun _ => 0) (Int32.toNatClampNeg 0) (-1)) (Int32.toNatClampNeg 1) (-1)) (Int32.toNatClampNeg 2) (-1)) (Int32.toNatClampNeg 3) (-1)))), (q47, .inl (cI, 3, .inl (fun _ => 0))), (q63_1, .inr (0, [.ref (e2 0), .ref (e2 1), .ref (e2 2), .int (q1 3 0)])), ((e2 0), .inl (cI, 3, .inl (q1 0))), ((e2 1), .inl (cI, 3, .inl (q1 1))), ((e2 2), .inl (cI, 3, .inl (q1 2)))] := hD
  refine va_putF (D := (dC, dI)) (ci := 3) (v := .ref q63_1) (ty := (.object "QuietSweep$Buffer")) (C := "QuietSweep$Mutator") (T := qT_Mut) (N := 9) hx hb hts qi_Mut qt_Mut qo_Mut qn_Mut hown hK.1 hP hD hS 0 rfl rfl 7 (by decide) (hts _ qw_131) (fun _ h9 => h9) rfl hin rfl (qo_Mut 7 (by decide)) rfl rfl (Nat.le_of_ble_eq_true rfl) qd_Mut_init_70 (fun H locs hP hD hS => ?_)
  have hP : va_P (dC, dI) qCl [(h0, .inr (3, [.ref q7, .int 0, .int 0, .ref q24, .ref q47, .int 0, .int 0, .ref q63_1, .null])), (q7, .inl (cI, 60, .inl (fun _ => 0))), (q24, .inl (cI, 4, .inl (upd (upd (upd (upd (fun _ => 0) (Int32.toNatClampNeg 0) (-1)) (Int32.toNatClampNeg 1) (-1)) (Int32.toNatClampNeg 2) (-1)) (Int32.toNatClampNeg 3) (-1)))), (q47, .inl (cI, 3, .inl (fun _ => 0))), (q63_1, .inr (0, [.ref (e2 0), .ref (e2 1), .ref (e2 2), .int (q1 3 0)])), ((e2 0), .inl (cI, 3, .inl (q1 0))), ((e2 1), .inl (cI, 3, .inl (q1 1))), ((e2 2), .inl (cI, 3, .inl (q1 2)))] _ := hP
  have hD : va_D A [(h0, .inr (3, [.ref q7, .int 0, .int 0, .ref q24, .ref q47, .int 0, .int 0, .ref q63_1, .null])), (q7, .inl (cI, 60, .inl (fun _ => 0))), (q24, .inl (cI, 4, .inl (upd (upd (upd (upd (fun _ => 0) (Int32.toNatClampNeg 0) (-1)) (Int32.toNatClampNeg 1) (-1)) (Int32.toNatClampNeg 2) (-1)) (Int32.toNatClampNeg 3) (-1)))), (q47, .inl (cI, 3, .inl (fun _ => 0))), (q63_1, .inr (0, [.ref (e2 0), .ref (e2 1), .ref (e2 2), .int (q1 3 0)])), ((e2 0), .inl (cI, 3, .inl (q1 0))), ((e2 1), .inl (cI, 3, .inl (q1 1))), ((e2 2), .inl (cI, 3, .inl (q1 2)))] := hD
  refine lv_aload_n hx hb qd_Mut_init_73 rfl (lv_at hl 0 rfl) ?_
  refine va_new (D := (dC, dI)) (ci := 4) (fs := [.null, .int 0]) (C := "QuietSweep$Outs") (T := qT_Out) (N := 2) hx hb hts qi_Out qt_Out qo_Out hown (hts _ qw_106) (hts _ qw_107) (hts _ qw_6) hK.1 hP hD hS hA rfl (fun j hj => by rcases (show j = 0 ∨ j = 1 by omega) with rfl | rfl <;> rfl) (by decide) (by decide) qd_Mut_init_74 (fun q74_2 H hP hD hS => ?_)
  have hP : va_P (dC, dI) qCl [(h0, .inr (3, [.ref q7, .int 0, .int 0, .ref q24, .ref q47, .int 0, .int 0, .ref q63_1, .null])), (q7, .inl (cI, 60, .inl (fun _ => 0))), (q24, .inl (cI, 4, .inl (upd (upd (upd (upd (fun _ => 0) (Int32.toNatClampNeg 0) (-1)) (Int32.toNatClampNeg 1) (-1)) (Int32.toNatClampNeg 2) (-1)) (Int32.toNatClampNeg 3) (-1)))), (q47, .inl (cI, 3, .inl (fun _ => 0))), (q63_1, .inr (0, [.ref (e2 0), .ref (e2 1), .ref (e2 2), .int (q1 3 0)])), ((e2 0), .inl (cI, 3, .inl (q1 0))), ((e2 1), .inl (cI, 3, .inl (q1 1))), ((e2 2), .inl (cI, 3, .inl (q1 2))), (q74_2, .inr (4, [.null, .int 0]))] _ := hP
  have hD : va_D A [(h0, .inr (3, [.ref q7, .int 0, .int 0, .ref q24, .ref q47, .int 0, .int 0, .ref q63_1, .null])), (q7, .inl (cI, 60, .inl (fun _ => 0))), (q24, .inl (cI, 4, .inl (upd (upd (upd (upd (fun _ => 0) (Int32.toNatClampNeg 0) (-1)) (Int32.toNatClampNeg 1) (-1)) (Int32.toNatClampNeg 2) (-1)) (Int32.toNatClampNeg 3) (-1)))), (q47, .inl (cI, 3, .inl (fun _ => 0))), (q63_1, .inr (0, [.ref (e2 0), .ref (e2 1), .ref (e2 2), .int (q1 3 0)])), ((e2 0), .inl (cI, 3, .inl (q1 0))), ((e2 1), .inl (cI, 3, .inl (q1 1))), ((e2 2), .inl (cI, 3, .inl (q1 2))), (q74_2, .inr (4, [.null, .int 0]))] := hD
  refine lv_dup hx hb qd_Mut_init_77 rfl ?_
  obtain ⟨q3, hq3, h⟩ := qq_b h
  have hPc := hP.sub (ws' := [(q74_2, .inr (4, [.null, .int 0]))]) [8] rfl
  have hDc := hD.sub (ws' := [(q74_2, .inr (4, [.null, .int 0]))]) [8] (by decide) rfl
  have hFc := va_free (wc := [(q74_2, .inr (4, [.null, .int 0]))]) hD hS hA [8] rfl
  refine va_callv (va_runIN (As := []) (rest := [.ref q74_2, .ref h0]) ⟨hx, hb, hml, hown, hts⟩ (qm_Out_init l dC dI cI cC cB cM q74_2  _ q3 hq3) ⟨q_CN hts hK.2 qu_108 qw_6 qw_110 qh_Out_init rfl rfl ⟨by decide, by decide⟩, rfl, hts _ qw_109⟩ (q_preS [.ref q74_2] hK hPc hDc) rfl rfl hl.1 rfl (lv_room (Nat.le_of_ble_eq_true rfl)) qd_Mut_init_78 ⟨by decide, by decide⟩) hS (fun q _ h => hFc q h) hFc (fun u t H1 locs ht hvm hw hB hz1 hk1 hS => ?_)
  obtain ⟨e4, rfl⟩ : ∃ z, z = u := ⟨_, rfl⟩
  obtain ⟨hP1, hD1⟩ := hB
  rw [ht] at hP1
  obtain ⟨hP, hD⟩ := va_join (wr := [(h0, .inr (3, [.ref q7, .int 0, .int 0, .ref q24, .ref q47, .int 0, .int 0, .ref q63_1, .null])), (q7, .inl (cI, 60, .inl (fun _ => 0))), (q24, .inl (cI, 4, .inl (upd (upd (upd (upd (fun _ => 0) (Int32.toNatClampNeg 0) (-1)) (Int32.toNatClampNeg 1) (-1)) (Int32.toNatClampNeg 2) (-1)) (Int32.toNatClampNeg 3) (-1)))), (q47, .inl (cI, 3, .inl (fun _ => 0))), (q63_1, .inr (0, [.ref (e2 0), .ref (e2 1), .ref (e2 2), .int (q1 3 0)])), ((e2 0), .inl (cI, 3, .inl (q1 0))), ((e2 1), .inl (cI, 3, .inl (q1 1))), ((e2 2), .inl (cI, 3, .inl (q1 2)))]) (w1 := [(q74_2, .inr (4, [.ref (e4 0), .int (q3 1 0)])), ((e4 0), .inl (cI, 16, .inl (q3 0)))]) hP hD [8] [0, 1, 2, 3, 4, 5, 6, 7] rfl rfl (by decide) (by decide) hk1 hFc hP1 hD1
  have hP : va_P (dC, dI) qCl [(h0, .inr (3, [.ref q7, .int 0, .int 0, .ref q24, .ref q47, .int 0, .int 0, .ref q63_1, .null])), (q7, .inl (cI, 60, .inl (fun _ => 0))), (q24, .inl (cI, 4, .inl (upd (upd (upd (upd (fun _ => 0) (Int32.toNatClampNeg 0) (-1)) (Int32.toNatClampNeg 1) (-1)) (Int32.toNatClampNeg 2) (-1)) (Int32.toNatClampNeg 3) (-1)))), (q47, .inl (cI, 3, .inl (fun _ => 0))), (q63_1, .inr (0, [.ref (e2 0), .ref (e2 1), .ref (e2 2), .int (q1 3 0)])), ((e2 0), .inl (cI, 3, .inl (q1 0))), ((e2 1), .inl (cI, 3, .inl (q1 1))), ((e2 2), .inl (cI, 3, .inl (q1 2))), (q74_2, .inr (4, [.ref (e4 0), .int (q3 1 0)])), ((e4 0), .inl (cI, 16, .inl (q3 0)))] _ := hP
  have hD : va_D A [(h0, .inr (3, [.ref q7, .int 0, .int 0, .ref q24, .ref q47, .int 0, .int 0, .ref q63_1, .null])), (q7, .inl (cI, 60, .inl (fun _ => 0))), (q24, .inl (cI, 4, .inl (upd (upd (upd (upd (fun _ => 0) (Int32.toNatClampNeg 0) (-1)) (Int32.toNatClampNeg 1) (-1)) (Int32.toNatClampNeg 2) (-1)) (Int32.toNatClampNeg 3) (-1)))), (q47, .inl (cI, 3, .inl (fun _ => 0))), (q63_1, .inr (0, [.ref (e2 0), .ref (e2 1), .ref (e2 2), .int (q1 3 0)])), ((e2 0), .inl (cI, 3, .inl (q1 0))), ((e2 1), .inl (cI, 3, .inl (q1 1))), ((e2 2), .inl (cI, 3, .inl (q1 2))), (q74_2, .inr (4, [.ref (e4 0), .int (q3 1 0)])), ((e4 0), .inl (cI, 16, .inl (q3 0)))] := hD
  refine va_putF (D := (dC, dI)) (ci := 3) (v := .ref q74_2) (ty := (.object "QuietSweep$Outs")) (C := "QuietSweep$Mutator") (T := qT_Mut) (N := 9) hx hb hts qi_Mut qt_Mut qo_Mut qn_Mut hown hK.1 hP hD hS 0 rfl rfl 8 (by decide) (hts _ qw_133) (fun _ h9 => h9) rfl hin rfl (qo_Mut 8 (by decide)) rfl rfl (Nat.le_of_ble_eq_true rfl) qd_Mut_init_81 (fun H locs hP hD hS => ?_)
  have hP : va_P (dC, dI) qCl [(h0, .inr (3, [.ref q7, .int 0, .int 0, .ref q24, .ref q47, .int 0, .int 0, .ref q63_1, .ref q74_2])), (q7, .inl (cI, 60, .inl (fun _ => 0))), (q24, .inl (cI, 4, .inl (upd (upd (upd (upd (fun _ => 0) (Int32.toNatClampNeg 0) (-1)) (Int32.toNatClampNeg 1) (-1)) (Int32.toNatClampNeg 2) (-1)) (Int32.toNatClampNeg 3) (-1)))), (q47, .inl (cI, 3, .inl (fun _ => 0))), (q63_1, .inr (0, [.ref (e2 0), .ref (e2 1), .ref (e2 2), .int (q1 3 0)])), ((e2 0), .inl (cI, 3, .inl (q1 0))), ((e2 1), .inl (cI, 3, .inl (q1 1))), ((e2 2), .inl (cI, 3, .inl (q1 2))), (q74_2, .inr (4, [.ref (e4 0), .int (q3 1 0)])), ((e4 0), .inl (cI, 16, .inl (q3 0)))] _ := hP
  have hD : va_D A [(h0, .inr (3, [.ref q7, .int 0, .int 0, .ref q24, .ref q47, .int 0, .int 0, .ref q63_1, .ref q74_2])), (q7, .inl (cI, 60, .inl (fun _ => 0))), (q24, .inl (cI, 4, .inl (upd (upd (upd (upd (fun _ => 0) (Int32.toNatClampNeg 0) (-1)) (Int32.toNatClampNeg 1) (-1)) (Int32.toNatClampNeg 2) (-1)) (Int32.toNatClampNeg 3) (-1)))), (q47, .inl (cI, 3, .inl (fun _ => 0))), (q63_1, .inr (0, [.ref (e2 0), .ref (e2 1), .ref (e2 2), .int (q1 3 0)])), ((e2 0), .inl (cI, 3, .inl (q1 0))), ((e2 1), .inl (cI, 3, .inl (q1 1))), ((e2 2), .inl (cI, 3, .inl (q1 2))), (q74_2, .inr (4, [.ref (e4 0), .int (q3 1 0)])), ((e4 0), .inl (cI, 16, .inl (q3 0)))] := hD
  obtain ⟨d0, hd0⟩ : ∃ d : Nat → Nat, d = (fun k => ([q7, 0, 0, q24, q47, 0, 0, q63_1, q74_2] : List Nat).getD k 0) := ⟨_, rfl⟩
  obtain ⟨d1, hd1⟩ : ∃ d : Nat → Nat, d = e2 := ⟨_, rfl⟩
  obtain ⟨d2, hd2⟩ : ∃ d : Nat → Nat, d = e4 := ⟨_, rfl⟩
  have hP := hP.sub (ws' := [(h0, .inr (3, [.ref q7, .int 0, .int 0, .ref q24, .ref q47, .int 0, .int 0, .ref q63_1, .ref q74_2])), (q7, .inl (cI, 60, .inl (fun _ => 0))), (q24, .inl (cI, 4, .inl (upd (upd (upd (upd (fun _ => 0) (Int32.toNatClampNeg 0) (-1)) (Int32.toNatClampNeg 1) (-1)) (Int32.toNatClampNeg 2) (-1)) (Int32.toNatClampNeg 3) (-1)))), (q47, .inl (cI, 3, .inl (fun _ => 0))), (q63_1, .inr (0, [.ref (e2 0), .ref (e2 1), .ref (e2 2), .int (q1 3 0)])), ((e2 0), .inl (cI, 3, .inl (q1 0))), ((e2 1), .inl (cI, 3, .inl (q1 1))), ((e2 2), .inl (cI, 3, .inl (q1 2))), (q74_2, .inr (4, [.ref (e4 0), .int (q3 1 0)])), ((e4 0), .inl (cI, 16, .inl (q3 0)))]) [0, 1, 2, 3, 4, 5, 6, 7, 8, 9] rfl
  have hD := hD.sub (ws' := [(h0, .inr (3, [.ref q7, .int 0, .int 0, .ref q24, .ref q47, .int 0, .int 0, .ref q63_1, .ref q74_2])), (q7, .inl (cI, 60, .inl (fun _ => 0))), (q24, .inl (cI, 4, .inl (upd (upd (upd (upd (fun _ => 0) (Int32.toNatClampNeg 0) (-1)) (Int32.toNatClampNeg 1) (-1)) (Int32.toNatClampNeg 2) (-1)) (Int32.toNatClampNeg 3) (-1)))), (q47, .inl (cI, 3, .inl (fun _ => 0))), (q63_1, .inr (0, [.ref (e2 0), .ref (e2 1), .ref (e2 2), .int (q1 3 0)])), ((e2 0), .inl (cI, 3, .inl (q1 0))), ((e2 1), .inl (cI, 3, .inl (q1 1))), ((e2 2), .inl (cI, 3, .inl (q1 2))), (q74_2, .inr (4, [.ref (e4 0), .int (q3 1 0)])), ((e4 0), .inl (cI, 16, .inl (q3 0)))]) [0, 1, 2, 3, 4, 5, 6, 7, 8, 9] (by decide) rfl
  have hWe : ([(h0, .inr (3, [.ref q7, .int 0, .int 0, .ref q24, .ref q47, .int 0, .int 0, .ref q63_1, .ref q74_2])), (q7, .inl (cI, 60, .inl (fun _ => 0))), (q24, .inl (cI, 4, .inl (upd (upd (upd (upd (fun _ => 0) (Int32.toNatClampNeg 0) (-1)) (Int32.toNatClampNeg 1) (-1)) (Int32.toNatClampNeg 2) (-1)) (Int32.toNatClampNeg 3) (-1)))), (q47, .inl (cI, 3, .inl (fun _ => 0))), (q63_1, .inr (0, [.ref (e2 0), .ref (e2 1), .ref (e2 2), .int (q1 3 0)])), ((e2 0), .inl (cI, 3, .inl (q1 0))), ((e2 1), .inl (cI, 3, .inl (q1 1))), ((e2 2), .inl (cI, 3, .inl (q1 2))), (q74_2, .inr (4, [.ref (e4 0), .int (q3 1 0)])), ((e4 0), .inl (cI, 16, .inl (q3 0)))] : va_W) = [(h0, .inr (3, [.ref (d0 0), .int 0, .int 0, .ref (d0 3), .ref (d0 4), .int 0, .int 0, .ref (d0 7), .ref (d0 8)])), (d0 0, .inl (cI, 60, .inl (fun _ => 0))), (d0 3, .inl (cI, 4, .inl (upd (upd (upd (upd (fun _ => 0) (Int32.toNatClampNeg 0) (-1)) (Int32.toNatClampNeg 1) (-1)) (Int32.toNatClampNeg 2) (-1)) (Int32.toNatClampNeg 3) (-1)))), (d0 4, .inl (cI, 3, .inl (fun _ => 0))), ((d0 7), .inr (0, [.ref (d1 0), .ref (d1 1), .ref (d1 2), .int (q1 3 0)])), (d1 0, .inl (cI, 3, .inl (q1 0))), (d1 1, .inl (cI, 3, .inl (q1 1))), (d1 2, .inl (cI, 3, .inl (q1 2))), ((d0 8), .inr (4, [.ref (d2 0), .int (q3 1 0)])), (d2 0, .inl (cI, 16, .inl (q3 0)))] := by
    subst hd0 hd1 hd2
    rfl
  have hP := q_reP hWe hP
  have hD := q_reD hWe hD
  refine W.widen (k := 9) (n := 98) (by decide) (by decide) ?_
  have hl := lv_sub (l' := [(0, .ref h0)]) hl [0] rfl
  obtain rfl := Option.some.inj h
  exact W.vret hx hb hr (fun t ht hW => ⟨⟨(d0, d1, d2), rfl, trivial, by rw [ht]; exact hP, hD⟩, hS.F ht⟩) hS.2.2 qd_Mut_init_84
