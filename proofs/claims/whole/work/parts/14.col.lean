/-! QuietSweep$Collector.asked()I -/
def qf_Col_asked_j21  (s0 : QS) : Option (Int32) := (if (s0 0 0) = 6 then (some 0) else (some (-1)))
def qf_Col_asked  (s0 : QS) : Option (Int32) := (if (s0 0 0) < 1 then (qf_Col_asked_j21 s0) else (if 3 < (s0 0 0) then (qf_Col_asked_j21 s0) else (some (s0 0 0))))
set_option maxHeartbeats 4000000 in
set_option maxRecDepth 100000 in
theorem qm_Col_asked (l : Launch) (dC : Nat → ClassId) (dI : Nat → Nat → Nat) (cI cC cB cM : ClassId) (h0 : Nat) (d0 : Nat → Nat) (s0 : QS)  (sz : Nat) (o : Int32) (h : qf_Col_asked s0 = some o) : Met l qy_Col_asked (ql_Col_asked :: qG) ({ frames := 0, cells := 0, slots := 0, locals := 0 } : Room) (qPc dC dI cI cC cB cM [.ref h0] sz [(h0, .inr (1, [.int (s0 0 0), .int (s0 1 0), .int (s0 2 0), .int (s0 3 0)]))]) (va_Qi (fun r (_ : Unit) => r = o) (fun _ t => va_P (dC, dI) qCl [(h0, .inr (1, [.int (s0 0 0), .int (s0 1 0), .int (s0 2 0), .int (s0 3 0)]))] t.heap ∧ va_D (va_A [(h0, .inr (1, [.int (s0 0 0), .int (s0 1 0), .int (s0 2 0), .int (s0 3 0)]))] sz) [(h0, .inr (1, [.int (s0 0 0), .int (s0 1 0), .int (s0 2 0), .int (s0 3 0)]))]) (va_A [(h0, .inr (1, [.int (s0 0 0), .int (s0 1 0), .int (s0 2 0), .int (s0 3 0)]))] sz)) 0 0 (va_A [(h0, .inr (1, [.int (s0 0 0), .int (s0 1 0), .int (s0 2 0), .int (s0 3 0)]))] sz) := by
  refine Met.ofW (cc := qc_Col_asked) (maxL := 1) (ret := (some .int)) (by decide) rfl ?_
  intro p e s m args below meth c s₁ B hml hv
  obtain ⟨rfl, hsz, hP, hK, hD0⟩ := hv
  have hx := B.exec
  have hb := B.bytes
  have hr := B.returns
  have hts0 := atoms_spec (ws := ql_Col_asked :: qG) B.pre
  have hts := fun (w : Cond) (hw : w ∈ qG) => hts0 w (List.mem_cons_of_mem _ hw)
  have hown : s.vm.findClass "QuietSweep$Collector" = some m.cls := findClass_of_methodNamed B.named
  have hlocks := B.notSynchronized
  subst hsz
  have hD := hD0.self (sz := s.heap.size)
  generalize hAe : va_A [(h0, .inr (1, [.int (s0 0 0), .int (s0 1 0), .int (s0 2 0), .int (s0 3 0)]))] s.heap.size = A at hD ⊢
  have hA : ∀ q : Nat, s.heap.size ≤ q → A q := fun q h => by rw [← hAe]; exact Or.inr h
  have hS : va_S A s.heap s.heap [] := va_S.rf
  have hl := lv_entry ([.ref h0]) (n := 1) (Nat.le_of_ble_eq_true rfl)
  rw [lg_entry_eq]
  generalize (lg_sl ([.ref h0]) ++ List.replicate (1 - (lg_sl ([.ref h0])).length) Slot.unset).toArray = ls at hl ⊢
  have hl : lv_has ls 1 [(0, .ref h0)] := hl
  have j21 : ∀  (s0 : QS) (H : Heap) (locs : List Loc) (ls : Array Slot), lv_has ls 1 [(0, .ref h0)] → va_P (dC, dI) qCl [(h0, .inr (1, [.int (s0 0 0), .int (s0 1 0), .int (s0 2 0), .int (s0 3 0)]))] H → va_D A [(h0, .inr (1, [.int (s0 0 0), .int (s0 1 0), .int (s0 2 0), .int (s0 3 0)]))] → va_S A s.heap H locs → qf_Col_asked_j21 s0 = some o → W p l e (headSpec (ql_Col_asked :: qG) ({ frames := 0, cells := 0, slots := 0, locals := 0 } : Room)).room s m ([.ref h0] : List Value).toArray below meth c H locs 0 0 (MQ below (va_Qi (fun r (_ : Unit) => r = o) (fun _ t => va_P (dC, dI) qCl [(h0, .inr (1, [.int (s0 0 0), .int (s0 1 0), .int (s0 2 0), .int (s0 3 0)]))] t.heap ∧ va_D A [(h0, .inr (1, [.int (s0 0 0), .int (s0 1 0), .int (s0 2 0), .int (s0 3 0)]))]) A) ([.ref h0] : List Value).toArray s 0 0 A) (F0 m 21 ls []) := by
    intro s0 H locs ls hl hP hD hS h
    unfold qf_Col_asked_j21 at h
    refine lv_aload_n hx hb qd_Col_asked_21 rfl (lv_at hl 0 rfl) ?_
    refine va_get (D := (dC, dI)) (ci := 1) (v := .int (s0 0 0)) (C := "QuietSweep$Collector") (T := qT_Col) (N := 4) hx hb hts qi_Col hown hK.1 hP 0 rfl rfl 0 (by decide) (hts _ qw_161) (fun _ h9 => h9) rfl qd_Col_asked_22 ?_
    refine lv_bipush (v := 6) hx hb qd_Col_asked_25 (by decide) ?_
    refine lv_icmp_ne hx hb qd_Col_asked_27 (tgt := 34) (by decide) (fun hc => ?_) (fun hc => ?_)
    · have h := qq_f hc h
      refine lv_iconst (v := (-1)) hx hb qd_Col_asked_34 rfl ?_
      obtain rfl := Option.some.inj h
      exact W.iret (v := (-1)) hx hb hr (fun t ht hW => ⟨⟨(-1), (), rfl, rfl, by rw [ht]; exact hP, hD⟩, hS.F ht⟩) hS.2.2 qd_Col_asked_35
    · have h := qq_t hc h
      refine lv_iconst (v := 0) hx hb qd_Col_asked_30 rfl ?_
      refine lv_goto hx hb qd_Col_asked_31 (tgt := 35) (by decide) ?_
      obtain rfl := Option.some.inj h
      exact W.iret (v := 0) hx hb hr (fun t ht hW => ⟨⟨0, (), rfl, rfl, by rw [ht]; exact hP, hD⟩, hS.F ht⟩) hS.2.2 qd_Col_asked_35
  unfold qf_Col_asked at h
  refine lv_aload_n hx hb qd_Col_asked_0 rfl (lv_at hl 0 rfl) ?_
  refine va_get (D := (dC, dI)) (ci := 1) (v := .int (s0 0 0)) (C := "QuietSweep$Collector") (T := qT_Col) (N := 4) hx hb hts qi_Col hown hK.1 hP 0 rfl rfl 0 (by decide) (hts _ qw_161) (fun _ h9 => h9) rfl qd_Col_asked_1 ?_
  refine lv_iconst (v := 1) hx hb qd_Col_asked_4 rfl ?_
  refine lv_icmp_lt hx hb qd_Col_asked_5 (tgt := 21) (by decide) (fun hc => ?_) (fun hc => ?_)
  · have h := qq_t hc h
    exact j21 s0 _ _ _ (lv_sub (l' := [(0, .ref h0)]) hl [0] rfl) hP hD hS h
  · have h := qq_f hc h
    refine lv_aload_n hx hb qd_Col_asked_8 rfl (lv_at hl 0 rfl) ?_
    refine va_get (D := (dC, dI)) (ci := 1) (v := .int (s0 0 0)) (C := "QuietSweep$Collector") (T := qT_Col) (N := 4) hx hb hts qi_Col hown hK.1 hP 0 rfl rfl 0 (by decide) (hts _ qw_161) (fun _ h9 => h9) rfl qd_Col_asked_9 ?_
    refine lv_iconst (v := 3) hx hb qd_Col_asked_12 rfl ?_
    refine lv_icmp_gt hx hb qd_Col_asked_13 (tgt := 21) (by decide) (fun hc => ?_) (fun hc => ?_)
    · have h := qq_t hc h
      exact j21 s0 _ _ _ (lv_sub (l' := [(0, .ref h0)]) hl [0] rfl) hP hD hS h
    · have h := qq_f hc h
      refine lv_aload_n hx hb qd_Col_asked_16 rfl (lv_at hl 0 rfl) ?_
      refine va_get (D := (dC, dI)) (ci := 1) (v := .int (s0 0 0)) (C := "QuietSweep$Collector") (T := qT_Col) (N := 4) hx hb hts qi_Col hown hK.1 hP 0 rfl rfl 0 (by decide) (hts _ qw_161) (fun _ h9 => h9) rfl qd_Col_asked_17 ?_
      obtain rfl := Option.some.inj h
      exact W.iret (v := (s0 0 0)) hx hb hr (fun t ht hW => ⟨⟨(s0 0 0), (), rfl, rfl, by rw [ht]; exact hP, hD⟩, hS.F ht⟩) hS.2.2 qd_Col_asked_20
/-! QuietSweep$Collector.passIfAnswered([LQuietSweep$Mutator;)Z -/
def qf_Col_passIfAnswered_B2 (k2 : (Int32 × QS × QS × QS) → Option (Int32 × QS)) (x2 : Int32) (s0 : QS) (s2 : QS) (s3 : QS) : Option (Int32 × QS) := (if 2 ≤ x2 then (if (s0 0 0) = 6 then (some (1, (qp (qp s0 0 (fun _ => 0)) 1 (fun _ => ((s0 1 0) + 1))))) else (some (1, (qp s0 0 (fun _ => ((s0 0 0) + 1)))))) else (if x2 = 0 then ((qf_Col_asked s0).bind fun q3 => (if (s2 5 0) = q3 then (k2 ((x2 + 1), s0, s2, s3)) else (some (0, s0)))) else (if x2 = 1 then ((qf_Col_asked s0).bind fun q4 => (if (s3 5 0) = q4 then (k2 ((x2 + 1), s0, s2, s3)) else (some (0, s0)))) else none)))
def qf_Col_passIfAnswered_F2 (k2 : (Int32 × QS × QS × QS) → Option (Int32 × QS)) (a : Int32 × QS × QS × QS) : Option (Int32 × QS) := qf_Col_passIfAnswered_B2 k2 a.1 a.2.1 a.2.2.1 a.2.2.2
def qf_Col_passIfAnswered  (s0 : QS) (s2 : QS) (s3 : QS) : Option (Int32 × QS) := (qfix (qf_Col_passIfAnswered_F2) qN (0, s0, s2, s3))
set_option maxHeartbeats 4000000 in
set_option maxRecDepth 100000 in
theorem qm_Col_passIfAnswered (l : Launch) (dC : Nat → ClassId) (dI : Nat → Nat → Nat) (cI cC cB cM : ClassId) (h0 : Nat) (h1 : Nat) (d0 : Nat → Nat) (d1 : Nat → Nat) (d2 : Nat → Nat) (d3 : Nat → Nat) (s0 : QS) (s2 : QS) (s3 : QS)  (sz : Nat) (o : Int32 × QS) (h : qf_Col_passIfAnswered s0 s2 s3 = some o) : Met l qy_Col_passIfAnswered (ql_Col_passIfAnswered :: qG) ({ frames := 1, cells := 0, slots := 0, locals := 20 } : Room) (qPc dC dI cI cC cB cM [.ref h0, .ref h1] sz [(h0, .inr (1, [.int (s0 0 0), .int (s0 1 0), .int (s0 2 0), .int (s0 3 0)])), (h1, .inl (cM, 2, .inr (.inr (.inr (.inr (qmf (d1 100) (d1 101))))))), ((d1 100), .inr (3, [.ref (d2 0), .int (s2 1 0), .int (s2 2 0), .ref (d2 3), .ref (d2 4), .int (s2 5 0), .int (s2 6 0), .ref (d2 7), .ref (d2 8)])), (d2 0, .inl (cI, 60, .inl (s2 0))), (d2 3, .inl (cI, 4, .inl (s2 3))), (d2 4, .inl (cI, 3, .inl (s2 4))), ((d1 101), .inr (3, [.ref (d3 0), .int (s3 1 0), .int (s3 2 0), .ref (d3 3), .ref (d3 4), .int (s3 5 0), .int (s3 6 0), .ref (d3 7), .ref (d3 8)])), (d3 0, .inl (cI, 60, .inl (s3 0))), (d3 3, .inl (cI, 4, .inl (s3 3))), (d3 4, .inl (cI, 3, .inl (s3 4)))]) (va_Qi (fun r (_ : Unit) => r = o.1) (fun _ t => va_P (dC, dI) qCl [(h0, .inr (1, [.int (o.2 0 0), .int (o.2 1 0), .int (o.2 2 0), .int (o.2 3 0)])), (h1, .inl (cM, 2, .inr (.inr (.inr (.inr (qmf (d1 100) (d1 101))))))), ((d1 100), .inr (3, [.ref (d2 0), .int (s2 1 0), .int (s2 2 0), .ref (d2 3), .ref (d2 4), .int (s2 5 0), .int (s2 6 0), .ref (d2 7), .ref (d2 8)])), (d2 0, .inl (cI, 60, .inl (s2 0))), (d2 3, .inl (cI, 4, .inl (s2 3))), (d2 4, .inl (cI, 3, .inl (s2 4))), ((d1 101), .inr (3, [.ref (d3 0), .int (s3 1 0), .int (s3 2 0), .ref (d3 3), .ref (d3 4), .int (s3 5 0), .int (s3 6 0), .ref (d3 7), .ref (d3 8)])), (d3 0, .inl (cI, 60, .inl (s3 0))), (d3 3, .inl (cI, 4, .inl (s3 3))), (d3 4, .inl (cI, 3, .inl (s3 4)))] t.heap ∧ va_D (va_A [(h0, .inr (1, [.int (s0 0 0), .int (s0 1 0), .int (s0 2 0), .int (s0 3 0)])), (h1, .inl (cM, 2, .inr (.inr (.inr (.inr (qmf (d1 100) (d1 101))))))), ((d1 100), .inr (3, [.ref (d2 0), .int (s2 1 0), .int (s2 2 0), .ref (d2 3), .ref (d2 4), .int (s2 5 0), .int (s2 6 0), .ref (d2 7), .ref (d2 8)])), (d2 0, .inl (cI, 60, .inl (s2 0))), (d2 3, .inl (cI, 4, .inl (s2 3))), (d2 4, .inl (cI, 3, .inl (s2 4))), ((d1 101), .inr (3, [.ref (d3 0), .int (s3 1 0), .int (s3 2 0), .ref (d3 3), .ref (d3 4), .int (s3 5 0), .int (s3 6 0), .ref (d3 7), .ref (d3 8)])), (d3 0, .inl (cI, 60, .inl (s3 0))), (d3 3, .inl (cI, 4, .inl (s3 3))), (d3 4, .inl (cI, 3, .inl (s3 4)))] sz) [(h0, .inr (1, [.int (o.2 0 0), .int (o.2 1 0), .int (o.2 2 0), .int (o.2 3 0)])), (h1, .inl (cM, 2, .inr (.inr (.inr (.inr (qmf (d1 100) (d1 101))))))), ((d1 100), .inr (3, [.ref (d2 0), .int (s2 1 0), .int (s2 2 0), .ref (d2 3), .ref (d2 4), .int (s2 5 0), .int (s2 6 0), .ref (d2 7), .ref (d2 8)])), (d2 0, .inl (cI, 60, .inl (s2 0))), (d2 3, .inl (cI, 4, .inl (s2 3))), (d2 4, .inl (cI, 3, .inl (s2 4))), ((d1 101), .inr (3, [.ref (d3 0), .int (s3 1 0), .int (s3 2 0), .ref (d3 3), .ref (d3 4), .int (s3 5 0), .int (s3 6 0), .ref (d3 7), .ref (d3 8)])), (d3 0, .inl (cI, 60, .inl (s3 0))), (d3 3, .inl (cI, 4, .inl (s3 3))), (d3 4, .inl (cI, 3, .inl (s3 4)))]) (va_A [(h0, .inr (1, [.int (s0 0 0), .int (s0 1 0), .int (s0 2 0), .int (s0 3 0)])), (h1, .inl (cM, 2, .inr (.inr (.inr (.inr (qmf (d1 100) (d1 101))))))), ((d1 100), .inr (3, [.ref (d2 0), .int (s2 1 0), .int (s2 2 0), .ref (d2 3), .ref (d2 4), .int (s2 5 0), .int (s2 6 0), .ref (d2 7), .ref (d2 8)])), (d2 0, .inl (cI, 60, .inl (s2 0))), (d2 3, .inl (cI, 4, .inl (s2 3))), (d2 4, .inl (cI, 3, .inl (s2 4))), ((d1 101), .inr (3, [.ref (d3 0), .int (s3 1 0), .int (s3 2 0), .ref (d3 3), .ref (d3 4), .int (s3 5 0), .int (s3 6 0), .ref (d3 7), .ref (d3 8)])), (d3 0, .inl (cI, 60, .inl (s3 0))), (d3 3, .inl (cI, 4, .inl (s3 3))), (d3 4, .inl (cI, 3, .inl (s3 4)))] sz)) 0 0 (va_A [(h0, .inr (1, [.int (s0 0 0), .int (s0 1 0), .int (s0 2 0), .int (s0 3 0)])), (h1, .inl (cM, 2, .inr (.inr (.inr (.inr (qmf (d1 100) (d1 101))))))), ((d1 100), .inr (3, [.ref (d2 0), .int (s2 1 0), .int (s2 2 0), .ref (d2 3), .ref (d2 4), .int (s2 5 0), .int (s2 6 0), .ref (d2 7), .ref (d2 8)])), (d2 0, .inl (cI, 60, .inl (s2 0))), (d2 3, .inl (cI, 4, .inl (s2 3))), (d2 4, .inl (cI, 3, .inl (s2 4))), ((d1 101), .inr (3, [.ref (d3 0), .int (s3 1 0), .int (s3 2 0), .ref (d3 3), .ref (d3 4), .int (s3 5 0), .int (s3 6 0), .ref (d3 7), .ref (d3 8)])), (d3 0, .inl (cI, 60, .inl (s3 0))), (d3 3, .inl (cI, 4, .inl (s3 3))), (d3 4, .inl (cI, 3, .inl (s3 4)))] sz) := by
  refine Met.ofW (cc := qc_Col_passIfAnswered) (maxL := 3) (ret := (some .boolean)) (by decide) rfl ?_
  intro p e s m args below meth c s₁ B hml hv
  obtain ⟨rfl, hsz, hP, hK, hD0⟩ := hv
  have hx := B.exec
  have hb := B.bytes
  have hr := B.returns
  have hts0 := atoms_spec (ws := ql_Col_passIfAnswered :: qG) B.pre
  have hts := fun (w : Cond) (hw : w ∈ qG) => hts0 w (List.mem_cons_of_mem _ hw)
  have hown : s.vm.findClass "QuietSweep$Collector" = some m.cls := findClass_of_methodNamed B.named
  have hlocks := B.notSynchronized
  subst hsz
  have hD := hD0.self (sz := s.heap.size)
  generalize hAe : va_A [(h0, .inr (1, [.int (s0 0 0), .int (s0 1 0), .int (s0 2 0), .int (s0 3 0)])), (h1, .inl (cM, 2, .inr (.inr (.inr (.inr (qmf (d1 100) (d1 101))))))), ((d1 100), .inr (3, [.ref (d2 0), .int (s2 1 0), .int (s2 2 0), .ref (d2 3), .ref (d2 4), .int (s2 5 0), .int (s2 6 0), .ref (d2 7), .ref (d2 8)])), (d2 0, .inl (cI, 60, .inl (s2 0))), (d2 3, .inl (cI, 4, .inl (s2 3))), (d2 4, .inl (cI, 3, .inl (s2 4))), ((d1 101), .inr (3, [.ref (d3 0), .int (s3 1 0), .int (s3 2 0), .ref (d3 3), .ref (d3 4), .int (s3 5 0), .int (s3 6 0), .ref (d3 7), .ref (d3 8)])), (d3 0, .inl (cI, 60, .inl (s3 0))), (d3 3, .inl (cI, 4, .inl (s3 3))), (d3 4, .inl (cI, 3, .inl (s3 4)))] s.heap.size = A at hD ⊢
  have hA : ∀ q : Nat, s.heap.size ≤ q → A q := fun q h => by rw [← hAe]; exact Or.inr h
  have hS : va_S A s.heap s.heap [] := va_S.rf
  have hl := lv_entry ([.ref h0, .ref h1]) (n := 3) (Nat.le_of_ble_eq_true rfl)
  rw [lg_entry_eq]
  generalize (lg_sl ([.ref h0, .ref h1]) ++ List.replicate (3 - (lg_sl ([.ref h0, .ref h1])).length) Slot.unset).toArray = ls at hl ⊢
  have hl : lv_has ls 3 [(0, .ref h0), (1, .ref h1)] := hl
  have L2 : ∀ (n : Nat) (x2 : Int32) (s0 : QS) (s2 : QS) (s3 : QS) (H : Heap) (locs : List Loc) (ls : Array Slot), lv_has ls 3 [(0, .ref h0), (1, .ref h1), (2, .int x2)] → va_P (dC, dI) qCl [(h0, .inr (1, [.int (s0 0 0), .int (s0 1 0), .int (s0 2 0), .int (s0 3 0)])), (h1, .inl (cM, 2, .inr (.inr (.inr (.inr (qmf (d1 100) (d1 101))))))), ((d1 100), .inr (3, [.ref (d2 0), .int (s2 1 0), .int (s2 2 0), .ref (d2 3), .ref (d2 4), .int (s2 5 0), .int (s2 6 0), .ref (d2 7), .ref (d2 8)])), (d2 0, .inl (cI, 60, .inl (s2 0))), (d2 3, .inl (cI, 4, .inl (s2 3))), (d2 4, .inl (cI, 3, .inl (s2 4))), ((d1 101), .inr (3, [.ref (d3 0), .int (s3 1 0), .int (s3 2 0), .ref (d3 3), .ref (d3 4), .int (s3 5 0), .int (s3 6 0), .ref (d3 7), .ref (d3 8)])), (d3 0, .inl (cI, 60, .inl (s3 0))), (d3 3, .inl (cI, 4, .inl (s3 3))), (d3 4, .inl (cI, 3, .inl (s3 4)))] H → va_D A [(h0, .inr (1, [.int (s0 0 0), .int (s0 1 0), .int (s0 2 0), .int (s0 3 0)])), (h1, .inl (cM, 2, .inr (.inr (.inr (.inr (qmf (d1 100) (d1 101))))))), ((d1 100), .inr (3, [.ref (d2 0), .int (s2 1 0), .int (s2 2 0), .ref (d2 3), .ref (d2 4), .int (s2 5 0), .int (s2 6 0), .ref (d2 7), .ref (d2 8)])), (d2 0, .inl (cI, 60, .inl (s2 0))), (d2 3, .inl (cI, 4, .inl (s2 3))), (d2 4, .inl (cI, 3, .inl (s2 4))), ((d1 101), .inr (3, [.ref (d3 0), .int (s3 1 0), .int (s3 2 0), .ref (d3 3), .ref (d3 4), .int (s3 5 0), .int (s3 6 0), .ref (d3 7), .ref (d3 8)])), (d3 0, .inl (cI, 60, .inl (s3 0))), (d3 3, .inl (cI, 4, .inl (s3 3))), (d3 4, .inl (cI, 3, .inl (s3 4)))] → va_S A s.heap H locs → qfix (qf_Col_passIfAnswered_F2) n (x2, s0, s2, s3) = some o → W p l e (headSpec (ql_Col_passIfAnswered :: qG) ({ frames := 1, cells := 0, slots := 0, locals := 20 } : Room)).room s m ([.ref h0, .ref h1] : List Value).toArray below meth c H locs 0 0 (MQ below (va_Qi (fun r (_ : Unit) => r = o.1) (fun _ t => va_P (dC, dI) qCl [(h0, .inr (1, [.int (o.2 0 0), .int (o.2 1 0), .int (o.2 2 0), .int (o.2 3 0)])), (h1, .inl (cM, 2, .inr (.inr (.inr (.inr (qmf (d1 100) (d1 101))))))), ((d1 100), .inr (3, [.ref (d2 0), .int (s2 1 0), .int (s2 2 0), .ref (d2 3), .ref (d2 4), .int (s2 5 0), .int (s2 6 0), .ref (d2 7), .ref (d2 8)])), (d2 0, .inl (cI, 60, .inl (s2 0))), (d2 3, .inl (cI, 4, .inl (s2 3))), (d2 4, .inl (cI, 3, .inl (s2 4))), ((d1 101), .inr (3, [.ref (d3 0), .int (s3 1 0), .int (s3 2 0), .ref (d3 3), .ref (d3 4), .int (s3 5 0), .int (s3 6 0), .ref (d3 7), .ref (d3 8)])), (d3 0, .inl (cI, 60, .inl (s3 0))), (d3 3, .inl (cI, 4, .inl (s3 3))), (d3 4, .inl (cI, 3, .inl (s3 4)))] t.heap ∧ va_D A [(h0, .inr (1, [.int (o.2 0 0), .int (o.2 1 0), .int (o.2 2 0), .int (o.2 3 0)])), (h1, .inl (cM, 2, .inr (.inr (.inr (.inr (qmf (d1 100) (d1 101))))))), ((d1 100), .inr (3, [.ref (d2 0), .int (s2 1 0), .int (s2 2 0), .ref (d2 3), .ref (d2 4), .int (s2 5 0), .int (s2 6 0), .ref (d2 7), .ref (d2 8)])), (d2 0, .inl (cI, 60, .inl (s2 0))), (d2 3, .inl (cI, 4, .inl (s2 3))), (d2 4, .inl (cI, 3, .inl (s2 4))), ((d1 101), .inr (3, [.ref (d3 0), .int (s3 1 0), .int (s3 2 0), .ref (d3 3), .ref (d3 4), .int (s3 5 0), .int (s3 6 0), .ref (d3 7), .ref (d3 8)])), (d3 0, .inl (cI, 60, .inl (s3 0))), (d3 3, .inl (cI, 4, .inl (s3 3))), (d3 4, .inl (cI, 3, .inl (s3 4)))]) A) ([.ref h0, .ref h1] : List Value).toArray s 0 0 A) (F0 m 2 ls []) := by
    intro n
    induction n with
    | zero => intro x2 s0 s2 s3 H locs ls hl hP hD hS h; cases (show (none : Option (Int32 × QS)) = some o from h)
    | succ n2 ih2 =>
      intro x2 s0 s2 s3 H locs ls hl hP hD hS h
      have h : qf_Col_passIfAnswered_B2 (qfix (qf_Col_passIfAnswered_F2) n2) x2 s0 s2 s3 = some o := h
      unfold qf_Col_passIfAnswered_B2 at h
      refine lv_iload_n hx hb qd_Col_passIfAnswered_2 rfl (lv_at hl 2 rfl) ?_
      refine lv_iconst (v := 2) hx hb qd_Col_passIfAnswered_3 rfl ?_
      refine lv_icmp_ge hx hb qd_Col_passIfAnswered_4 (tgt := 28) (by decide) (fun hc => ?_) (fun hc => ?_)
      · have h := qq_t hc h
        refine lv_aload_n hx hb qd_Col_passIfAnswered_28 rfl (lv_at hl 0 rfl) ?_
        refine va_get (D := (dC, dI)) (ci := 1) (v := .int (s0 0 0)) (C := "QuietSweep$Collector") (T := qT_Col) (N := 4) hx hb hts qi_Col hown hK.1 hP 0 rfl rfl 0 (by decide) (hts _ qw_161) (fun _ h9 => h9) rfl qd_Col_passIfAnswered_29 ?_
        refine lv_bipush (v := 6) hx hb qd_Col_passIfAnswered_32 (by decide) ?_
        refine lv_icmp_ne hx hb qd_Col_passIfAnswered_34 (tgt := 55) (by decide) (fun hc => ?_) (fun hc => ?_)
        · have h := qq_f hc h
          refine lv_aload_n hx hb qd_Col_passIfAnswered_55 rfl (lv_at hl 0 rfl) ?_
          refine lv_dup hx hb qd_Col_passIfAnswered_56 rfl ?_
          refine va_get (D := (dC, dI)) (ci := 1) (v := .int (s0 0 0)) (C := "QuietSweep$Collector") (T := qT_Col) (N := 4) hx hb hts qi_Col hown hK.1 hP 0 rfl rfl 0 (by decide) (hts _ qw_161) (fun _ h9 => h9) rfl qd_Col_passIfAnswered_57 ?_
          refine lv_iconst (v := 1) hx hb qd_Col_passIfAnswered_60 rfl ?_
          refine lv_iadd hx hb qd_Col_passIfAnswered_61 ?_
          refine va_put (D := (dC, dI)) (ci := 1) (v := .int ((s0 0 0) + 1)) (ty := .int) (C := "QuietSweep$Collector") (T := qT_Col) (N := 4) hx hb hts qi_Col qt_Col qo_Col qn_Col hown hK.1 hP hD hS 0 rfl rfl 0 (by decide) (hts _ qw_161) (fun _ h9 => h9) rfl (qo_Col 0 (by decide)) rfl rfl (Nat.le_of_ble_eq_true rfl) qd_Col_passIfAnswered_62 (fun H locs hP hD hS => ?_)
          have hP : va_P (dC, dI) qCl [(h0, .inr (1, [.int ((s0 0 0) + 1), .int (s0 1 0), .int (s0 2 0), .int (s0 3 0)])), (h1, .inl (cM, 2, .inr (.inr (.inr (.inr (qmf (d1 100) (d1 101))))))), ((d1 100), .inr (3, [.ref (d2 0), .int (s2 1 0), .int (s2 2 0), .ref (d2 3), .ref (d2 4), .int (s2 5 0), .int (s2 6 0), .ref (d2 7), .ref (d2 8)])), (d2 0, .inl (cI, 60, .inl (s2 0))), (d2 3, .inl (cI, 4, .inl (s2 3))), (d2 4, .inl (cI, 3, .inl (s2 4))), ((d1 101), .inr (3, [.ref (d3 0), .int (s3 1 0), .int (s3 2 0), .ref (d3 3), .ref (d3 4), .int (s3 5 0), .int (s3 6 0), .ref (d3 7), .ref (d3 8)])), (d3 0, .inl (cI, 60, .inl (s3 0))), (d3 3, .inl (cI, 4, .inl (s3 3))), (d3 4, .inl (cI, 3, .inl (s3 4)))] _ := hP
          have hD : va_D A [(h0, .inr (1, [.int ((s0 0 0) + 1), .int (s0 1 0), .int (s0 2 0), .int (s0 3 0)])), (h1, .inl (cM, 2, .inr (.inr (.inr (.inr (qmf (d1 100) (d1 101))))))), ((d1 100), .inr (3, [.ref (d2 0), .int (s2 1 0), .int (s2 2 0), .ref (d2 3), .ref (d2 4), .int (s2 5 0), .int (s2 6 0), .ref (d2 7), .ref (d2 8)])), (d2 0, .inl (cI, 60, .inl (s2 0))), (d2 3, .inl (cI, 4, .inl (s2 3))), (d2 4, .inl (cI, 3, .inl (s2 4))), ((d1 101), .inr (3, [.ref (d3 0), .int (s3 1 0), .int (s3 2 0), .ref (d3 3), .ref (d3 4), .int (s3 5 0), .int (s3 6 0), .ref (d3 7), .ref (d3 8)])), (d3 0, .inl (cI, 60, .inl (s3 0))), (d3 3, .inl (cI, 4, .inl (s3 3))), (d3 4, .inl (cI, 3, .inl (s3 4)))] := hD
          refine lv_iconst (v := 1) hx hb qd_Col_passIfAnswered_65 rfl ?_
          obtain rfl := Option.some.inj h
          exact W.zret (v := 1) hx hb hr rfl (fun t ht hW => ⟨⟨1, (), rfl, rfl, by rw [ht]; exact hP, hD⟩, hS.F ht⟩) hS.2.2 qd_Col_passIfAnswered_66
        · have h := qq_t hc h
          refine lv_aload_n hx hb qd_Col_passIfAnswered_37 rfl (lv_at hl 0 rfl) ?_
          refine lv_iconst (v := 0) hx hb qd_Col_passIfAnswered_38 rfl ?_
          refine va_put (D := (dC, dI)) (ci := 1) (v := .int 0) (ty := .int) (C := "QuietSweep$Collector") (T := qT_Col) (N := 4) hx hb hts qi_Col qt_Col qo_Col qn_Col hown hK.1 hP hD hS 0 rfl rfl 0 (by decide) (hts _ qw_161) (fun _ h9 => h9) rfl (qo_Col 0 (by decide)) rfl rfl (Nat.le_of_ble_eq_true rfl) qd_Col_passIfAnswered_39 (fun H locs hP hD hS => ?_)
          have hP : va_P (dC, dI) qCl [(h0, .inr (1, [.int 0, .int (s0 1 0), .int (s0 2 0), .int (s0 3 0)])), (h1, .inl (cM, 2, .inr (.inr (.inr (.inr (qmf (d1 100) (d1 101))))))), ((d1 100), .inr (3, [.ref (d2 0), .int (s2 1 0), .int (s2 2 0), .ref (d2 3), .ref (d2 4), .int (s2 5 0), .int (s2 6 0), .ref (d2 7), .ref (d2 8)])), (d2 0, .inl (cI, 60, .inl (s2 0))), (d2 3, .inl (cI, 4, .inl (s2 3))), (d2 4, .inl (cI, 3, .inl (s2 4))), ((d1 101), .inr (3, [.ref (d3 0), .int (s3 1 0), .int (s3 2 0), .ref (d3 3), .ref (d3 4), .int (s3 5 0), .int (s3 6 0), .ref (d3 7), .ref (d3 8)])), (d3 0, .inl (cI, 60, .inl (s3 0))), (d3 3, .inl (cI, 4, .inl (s3 3))), (d3 4, .inl (cI, 3, .inl (s3 4)))] _ := hP
          have hD : va_D A [(h0, .inr (1, [.int 0, .int (s0 1 0), .int (s0 2 0), .int (s0 3 0)])), (h1, .inl (cM, 2, .inr (.inr (.inr (.inr (qmf (d1 100) (d1 101))))))), ((d1 100), .inr (3, [.ref (d2 0), .int (s2 1 0), .int (s2 2 0), .ref (d2 3), .ref (d2 4), .int (s2 5 0), .int (s2 6 0), .ref (d2 7), .ref (d2 8)])), (d2 0, .inl (cI, 60, .inl (s2 0))), (d2 3, .inl (cI, 4, .inl (s2 3))), (d2 4, .inl (cI, 3, .inl (s2 4))), ((d1 101), .inr (3, [.ref (d3 0), .int (s3 1 0), .int (s3 2 0), .ref (d3 3), .ref (d3 4), .int (s3 5 0), .int (s3 6 0), .ref (d3 7), .ref (d3 8)])), (d3 0, .inl (cI, 60, .inl (s3 0))), (d3 3, .inl (cI, 4, .inl (s3 3))), (d3 4, .inl (cI, 3, .inl (s3 4)))] := hD
          refine lv_aload_n hx hb qd_Col_passIfAnswered_42 rfl (lv_at hl 0 rfl) ?_
          refine lv_dup hx hb qd_Col_passIfAnswered_43 rfl ?_
          refine va_get (D := (dC, dI)) (ci := 1) (v := .int (s0 1 0)) (C := "QuietSweep$Collector") (T := qT_Col) (N := 4) hx hb hts qi_Col hown hK.1 hP 0 rfl rfl 1 (by decide) (hts _ qw_163) (fun _ h9 => h9) rfl qd_Col_passIfAnswered_44 ?_
          refine lv_iconst (v := 1) hx hb qd_Col_passIfAnswered_47 rfl ?_
          refine lv_iadd hx hb qd_Col_passIfAnswered_48 ?_
          refine va_put (D := (dC, dI)) (ci := 1) (v := .int ((s0 1 0) + 1)) (ty := .int) (C := "QuietSweep$Collector") (T := qT_Col) (N := 4) hx hb hts qi_Col qt_Col qo_Col qn_Col hown hK.1 hP hD hS 0 rfl rfl 1 (by decide) (hts _ qw_163) (fun _ h9 => h9) rfl (qo_Col 1 (by decide)) rfl rfl (Nat.le_of_ble_eq_true rfl) qd_Col_passIfAnswered_49 (fun H locs hP hD hS => ?_)
          have hP : va_P (dC, dI) qCl [(h0, .inr (1, [.int 0, .int ((s0 1 0) + 1), .int (s0 2 0), .int (s0 3 0)])), (h1, .inl (cM, 2, .inr (.inr (.inr (.inr (qmf (d1 100) (d1 101))))))), ((d1 100), .inr (3, [.ref (d2 0), .int (s2 1 0), .int (s2 2 0), .ref (d2 3), .ref (d2 4), .int (s2 5 0), .int (s2 6 0), .ref (d2 7), .ref (d2 8)])), (d2 0, .inl (cI, 60, .inl (s2 0))), (d2 3, .inl (cI, 4, .inl (s2 3))), (d2 4, .inl (cI, 3, .inl (s2 4))), ((d1 101), .inr (3, [.ref (d3 0), .int (s3 1 0), .int (s3 2 0), .ref (d3 3), .ref (d3 4), .int (s3 5 0), .int (s3 6 0), .ref (d3 7), .ref (d3 8)])), (d3 0, .inl (cI, 60, .inl (s3 0))), (d3 3, .inl (cI, 4, .inl (s3 3))), (d3 4, .inl (cI, 3, .inl (s3 4)))] _ := hP
          have hD : va_D A [(h0, .inr (1, [.int 0, .int ((s0 1 0) + 1), .int (s0 2 0), .int (s0 3 0)])), (h1, .inl (cM, 2, .inr (.inr (.inr (.inr (qmf (d1 100) (d1 101))))))), ((d1 100), .inr (3, [.ref (d2 0), .int (s2 1 0), .int (s2 2 0), .ref (d2 3), .ref (d2 4), .int (s2 5 0), .int (s2 6 0), .ref (d2 7), .ref (d2 8)])), (d2 0, .inl (cI, 60, .inl (s2 0))), (d2 3, .inl (cI, 4, .inl (s2 3))), (d2 4, .inl (cI, 3, .inl (s2 4))), ((d1 101), .inr (3, [.ref (d3 0), .int (s3 1 0), .int (s3 2 0), .ref (d3 3), .ref (d3 4), .int (s3 5 0), .int (s3 6 0), .ref (d3 7), .ref (d3 8)])), (d3 0, .inl (cI, 60, .inl (s3 0))), (d3 3, .inl (cI, 4, .inl (s3 3))), (d3 4, .inl (cI, 3, .inl (s3 4)))] := hD
          refine lv_goto hx hb qd_Col_passIfAnswered_52 (tgt := 65) (by decide) ?_
          refine lv_iconst (v := 1) hx hb qd_Col_passIfAnswered_65 rfl ?_
          obtain rfl := Option.some.inj h
          exact W.zret (v := 1) hx hb hr rfl (fun t ht hW => ⟨⟨1, (), rfl, rfl, by rw [ht]; exact hP, hD⟩, hS.F ht⟩) hS.2.2 qd_Col_passIfAnswered_66
      · have h := qq_f hc h
        refine lv_aload_n hx hb qd_Col_passIfAnswered_7 rfl (lv_at hl 1 rfl) ?_
        refine lv_iload_n hx hb qd_Col_passIfAnswered_8 rfl (lv_at hl 2 rfl) ?_
        by_cases hc1 : x2 = 0
        · have h := qq_t hc1 h
          refine va_aldq hx hb hK.1 hP 1 3 rfl rfl (show vp_in _ 2 by rw [hc1]; exact (by decide : ¬ ((0 : Int32) < 0 ∨ 2 ≤ (0 : Int32).toNatClampNeg))) qd_Col_passIfAnswered_9 ?_
          refine W.eq (g2 := F0 m 10 ls [.ref (d1 100)]) (by rw [hc1]; rfl) ?_
          refine va_getN (D := (dC, dI)) (ci := 3) (v := .int (s2 5 0)) (C := "QuietSweep$Mutator") (T := qT_Mut) (N := 9) hx hb hts qi_Mut hown hK.1 hP 2 rfl rfl 5 (by decide) (qNs_use hK.2 qu_128) (fun _ h9 => h9) rfl qd_Col_passIfAnswered_10 ?_
          refine lv_aload_n hx hb qd_Col_passIfAnswered_13 rfl (lv_at hl 0 rfl) ?_
          obtain ⟨q3, hq3, h⟩ := qq_b h
          have hPc := hP.sub (ws' := [(h0, .inr (1, [.int (s0 0 0), .int (s0 1 0), .int (s0 2 0), .int (s0 3 0)]))]) [0] rfl
          have hDc := hD.sub (ws' := [(h0, .inr (1, [.int (s0 0 0), .int (s0 1 0), .int (s0 2 0), .int (s0 3 0)]))]) [0] (by decide) rfl
          have hFc := va_free (wc := [(h0, .inr (1, [.int (s0 0 0), .int (s0 1 0), .int (s0 2 0), .int (s0 3 0)]))]) hD hS hA [0] rfl
          refine va_calli (va_runV (As := []) (rest := [.int (s2 5 0)]) ⟨hx, hb, hml, hown, hts⟩ (qm_Col_asked l dC dI cI cC cB cM h0 d0 s0 _ q3 hq3) (q_CW hts qw_430 qw_396 qw_397 qw_7 qw_398 qh_Col_asked rfl rfl ⟨by decide, by decide⟩) (q_preV [] 0 rfl rfl hK hPc hDc) rfl rfl hl.1 rfl (lv_room (Nat.le_of_ble_eq_true rfl)) qd_Col_passIfAnswered_14 ⟨Nat.zero_le _, Nat.zero_le _⟩) hS (fun q _ h => hFc q h) hFc (fun r u t H1 locs ht hvm hw hB hz1 hk1 hS => ?_)
          have hw : q3 = r := Eq.symm hw
          subst hw
          obtain ⟨hP1, hD1⟩ := hB
          rw [ht] at hP1
          obtain ⟨hP, hD⟩ := va_join (wr := [(h1, .inl (cM, 2, .inr (.inr (.inr (.inr (qmf (d1 100) (d1 101))))))), ((d1 100), .inr (3, [.ref (d2 0), .int (s2 1 0), .int (s2 2 0), .ref (d2 3), .ref (d2 4), .int (s2 5 0), .int (s2 6 0), .ref (d2 7), .ref (d2 8)])), (d2 0, .inl (cI, 60, .inl (s2 0))), (d2 3, .inl (cI, 4, .inl (s2 3))), (d2 4, .inl (cI, 3, .inl (s2 4))), ((d1 101), .inr (3, [.ref (d3 0), .int (s3 1 0), .int (s3 2 0), .ref (d3 3), .ref (d3 4), .int (s3 5 0), .int (s3 6 0), .ref (d3 7), .ref (d3 8)])), (d3 0, .inl (cI, 60, .inl (s3 0))), (d3 3, .inl (cI, 4, .inl (s3 3))), (d3 4, .inl (cI, 3, .inl (s3 4)))]) (w1 := [(h0, .inr (1, [.int (s0 0 0), .int (s0 1 0), .int (s0 2 0), .int (s0 3 0)]))]) hP hD [0] [1, 2, 3, 4, 5, 6, 7, 8, 9] rfl rfl (by decide) (by decide) hk1 hFc hP1 hD1
          have hP := hP.sub (ws' := [(h0, .inr (1, [.int (s0 0 0), .int (s0 1 0), .int (s0 2 0), .int (s0 3 0)])), (h1, .inl (cM, 2, .inr (.inr (.inr (.inr (qmf (d1 100) (d1 101))))))), ((d1 100), .inr (3, [.ref (d2 0), .int (s2 1 0), .int (s2 2 0), .ref (d2 3), .ref (d2 4), .int (s2 5 0), .int (s2 6 0), .ref (d2 7), .ref (d2 8)])), (d2 0, .inl (cI, 60, .inl (s2 0))), (d2 3, .inl (cI, 4, .inl (s2 3))), (d2 4, .inl (cI, 3, .inl (s2 4))), ((d1 101), .inr (3, [.ref (d3 0), .int (s3 1 0), .int (s3 2 0), .ref (d3 3), .ref (d3 4), .int (s3 5 0), .int (s3 6 0), .ref (d3 7), .ref (d3 8)])), (d3 0, .inl (cI, 60, .inl (s3 0))), (d3 3, .inl (cI, 4, .inl (s3 3))), (d3 4, .inl (cI, 3, .inl (s3 4)))]) [9, 0, 1, 2, 3, 4, 5, 6, 7, 8] rfl
          have hD := hD.sub (ws' := [(h0, .inr (1, [.int (s0 0 0), .int (s0 1 0), .int (s0 2 0), .int (s0 3 0)])), (h1, .inl (cM, 2, .inr (.inr (.inr (.inr (qmf (d1 100) (d1 101))))))), ((d1 100), .inr (3, [.ref (d2 0), .int (s2 1 0), .int (s2 2 0), .ref (d2 3), .ref (d2 4), .int (s2 5 0), .int (s2 6 0), .ref (d2 7), .ref (d2 8)])), (d2 0, .inl (cI, 60, .inl (s2 0))), (d2 3, .inl (cI, 4, .inl (s2 3))), (d2 4, .inl (cI, 3, .inl (s2 4))), ((d1 101), .inr (3, [.ref (d3 0), .int (s3 1 0), .int (s3 2 0), .ref (d3 3), .ref (d3 4), .int (s3 5 0), .int (s3 6 0), .ref (d3 7), .ref (d3 8)])), (d3 0, .inl (cI, 60, .inl (s3 0))), (d3 3, .inl (cI, 4, .inl (s3 3))), (d3 4, .inl (cI, 3, .inl (s3 4)))]) [9, 0, 1, 2, 3, 4, 5, 6, 7, 8] (by decide) rfl
          refine lv_icmp_eq hx hb qd_Col_passIfAnswered_17 (tgt := 22) (by decide) (fun hc => ?_) (fun hc => ?_)
          · have h := qq_t hc h
            refine lv_iinc (k := 2) (v := (x2 + 1)) (lv' := [(2, .int (x2 + 1)), (0, .ref h0), (1, .ref h1)]) hx hb qd_Col_passIfAnswered_22 hl rfl (congrArg (fun z : Int32 => x2 + z) (show Int32.ofInt 1 = 1 by decide)) (by decide) rfl (fun ls hl => ?_)
            refine lv_goto hx hb qd_Col_passIfAnswered_25 (tgt := 2) (by decide) ?_
            exact ih2 (x2 + 1) s0 s2 s3 _ _ _ (lv_sub (l' := [(0, .ref h0), (1, .ref h1), (2, .int (x2 + 1))]) hl [1, 2, 0] rfl) hP hD hS h
          · have h := qq_f hc h
            refine lv_iconst (v := 0) hx hb qd_Col_passIfAnswered_20 rfl ?_
            obtain rfl := Option.some.inj h
            exact W.zret (v := 0) hx hb hr rfl (fun t ht hW => ⟨⟨0, (), rfl, rfl, by rw [ht]; exact hP, hD⟩, hS.F ht⟩) hS.2.2 qd_Col_passIfAnswered_21
        have h := qq_f hc1 h
        by_cases hc2 : x2 = 1
        · have h := qq_t hc2 h
          refine va_aldq hx hb hK.1 hP 1 3 rfl rfl (show vp_in _ 2 by rw [hc2]; exact (by decide : ¬ ((1 : Int32) < 0 ∨ 2 ≤ (1 : Int32).toNatClampNeg))) qd_Col_passIfAnswered_9 ?_
          refine W.eq (g2 := F0 m 10 ls [.ref (d1 101)]) (by rw [hc2]; rfl) ?_
          refine va_getN (D := (dC, dI)) (ci := 3) (v := .int (s3 5 0)) (C := "QuietSweep$Mutator") (T := qT_Mut) (N := 9) hx hb hts qi_Mut hown hK.1 hP 6 rfl rfl 5 (by decide) (qNs_use hK.2 qu_128) (fun _ h9 => h9) rfl qd_Col_passIfAnswered_10 ?_
          refine lv_aload_n hx hb qd_Col_passIfAnswered_13 rfl (lv_at hl 0 rfl) ?_
          obtain ⟨q4, hq4, h⟩ := qq_b h
          have hPc := hP.sub (ws' := [(h0, .inr (1, [.int (s0 0 0), .int (s0 1 0), .int (s0 2 0), .int (s0 3 0)]))]) [0] rfl
          have hDc := hD.sub (ws' := [(h0, .inr (1, [.int (s0 0 0), .int (s0 1 0), .int (s0 2 0), .int (s0 3 0)]))]) [0] (by decide) rfl
          have hFc := va_free (wc := [(h0, .inr (1, [.int (s0 0 0), .int (s0 1 0), .int (s0 2 0), .int (s0 3 0)]))]) hD hS hA [0] rfl
          refine va_calli (va_runV (As := []) (rest := [.int (s3 5 0)]) ⟨hx, hb, hml, hown, hts⟩ (qm_Col_asked l dC dI cI cC cB cM h0 d0 s0 _ q4 hq4) (q_CW hts qw_430 qw_396 qw_397 qw_7 qw_398 qh_Col_asked rfl rfl ⟨by decide, by decide⟩) (q_preV [] 0 rfl rfl hK hPc hDc) rfl rfl hl.1 rfl (lv_room (Nat.le_of_ble_eq_true rfl)) qd_Col_passIfAnswered_14 ⟨Nat.zero_le _, Nat.zero_le _⟩) hS (fun q _ h => hFc q h) hFc (fun r u t H1 locs ht hvm hw hB hz1 hk1 hS => ?_)
          have hw : q4 = r := Eq.symm hw
          subst hw
          obtain ⟨hP1, hD1⟩ := hB
          rw [ht] at hP1
          obtain ⟨hP, hD⟩ := va_join (wr := [(h1, .inl (cM, 2, .inr (.inr (.inr (.inr (qmf (d1 100) (d1 101))))))), ((d1 100), .inr (3, [.ref (d2 0), .int (s2 1 0), .int (s2 2 0), .ref (d2 3), .ref (d2 4), .int (s2 5 0), .int (s2 6 0), .ref (d2 7), .ref (d2 8)])), (d2 0, .inl (cI, 60, .inl (s2 0))), (d2 3, .inl (cI, 4, .inl (s2 3))), (d2 4, .inl (cI, 3, .inl (s2 4))), ((d1 101), .inr (3, [.ref (d3 0), .int (s3 1 0), .int (s3 2 0), .ref (d3 3), .ref (d3 4), .int (s3 5 0), .int (s3 6 0), .ref (d3 7), .ref (d3 8)])), (d3 0, .inl (cI, 60, .inl (s3 0))), (d3 3, .inl (cI, 4, .inl (s3 3))), (d3 4, .inl (cI, 3, .inl (s3 4)))]) (w1 := [(h0, .inr (1, [.int (s0 0 0), .int (s0 1 0), .int (s0 2 0), .int (s0 3 0)]))]) hP hD [0] [1, 2, 3, 4, 5, 6, 7, 8, 9] rfl rfl (by decide) (by decide) hk1 hFc hP1 hD1
          have hP := hP.sub (ws' := [(h0, .inr (1, [.int (s0 0 0), .int (s0 1 0), .int (s0 2 0), .int (s0 3 0)])), (h1, .inl (cM, 2, .inr (.inr (.inr (.inr (qmf (d1 100) (d1 101))))))), ((d1 100), .inr (3, [.ref (d2 0), .int (s2 1 0), .int (s2 2 0), .ref (d2 3), .ref (d2 4), .int (s2 5 0), .int (s2 6 0), .ref (d2 7), .ref (d2 8)])), (d2 0, .inl (cI, 60, .inl (s2 0))), (d2 3, .inl (cI, 4, .inl (s2 3))), (d2 4, .inl (cI, 3, .inl (s2 4))), ((d1 101), .inr (3, [.ref (d3 0), .int (s3 1 0), .int (s3 2 0), .ref (d3 3), .ref (d3 4), .int (s3 5 0), .int (s3 6 0), .ref (d3 7), .ref (d3 8)])), (d3 0, .inl (cI, 60, .inl (s3 0))), (d3 3, .inl (cI, 4, .inl (s3 3))), (d3 4, .inl (cI, 3, .inl (s3 4)))]) [9, 0, 1, 2, 3, 4, 5, 6, 7, 8] rfl
          have hD := hD.sub (ws' := [(h0, .inr (1, [.int (s0 0 0), .int (s0 1 0), .int (s0 2 0), .int (s0 3 0)])), (h1, .inl (cM, 2, .inr (.inr (.inr (.inr (qmf (d1 100) (d1 101))))))), ((d1 100), .inr (3, [.ref (d2 0), .int (s2 1 0), .int (s2 2 0), .ref (d2 3), .ref (d2 4), .int (s2 5 0), .int (s2 6 0), .ref (d2 7), .ref (d2 8)])), (d2 0, .inl (cI, 60, .inl (s2 0))), (d2 3, .inl (cI, 4, .inl (s2 3))), (d2 4, .inl (cI, 3, .inl (s2 4))), ((d1 101), .inr (3, [.ref (d3 0), .int (s3 1 0), .int (s3 2 0), .ref (d3 3), .ref (d3 4), .int (s3 5 0), .int (s3 6 0), .ref (d3 7), .ref (d3 8)])), (d3 0, .inl (cI, 60, .inl (s3 0))), (d3 3, .inl (cI, 4, .inl (s3 3))), (d3 4, .inl (cI, 3, .inl (s3 4)))]) [9, 0, 1, 2, 3, 4, 5, 6, 7, 8] (by decide) rfl
          refine lv_icmp_eq hx hb qd_Col_passIfAnswered_17 (tgt := 22) (by decide) (fun hc => ?_) (fun hc => ?_)
          · have h := qq_t hc h
            refine lv_iinc (k := 2) (v := (x2 + 1)) (lv' := [(2, .int (x2 + 1)), (0, .ref h0), (1, .ref h1)]) hx hb qd_Col_passIfAnswered_22 hl rfl (congrArg (fun z : Int32 => x2 + z) (show Int32.ofInt 1 = 1 by decide)) (by decide) rfl (fun ls hl => ?_)
            refine lv_goto hx hb qd_Col_passIfAnswered_25 (tgt := 2) (by decide) ?_
            exact ih2 (x2 + 1) s0 s2 s3 _ _ _ (lv_sub (l' := [(0, .ref h0), (1, .ref h1), (2, .int (x2 + 1))]) hl [1, 2, 0] rfl) hP hD hS h
          · have h := qq_f hc h
            refine lv_iconst (v := 0) hx hb qd_Col_passIfAnswered_20 rfl ?_
            obtain rfl := Option.some.inj h
            exact W.zret (v := 0) hx hb hr rfl (fun t ht hW => ⟨⟨0, (), rfl, rfl, by rw [ht]; exact hP, hD⟩, hS.F ht⟩) hS.2.2 qd_Col_passIfAnswered_21
        have h := qq_f hc2 h
        cases h
  unfold qf_Col_passIfAnswered at h
  refine lv_iconst (v := 0) hx hb qd_Col_passIfAnswered_0 rfl ?_
  refine lv_istore_n (lv' := [(2, .int 0), (0, .ref h0), (1, .ref h1)]) hx hb qd_Col_passIfAnswered_1 rfl hl (by decide) rfl (fun ls hl => ?_)
  exact L2 qN 0 s0 s2 s3 _ _ _ (lv_sub (l' := [(0, .ref h0), (1, .ref h1), (2, .int 0)]) hl [1, 2, 0] rfl) hP hD hS h
/-! QuietSweep$Collector.trace(LQuietSweep$Memory;)V -/
def qf_Col_trace  (s0 : QS) (s1 : QS) : Option (QS × QS) := (if (s0 2 0) = (-1) then ((qf_Mem_leastOf 2 s1).bind fun q1 => (if q1 = (-1) then (some ((qp (qp (qp s0 0 (fun _ => 5)) 2 (fun _ => q1)) 3 (fun _ => 0)), s1)) else ((qf_Mem_read q1 0 s1).bind fun q2 => ((qf_Mem_mark q2 s1).bind fun q3 => (some ((qp s0 2 (fun _ => q1)), q3)))))) else ((qf_Mem_read (s0 2 0) 1 s1).bind fun q4 => ((qf_Mem_mark q4 s1).bind fun q5 => (if ((s0 2 0) < 0 ∨ (q5 0 0).toNatClampNeg ≤ Int32.toNatClampNeg (s0 2 0)) then none else (some ((qp s0 2 (fun _ => (-1))), (qp q5 1 (upd (q5 1) (Int32.toNatClampNeg (s0 2 0)) 3))))))))
set_option maxHeartbeats 4000000 in
set_option maxRecDepth 100000 in
theorem qm_Col_trace (l : Launch) (dC : Nat → ClassId) (dI : Nat → Nat → Nat) (cI cC cB cM : ClassId) (h0 : Nat) (h1 : Nat) (d0 : Nat → Nat) (d1 : Nat → Nat) (s0 : QS) (s1 : QS)  (sz : Nat) (o : QS × QS) (h : qf_Col_trace s0 s1 = some o) : Met l qy_Col_trace (ql_Col_trace :: qG) ({ frames := 1, cells := 0, slots := 0, locals := 22 } : Room) (qPc dC dI cI cC cB cM [.ref h0, .ref h1] sz [(h0, .inr (1, [.int (s0 0 0), .int (s0 1 0), .int (s0 2 0), .int (s0 3 0)])), (h1, .inr (2, [.int (s1 0 0), .ref (d1 1), .ref (d1 2)])), (d1 1, .inl (cI, (s1 0 0).toNatClampNeg, .inl (s1 1))), (d1 2, .inl (cI, (3 * s1 0 0).toNatClampNeg, .inl (s1 2)))]) (va_Qv (fun _ : Unit => True) (fun _ t => va_P (dC, dI) qCl [(h0, .inr (1, [.int (o.1 0 0), .int (o.1 1 0), .int (o.1 2 0), .int (o.1 3 0)])), (h1, .inr (2, [.int (o.2 0 0), .ref (d1 1), .ref (d1 2)])), (d1 1, .inl (cI, (o.2 0 0).toNatClampNeg, .inl (o.2 1))), (d1 2, .inl (cI, (3 * o.2 0 0).toNatClampNeg, .inl (o.2 2)))] t.heap ∧ va_D (va_A [(h0, .inr (1, [.int (s0 0 0), .int (s0 1 0), .int (s0 2 0), .int (s0 3 0)])), (h1, .inr (2, [.int (s1 0 0), .ref (d1 1), .ref (d1 2)])), (d1 1, .inl (cI, (s1 0 0).toNatClampNeg, .inl (s1 1))), (d1 2, .inl (cI, (3 * s1 0 0).toNatClampNeg, .inl (s1 2)))] sz) [(h0, .inr (1, [.int (o.1 0 0), .int (o.1 1 0), .int (o.1 2 0), .int (o.1 3 0)])), (h1, .inr (2, [.int (o.2 0 0), .ref (d1 1), .ref (d1 2)])), (d1 1, .inl (cI, (o.2 0 0).toNatClampNeg, .inl (o.2 1))), (d1 2, .inl (cI, (3 * o.2 0 0).toNatClampNeg, .inl (o.2 2)))]) (va_A [(h0, .inr (1, [.int (s0 0 0), .int (s0 1 0), .int (s0 2 0), .int (s0 3 0)])), (h1, .inr (2, [.int (s1 0 0), .ref (d1 1), .ref (d1 2)])), (d1 1, .inl (cI, (s1 0 0).toNatClampNeg, .inl (s1 1))), (d1 2, .inl (cI, (3 * s1 0 0).toNatClampNeg, .inl (s1 2)))] sz)) 0 0 (va_A [(h0, .inr (1, [.int (s0 0 0), .int (s0 1 0), .int (s0 2 0), .int (s0 3 0)])), (h1, .inr (2, [.int (s1 0 0), .ref (d1 1), .ref (d1 2)])), (d1 1, .inl (cI, (s1 0 0).toNatClampNeg, .inl (s1 1))), (d1 2, .inl (cI, (3 * s1 0 0).toNatClampNeg, .inl (s1 2)))] sz) := by
  refine Met.ofW (cc := qc_Col_trace) (maxL := 2) (ret := none) (by decide) rfl ?_
  intro p e s m args below meth c s₁ B hml hv
  obtain ⟨rfl, hsz, hP, hK, hD0⟩ := hv
  have hx := B.exec
  have hb := B.bytes
  have hr := B.returns
  have hts0 := atoms_spec (ws := ql_Col_trace :: qG) B.pre
  have hts := fun (w : Cond) (hw : w ∈ qG) => hts0 w (List.mem_cons_of_mem _ hw)
  have hown : s.vm.findClass "QuietSweep$Collector" = some m.cls := findClass_of_methodNamed B.named
  have hlocks := B.notSynchronized
  subst hsz
  have hD := hD0.self (sz := s.heap.size)
  generalize hAe : va_A [(h0, .inr (1, [.int (s0 0 0), .int (s0 1 0), .int (s0 2 0), .int (s0 3 0)])), (h1, .inr (2, [.int (s1 0 0), .ref (d1 1), .ref (d1 2)])), (d1 1, .inl (cI, (s1 0 0).toNatClampNeg, .inl (s1 1))), (d1 2, .inl (cI, (3 * s1 0 0).toNatClampNeg, .inl (s1 2)))] s.heap.size = A at hD ⊢
  have hA : ∀ q : Nat, s.heap.size ≤ q → A q := fun q h => by rw [← hAe]; exact Or.inr h
  have hS : va_S A s.heap s.heap [] := va_S.rf
  have hl := lv_entry ([.ref h0, .ref h1]) (n := 2) (Nat.le_of_ble_eq_true rfl)
  rw [lg_entry_eq]
  generalize (lg_sl ([.ref h0, .ref h1]) ++ List.replicate (2 - (lg_sl ([.ref h0, .ref h1])).length) Slot.unset).toArray = ls at hl ⊢
  have hl : lv_has ls 2 [(0, .ref h0), (1, .ref h1)] := hl
  unfold qf_Col_trace at h
  refine lv_aload_n hx hb qd_Col_trace_0 rfl (lv_at hl 0 rfl) ?_
  refine va_get (D := (dC, dI)) (ci := 1) (v := .int (s0 2 0)) (C := "QuietSweep$Collector") (T := qT_Col) (N := 4) hx hb hts qi_Col hown hK.1 hP 0 rfl rfl 2 (by decide) (hts _ qw_165) (fun _ h9 => h9) rfl qd_Col_trace_1 ?_
  refine lv_iconst (v := (-1)) hx hb qd_Col_trace_4 rfl ?_
  refine lv_icmp_eq hx hb qd_Col_trace_5 (tgt := 37) (by decide) (fun hc => ?_) (fun hc => ?_)
  · have h := qq_t hc h
    refine lv_aload_n hx hb qd_Col_trace_37 rfl (lv_at hl 0 rfl) ?_
    refine lv_aload_n hx hb qd_Col_trace_38 rfl (lv_at hl 1 rfl) ?_
    refine lv_iconst (v := 2) hx hb qd_Col_trace_39 rfl ?_
    obtain ⟨q1, hq1, h⟩ := qq_b h
    have hPc := hP.sub (ws' := [(h1, .inr (2, [.int (s1 0 0), .ref (d1 1), .ref (d1 2)])), (d1 1, .inl (cI, (s1 0 0).toNatClampNeg, .inl (s1 1))), (d1 2, .inl (cI, (3 * s1 0 0).toNatClampNeg, .inl (s1 2)))]) [1, 2, 3] rfl
    have hDc := hD.sub (ws' := [(h1, .inr (2, [.int (s1 0 0), .ref (d1 1), .ref (d1 2)])), (d1 1, .inl (cI, (s1 0 0).toNatClampNeg, .inl (s1 1))), (d1 2, .inl (cI, (3 * s1 0 0).toNatClampNeg, .inl (s1 2)))]) [1, 2, 3] (by decide) rfl
    have hFc := va_free (wc := [(h1, .inr (2, [.int (s1 0 0), .ref (d1 1), .ref (d1 2)])), (d1 1, .inl (cI, (s1 0 0).toNatClampNeg, .inl (s1 1))), (d1 2, .inl (cI, (3 * s1 0 0).toNatClampNeg, .inl (s1 2)))]) hD hS hA [1, 2, 3] rfl
    refine va_calli (va_runV (As := [.int 2]) (rest := [.ref h0]) ⟨hx, hb, hml, hown, hts⟩ (qm_Mem_leastOf l dC dI cI cC cB cM h1 d1 s1 2 _ q1 hq1) (q_CW hts qw_421 qw_371 qw_372 qw_3 qw_373 qh_Mem_leastOf rfl rfl ⟨by decide, by decide⟩) (q_preV [.int 2] 0 rfl rfl hK hPc hDc) rfl rfl hl.1 rfl (lv_room (Nat.le_of_ble_eq_true rfl)) qd_Col_trace_40 ⟨Nat.zero_le _, Nat.zero_le _⟩) hS (fun q _ h => hFc q h) hFc (fun r u t H1 locs ht hvm hw hB hz1 hk1 hS => ?_)
    have hw : q1 = r := Eq.symm hw
    subst hw
    obtain ⟨hP1, hD1⟩ := hB
    rw [ht] at hP1
    obtain ⟨hP, hD⟩ := va_join (wr := [(h0, .inr (1, [.int (s0 0 0), .int (s0 1 0), .int (s0 2 0), .int (s0 3 0)]))]) (w1 := [(h1, .inr (2, [.int (s1 0 0), .ref (d1 1), .ref (d1 2)])), (d1 1, .inl (cI, (s1 0 0).toNatClampNeg, .inl (s1 1))), (d1 2, .inl (cI, (3 * s1 0 0).toNatClampNeg, .inl (s1 2)))]) hP hD [1, 2, 3] [0] rfl rfl (by decide) (by decide) hk1 hFc hP1 hD1
    have hP := hP.sub (ws' := [(h0, .inr (1, [.int (s0 0 0), .int (s0 1 0), .int (s0 2 0), .int (s0 3 0)])), (h1, .inr (2, [.int (s1 0 0), .ref (d1 1), .ref (d1 2)])), (d1 1, .inl (cI, (s1 0 0).toNatClampNeg, .inl (s1 1))), (d1 2, .inl (cI, (3 * s1 0 0).toNatClampNeg, .inl (s1 2)))]) [0, 1, 2, 3] rfl
    have hD := hD.sub (ws' := [(h0, .inr (1, [.int (s0 0 0), .int (s0 1 0), .int (s0 2 0), .int (s0 3 0)])), (h1, .inr (2, [.int (s1 0 0), .ref (d1 1), .ref (d1 2)])), (d1 1, .inl (cI, (s1 0 0).toNatClampNeg, .inl (s1 1))), (d1 2, .inl (cI, (3 * s1 0 0).toNatClampNeg, .inl (s1 2)))]) [0, 1, 2, 3] (by decide) rfl
    refine va_put (D := (dC, dI)) (ci := 1) (v := .int q1) (ty := .int) (C := "QuietSweep$Collector") (T := qT_Col) (N := 4) hx hb hts qi_Col qt_Col qo_Col qn_Col hown hK.1 hP hD hS 0 rfl rfl 2 (by decide) (hts _ qw_165) (fun _ h9 => h9) rfl (qo_Col 2 (by decide)) rfl rfl (Nat.le_of_ble_eq_true rfl) qd_Col_trace_43 (fun H locs hP hD hS => ?_)
    have hP : va_P (dC, dI) qCl [(h0, .inr (1, [.int (s0 0 0), .int (s0 1 0), .int q1, .int (s0 3 0)])), (h1, .inr (2, [.int (s1 0 0), .ref (d1 1), .ref (d1 2)])), (d1 1, .inl (cI, (s1 0 0).toNatClampNeg, .inl (s1 1))), (d1 2, .inl (cI, (3 * s1 0 0).toNatClampNeg, .inl (s1 2)))] _ := hP
    have hD : va_D A [(h0, .inr (1, [.int (s0 0 0), .int (s0 1 0), .int q1, .int (s0 3 0)])), (h1, .inr (2, [.int (s1 0 0), .ref (d1 1), .ref (d1 2)])), (d1 1, .inl (cI, (s1 0 0).toNatClampNeg, .inl (s1 1))), (d1 2, .inl (cI, (3 * s1 0 0).toNatClampNeg, .inl (s1 2)))] := hD
    refine lv_aload_n hx hb qd_Col_trace_46 rfl (lv_at hl 0 rfl) ?_
    refine va_get (D := (dC, dI)) (ci := 1) (v := .int q1) (C := "QuietSweep$Collector") (T := qT_Col) (N := 4) hx hb hts qi_Col hown hK.1 hP 0 rfl rfl 2 (by decide) (hts _ qw_165) (fun _ h9 => h9) rfl qd_Col_trace_47 ?_
    refine lv_iconst (v := (-1)) hx hb qd_Col_trace_50 rfl ?_
    refine lv_icmp_eq hx hb qd_Col_trace_51 (tgt := 68) (by decide) (fun hc => ?_) (fun hc => ?_)
    · have h := qq_t hc h
      refine lv_aload_n hx hb qd_Col_trace_68 rfl (lv_at hl 0 rfl) ?_
      refine lv_iconst (v := 5) hx hb qd_Col_trace_69 rfl ?_
      refine va_put (D := (dC, dI)) (ci := 1) (v := .int 5) (ty := .int) (C := "QuietSweep$Collector") (T := qT_Col) (N := 4) hx hb hts qi_Col qt_Col qo_Col qn_Col hown hK.1 hP hD hS 0 rfl rfl 0 (by decide) (hts _ qw_161) (fun _ h9 => h9) rfl (qo_Col 0 (by decide)) rfl rfl (Nat.le_of_ble_eq_true rfl) qd_Col_trace_70 (fun H locs hP hD hS => ?_)
      have hP : va_P (dC, dI) qCl [(h0, .inr (1, [.int 5, .int (s0 1 0), .int q1, .int (s0 3 0)])), (h1, .inr (2, [.int (s1 0 0), .ref (d1 1), .ref (d1 2)])), (d1 1, .inl (cI, (s1 0 0).toNatClampNeg, .inl (s1 1))), (d1 2, .inl (cI, (3 * s1 0 0).toNatClampNeg, .inl (s1 2)))] _ := hP
      have hD : va_D A [(h0, .inr (1, [.int 5, .int (s0 1 0), .int q1, .int (s0 3 0)])), (h1, .inr (2, [.int (s1 0 0), .ref (d1 1), .ref (d1 2)])), (d1 1, .inl (cI, (s1 0 0).toNatClampNeg, .inl (s1 1))), (d1 2, .inl (cI, (3 * s1 0 0).toNatClampNeg, .inl (s1 2)))] := hD
      refine lv_aload_n hx hb qd_Col_trace_73 rfl (lv_at hl 0 rfl) ?_
      refine lv_iconst (v := 0) hx hb qd_Col_trace_74 rfl ?_
      refine va_put (D := (dC, dI)) (ci := 1) (v := .int 0) (ty := .int) (C := "QuietSweep$Collector") (T := qT_Col) (N := 4) hx hb hts qi_Col qt_Col qo_Col qn_Col hown hK.1 hP hD hS 0 rfl rfl 3 (by decide) (hts _ qw_166) (fun _ h9 => h9) rfl (qo_Col 3 (by decide)) rfl rfl (Nat.le_of_ble_eq_true rfl) qd_Col_trace_75 (fun H locs hP hD hS => ?_)
      have hP : va_P (dC, dI) qCl [(h0, .inr (1, [.int 5, .int (s0 1 0), .int q1, .int 0])), (h1, .inr (2, [.int (s1 0 0), .ref (d1 1), .ref (d1 2)])), (d1 1, .inl (cI, (s1 0 0).toNatClampNeg, .inl (s1 1))), (d1 2, .inl (cI, (3 * s1 0 0).toNatClampNeg, .inl (s1 2)))] _ := hP
      have hD : va_D A [(h0, .inr (1, [.int 5, .int (s0 1 0), .int q1, .int 0])), (h1, .inr (2, [.int (s1 0 0), .ref (d1 1), .ref (d1 2)])), (d1 1, .inl (cI, (s1 0 0).toNatClampNeg, .inl (s1 1))), (d1 2, .inl (cI, (3 * s1 0 0).toNatClampNeg, .inl (s1 2)))] := hD
      obtain rfl := Option.some.inj h
      exact W.vret hx hb hr (fun t ht hW => ⟨⟨(), rfl, trivial, by rw [ht]; exact hP, hD⟩, hS.F ht⟩) hS.2.2 qd_Col_trace_78
    · have h := qq_f hc h
      refine lv_aload_n hx hb qd_Col_trace_54 rfl (lv_at hl 1 rfl) ?_
      refine lv_aload_n hx hb qd_Col_trace_55 rfl (lv_at hl 1 rfl) ?_
      refine lv_aload_n hx hb qd_Col_trace_56 rfl (lv_at hl 0 rfl) ?_
      refine va_get (D := (dC, dI)) (ci := 1) (v := .int q1) (C := "QuietSweep$Collector") (T := qT_Col) (N := 4) hx hb hts qi_Col hown hK.1 hP 0 rfl rfl 2 (by decide) (hts _ qw_165) (fun _ h9 => h9) rfl qd_Col_trace_57 ?_
      refine lv_iconst (v := 0) hx hb qd_Col_trace_60 rfl ?_
      obtain ⟨q2, hq2, h⟩ := qq_b h
      have hPc := hP.sub (ws' := [(h1, .inr (2, [.int (s1 0 0), .ref (d1 1), .ref (d1 2)])), (d1 1, .inl (cI, (s1 0 0).toNatClampNeg, .inl (s1 1))), (d1 2, .inl (cI, (3 * s1 0 0).toNatClampNeg, .inl (s1 2)))]) [1, 2, 3] rfl
      have hDc := hD.sub (ws' := [(h1, .inr (2, [.int (s1 0 0), .ref (d1 1), .ref (d1 2)])), (d1 1, .inl (cI, (s1 0 0).toNatClampNeg, .inl (s1 1))), (d1 2, .inl (cI, (3 * s1 0 0).toNatClampNeg, .inl (s1 2)))]) [1, 2, 3] (by decide) rfl
      have hFc := va_free (wc := [(h1, .inr (2, [.int (s1 0 0), .ref (d1 1), .ref (d1 2)])), (d1 1, .inl (cI, (s1 0 0).toNatClampNeg, .inl (s1 1))), (d1 2, .inl (cI, (3 * s1 0 0).toNatClampNeg, .inl (s1 2)))]) hD hS hA [1, 2, 3] rfl
      refine va_calli (va_runV (As := [.int q1, .int 0]) (rest := [.ref h1]) ⟨hx, hb, hml, hown, hts⟩ (qm_Mem_read l dC dI cI cC cB cM h1 d1 s1 q1 0 _ q2 hq2) (q_CW hts qw_419 qw_345 qw_346 qw_3 qw_347 qh_Mem_read rfl rfl ⟨by decide, by decide⟩) (q_preV [.int q1, .int 0] 0 rfl rfl hK hPc hDc) rfl rfl hl.1 rfl (lv_room (Nat.le_of_ble_eq_true rfl)) qd_Col_trace_61 ⟨Nat.zero_le _, Nat.zero_le _⟩) hS (fun q _ h => hFc q h) hFc (fun r u t H1 locs ht hvm hw hB hz1 hk1 hS => ?_)
      have hw : q2 = r := Eq.symm hw
      subst hw
      obtain ⟨hP1, hD1⟩ := hB
      rw [ht] at hP1
      obtain ⟨hP, hD⟩ := va_join (wr := [(h0, .inr (1, [.int (s0 0 0), .int (s0 1 0), .int q1, .int (s0 3 0)]))]) (w1 := [(h1, .inr (2, [.int (s1 0 0), .ref (d1 1), .ref (d1 2)])), (d1 1, .inl (cI, (s1 0 0).toNatClampNeg, .inl (s1 1))), (d1 2, .inl (cI, (3 * s1 0 0).toNatClampNeg, .inl (s1 2)))]) hP hD [1, 2, 3] [0] rfl rfl (by decide) (by decide) hk1 hFc hP1 hD1
      have hP := hP.sub (ws' := [(h0, .inr (1, [.int (s0 0 0), .int (s0 1 0), .int q1, .int (s0 3 0)])), (h1, .inr (2, [.int (s1 0 0), .ref (d1 1), .ref (d1 2)])), (d1 1, .inl (cI, (s1 0 0).toNatClampNeg, .inl (s1 1))), (d1 2, .inl (cI, (3 * s1 0 0).toNatClampNeg, .inl (s1 2)))]) [0, 1, 2, 3] rfl
      have hD := hD.sub (ws' := [(h0, .inr (1, [.int (s0 0 0), .int (s0 1 0), .int q1, .int (s0 3 0)])), (h1, .inr (2, [.int (s1 0 0), .ref (d1 1), .ref (d1 2)])), (d1 1, .inl (cI, (s1 0 0).toNatClampNeg, .inl (s1 1))), (d1 2, .inl (cI, (3 * s1 0 0).toNatClampNeg, .inl (s1 2)))]) [0, 1, 2, 3] (by decide) rfl
      obtain ⟨q3, hq3, h⟩ := qq_b h
      have hPc := hP.sub (ws' := [(h1, .inr (2, [.int (s1 0 0), .ref (d1 1), .ref (d1 2)])), (d1 1, .inl (cI, (s1 0 0).toNatClampNeg, .inl (s1 1))), (d1 2, .inl (cI, (3 * s1 0 0).toNatClampNeg, .inl (s1 2)))]) [1, 2, 3] rfl
      have hDc := hD.sub (ws' := [(h1, .inr (2, [.int (s1 0 0), .ref (d1 1), .ref (d1 2)])), (d1 1, .inl (cI, (s1 0 0).toNatClampNeg, .inl (s1 1))), (d1 2, .inl (cI, (3 * s1 0 0).toNatClampNeg, .inl (s1 2)))]) [1, 2, 3] (by decide) rfl
      have hFc := va_free (wc := [(h1, .inr (2, [.int (s1 0 0), .ref (d1 1), .ref (d1 2)])), (d1 1, .inl (cI, (s1 0 0).toNatClampNeg, .inl (s1 1))), (d1 2, .inl (cI, (3 * s1 0 0).toNatClampNeg, .inl (s1 2)))]) hD hS hA [1, 2, 3] rfl
      refine va_callv (va_runV (As := [.int q2]) (rest := []) ⟨hx, hb, hml, hown, hts⟩ (qm_Mem_mark l dC dI cI cC cB cM h1 d1 s1 q2 _ q3 hq3) (q_CW hts qw_420 qw_383 qw_384 qw_3 qw_385 qh_Mem_mark rfl rfl ⟨by decide, by decide⟩) (q_preV [.int q2] 0 rfl rfl hK hPc hDc) rfl rfl hl.1 rfl (lv_room (Nat.le_of_ble_eq_true rfl)) qd_Col_trace_64 ⟨Nat.zero_le _, Nat.zero_le _⟩) hS (fun q _ h => hFc q h) hFc (fun u t H1 locs ht hvm hw hB hz1 hk1 hS => ?_)
      obtain ⟨hP1, hD1⟩ := hB
      rw [ht] at hP1
      obtain ⟨hP, hD⟩ := va_join (wr := [(h0, .inr (1, [.int (s0 0 0), .int (s0 1 0), .int q1, .int (s0 3 0)]))]) (w1 := [(h1, .inr (2, [.int (q3 0 0), .ref (d1 1), .ref (d1 2)])), (d1 1, .inl (cI, (q3 0 0).toNatClampNeg, .inl (q3 1))), (d1 2, .inl (cI, (3 * q3 0 0).toNatClampNeg, .inl (q3 2)))]) hP hD [1, 2, 3] [0] rfl rfl (by decide) (by decide) hk1 hFc hP1 hD1
      have hP := hP.sub (ws' := [(h0, .inr (1, [.int (s0 0 0), .int (s0 1 0), .int q1, .int (s0 3 0)])), (h1, .inr (2, [.int (q3 0 0), .ref (d1 1), .ref (d1 2)])), (d1 1, .inl (cI, (q3 0 0).toNatClampNeg, .inl (q3 1))), (d1 2, .inl (cI, (3 * q3 0 0).toNatClampNeg, .inl (q3 2)))]) [0, 1, 2, 3] rfl
      have hD := hD.sub (ws' := [(h0, .inr (1, [.int (s0 0 0), .int (s0 1 0), .int q1, .int (s0 3 0)])), (h1, .inr (2, [.int (q3 0 0), .ref (d1 1), .ref (d1 2)])), (d1 1, .inl (cI, (q3 0 0).toNatClampNeg, .inl (q3 1))), (d1 2, .inl (cI, (3 * q3 0 0).toNatClampNeg, .inl (q3 2)))]) [0, 1, 2, 3] (by decide) rfl
      obtain rfl := Option.some.inj h
      exact W.vret hx hb hr (fun t ht hW => ⟨⟨(), rfl, trivial, by rw [ht]; exact hP, hD⟩, hS.F ht⟩) hS.2.2 qd_Col_trace_67
  · have h := qq_f hc h
    refine lv_aload_n hx hb qd_Col_trace_8 rfl (lv_at hl 1 rfl) ?_
    refine lv_aload_n hx hb qd_Col_trace_9 rfl (lv_at hl 1 rfl) ?_
    refine lv_aload_n hx hb qd_Col_trace_10 rfl (lv_at hl 0 rfl) ?_
    refine va_get (D := (dC, dI)) (ci := 1) (v := .int (s0 2 0)) (C := "QuietSweep$Collector") (T := qT_Col) (N := 4) hx hb hts qi_Col hown hK.1 hP 0 rfl rfl 2 (by decide) (hts _ qw_165) (fun _ h9 => h9) rfl qd_Col_trace_11 ?_
    refine lv_iconst (v := 1) hx hb qd_Col_trace_14 rfl ?_
    obtain ⟨q4, hq4, h⟩ := qq_b h
    have hPc := hP.sub (ws' := [(h1, .inr (2, [.int (s1 0 0), .ref (d1 1), .ref (d1 2)])), (d1 1, .inl (cI, (s1 0 0).toNatClampNeg, .inl (s1 1))), (d1 2, .inl (cI, (3 * s1 0 0).toNatClampNeg, .inl (s1 2)))]) [1, 2, 3] rfl
    have hDc := hD.sub (ws' := [(h1, .inr (2, [.int (s1 0 0), .ref (d1 1), .ref (d1 2)])), (d1 1, .inl (cI, (s1 0 0).toNatClampNeg, .inl (s1 1))), (d1 2, .inl (cI, (3 * s1 0 0).toNatClampNeg, .inl (s1 2)))]) [1, 2, 3] (by decide) rfl
    have hFc := va_free (wc := [(h1, .inr (2, [.int (s1 0 0), .ref (d1 1), .ref (d1 2)])), (d1 1, .inl (cI, (s1 0 0).toNatClampNeg, .inl (s1 1))), (d1 2, .inl (cI, (3 * s1 0 0).toNatClampNeg, .inl (s1 2)))]) hD hS hA [1, 2, 3] rfl
    refine va_calli (va_runV (As := [.int (s0 2 0), .int 1]) (rest := [.ref h1]) ⟨hx, hb, hml, hown, hts⟩ (qm_Mem_read l dC dI cI cC cB cM h1 d1 s1 (s0 2 0) 1 _ q4 hq4) (q_CW hts qw_419 qw_345 qw_346 qw_3 qw_347 qh_Mem_read rfl rfl ⟨by decide, by decide⟩) (q_preV [.int (s0 2 0), .int 1] 0 rfl rfl hK hPc hDc) rfl rfl hl.1 rfl (lv_room (Nat.le_of_ble_eq_true rfl)) qd_Col_trace_15 ⟨Nat.zero_le _, Nat.zero_le _⟩) hS (fun q _ h => hFc q h) hFc (fun r u t H1 locs ht hvm hw hB hz1 hk1 hS => ?_)
    have hw : q4 = r := Eq.symm hw
    subst hw
    obtain ⟨hP1, hD1⟩ := hB
    rw [ht] at hP1
    obtain ⟨hP, hD⟩ := va_join (wr := [(h0, .inr (1, [.int (s0 0 0), .int (s0 1 0), .int (s0 2 0), .int (s0 3 0)]))]) (w1 := [(h1, .inr (2, [.int (s1 0 0), .ref (d1 1), .ref (d1 2)])), (d1 1, .inl (cI, (s1 0 0).toNatClampNeg, .inl (s1 1))), (d1 2, .inl (cI, (3 * s1 0 0).toNatClampNeg, .inl (s1 2)))]) hP hD [1, 2, 3] [0] rfl rfl (by decide) (by decide) hk1 hFc hP1 hD1
    have hP := hP.sub (ws' := [(h0, .inr (1, [.int (s0 0 0), .int (s0 1 0), .int (s0 2 0), .int (s0 3 0)])), (h1, .inr (2, [.int (s1 0 0), .ref (d1 1), .ref (d1 2)])), (d1 1, .inl (cI, (s1 0 0).toNatClampNeg, .inl (s1 1))), (d1 2, .inl (cI, (3 * s1 0 0).toNatClampNeg, .inl (s1 2)))]) [0, 1, 2, 3] rfl
    have hD := hD.sub (ws' := [(h0, .inr (1, [.int (s0 0 0), .int (s0 1 0), .int (s0 2 0), .int (s0 3 0)])), (h1, .inr (2, [.int (s1 0 0), .ref (d1 1), .ref (d1 2)])), (d1 1, .inl (cI, (s1 0 0).toNatClampNeg, .inl (s1 1))), (d1 2, .inl (cI, (3 * s1 0 0).toNatClampNeg, .inl (s1 2)))]) [0, 1, 2, 3] (by decide) rfl
    obtain ⟨q5, hq5, h⟩ := qq_b h
    have hPc := hP.sub (ws' := [(h1, .inr (2, [.int (s1 0 0), .ref (d1 1), .ref (d1 2)])), (d1 1, .inl (cI, (s1 0 0).toNatClampNeg, .inl (s1 1))), (d1 2, .inl (cI, (3 * s1 0 0).toNatClampNeg, .inl (s1 2)))]) [1, 2, 3] rfl
    have hDc := hD.sub (ws' := [(h1, .inr (2, [.int (s1 0 0), .ref (d1 1), .ref (d1 2)])), (d1 1, .inl (cI, (s1 0 0).toNatClampNeg, .inl (s1 1))), (d1 2, .inl (cI, (3 * s1 0 0).toNatClampNeg, .inl (s1 2)))]) [1, 2, 3] (by decide) rfl
    have hFc := va_free (wc := [(h1, .inr (2, [.int (s1 0 0), .ref (d1 1), .ref (d1 2)])), (d1 1, .inl (cI, (s1 0 0).toNatClampNeg, .inl (s1 1))), (d1 2, .inl (cI, (3 * s1 0 0).toNatClampNeg, .inl (s1 2)))]) hD hS hA [1, 2, 3] rfl
    refine va_callv (va_runV (As := [.int q4]) (rest := []) ⟨hx, hb, hml, hown, hts⟩ (qm_Mem_mark l dC dI cI cC cB cM h1 d1 s1 q4 _ q5 hq5) (q_CW hts qw_420 qw_383 qw_384 qw_3 qw_385 qh_Mem_mark rfl rfl ⟨by decide, by decide⟩) (q_preV [.int q4] 0 rfl rfl hK hPc hDc) rfl rfl hl.1 rfl (lv_room (Nat.le_of_ble_eq_true rfl)) qd_Col_trace_18 ⟨Nat.zero_le _, Nat.zero_le _⟩) hS (fun q _ h => hFc q h) hFc (fun u t H1 locs ht hvm hw hB hz1 hk1 hS => ?_)
    obtain ⟨hP1, hD1⟩ := hB
    rw [ht] at hP1
    obtain ⟨hP, hD⟩ := va_join (wr := [(h0, .inr (1, [.int (s0 0 0), .int (s0 1 0), .int (s0 2 0), .int (s0 3 0)]))]) (w1 := [(h1, .inr (2, [.int (q5 0 0), .ref (d1 1), .ref (d1 2)])), (d1 1, .inl (cI, (q5 0 0).toNatClampNeg, .inl (q5 1))), (d1 2, .inl (cI, (3 * q5 0 0).toNatClampNeg, .inl (q5 2)))]) hP hD [1, 2, 3] [0] rfl rfl (by decide) (by decide) hk1 hFc hP1 hD1
    have hP := hP.sub (ws' := [(h0, .inr (1, [.int (s0 0 0), .int (s0 1 0), .int (s0 2 0), .int (s0 3 0)])), (h1, .inr (2, [.int (q5 0 0), .ref (d1 1), .ref (d1 2)])), (d1 1, .inl (cI, (q5 0 0).toNatClampNeg, .inl (q5 1))), (d1 2, .inl (cI, (3 * q5 0 0).toNatClampNeg, .inl (q5 2)))]) [0, 1, 2, 3] rfl
    have hD := hD.sub (ws' := [(h0, .inr (1, [.int (s0 0 0), .int (s0 1 0), .int (s0 2 0), .int (s0 3 0)])), (h1, .inr (2, [.int (q5 0 0), .ref (d1 1), .ref (d1 2)])), (d1 1, .inl (cI, (q5 0 0).toNatClampNeg, .inl (q5 1))), (d1 2, .inl (cI, (3 * q5 0 0).toNatClampNeg, .inl (q5 2)))]) [0, 1, 2, 3] (by decide) rfl
    refine lv_aload_n hx hb qd_Col_trace_21 rfl (lv_at hl 1 rfl) ?_
    refine va_getN (D := (dC, dI)) (ci := 2) (v := .ref (d1 1)) (C := "QuietSweep$Memory") (T := qT_Mem) (N := 3) hx hb hts qi_Mem hown hK.1 hP 1 rfl rfl 1 (by decide) (qNs_use hK.2 qu_70) (fun _ h9 => h9) rfl qd_Col_trace_22 ?_
    refine lv_aload_n hx hb qd_Col_trace_25 rfl (lv_at hl 0 rfl) ?_
    refine va_get (D := (dC, dI)) (ci := 1) (v := .int (s0 2 0)) (C := "QuietSweep$Collector") (T := qT_Col) (N := 4) hx hb hts qi_Col hown hK.1 hP 0 rfl rfl 2 (by decide) (hts _ qw_165) (fun _ h9 => h9) rfl qd_Col_trace_26 ?_
    refine lv_iconst (v := 3) hx hb qd_Col_trace_29 rfl ?_
    obtain ⟨hb6, h⟩ := qq_n h
    refine va_iast hx hb hK.1 hP hD hS 2 0 rfl rfl hb6 qd_Col_trace_30 (fun H locs hP hD hS => ?_)
    have hP : va_P (dC, dI) qCl [(h0, .inr (1, [.int (s0 0 0), .int (s0 1 0), .int (s0 2 0), .int (s0 3 0)])), (h1, .inr (2, [.int (q5 0 0), .ref (d1 1), .ref (d1 2)])), (d1 1, .inl (cI, (q5 0 0).toNatClampNeg, .inl (upd (q5 1) (Int32.toNatClampNeg (s0 2 0)) 3))), (d1 2, .inl (cI, (3 * q5 0 0).toNatClampNeg, .inl (q5 2)))] _ := hP
    have hD : va_D A [(h0, .inr (1, [.int (s0 0 0), .int (s0 1 0), .int (s0 2 0), .int (s0 3 0)])), (h1, .inr (2, [.int (q5 0 0), .ref (d1 1), .ref (d1 2)])), (d1 1, .inl (cI, (q5 0 0).toNatClampNeg, .inl (upd (q5 1) (Int32.toNatClampNeg (s0 2 0)) 3))), (d1 2, .inl (cI, (3 * q5 0 0).toNatClampNeg, .inl (q5 2)))] := hD
    refine lv_aload_n hx hb qd_Col_trace_31 rfl (lv_at hl 0 rfl) ?_
    refine lv_iconst (v := (-1)) hx hb qd_Col_trace_32 rfl ?_
    refine va_put (D := (dC, dI)) (ci := 1) (v := .int (-1)) (ty := .int) (C := "QuietSweep$Collector") (T := qT_Col) (N := 4) hx hb hts qi_Col qt_Col qo_Col qn_Col hown hK.1 hP hD hS 0 rfl rfl 2 (by decide) (hts _ qw_165) (fun _ h9 => h9) rfl (qo_Col 2 (by decide)) rfl rfl (Nat.le_of_ble_eq_true rfl) qd_Col_trace_33 (fun H locs hP hD hS => ?_)
    have hP : va_P (dC, dI) qCl [(h0, .inr (1, [.int (s0 0 0), .int (s0 1 0), .int (-1), .int (s0 3 0)])), (h1, .inr (2, [.int (q5 0 0), .ref (d1 1), .ref (d1 2)])), (d1 1, .inl (cI, (q5 0 0).toNatClampNeg, .inl (upd (q5 1) (Int32.toNatClampNeg (s0 2 0)) 3))), (d1 2, .inl (cI, (3 * q5 0 0).toNatClampNeg, .inl (q5 2)))] _ := hP
    have hD : va_D A [(h0, .inr (1, [.int (s0 0 0), .int (s0 1 0), .int (-1), .int (s0 3 0)])), (h1, .inr (2, [.int (q5 0 0), .ref (d1 1), .ref (d1 2)])), (d1 1, .inl (cI, (q5 0 0).toNatClampNeg, .inl (upd (q5 1) (Int32.toNatClampNeg (s0 2 0)) 3))), (d1 2, .inl (cI, (3 * q5 0 0).toNatClampNeg, .inl (q5 2)))] := hD
    obtain rfl := Option.some.inj h
    exact W.vret hx hb hr (fun t ht hW => ⟨⟨(), rfl, trivial, by rw [ht]; exact hP, hD⟩, hS.F ht⟩) hS.2.2 qd_Col_trace_36
/-! QuietSweep$Collector.sweep(LQuietSweep$Memory;)V -/
def qf_Col_sweep_j23  (s0 : QS) (s1 : QS) : Option (QS × QS) := (if ((s0 3 0) + 1) < (s1 0 0) then (some ((qp s0 3 (fun _ => ((s0 3 0) + 1))), s1)) else (some ((qp (qp s0 0 (fun _ => 6)) 3 (fun _ => ((s0 3 0) + 1))), s1)))
def qf_Col_sweep  (s0 : QS) (s1 : QS) : Option (QS × QS) := (if ((s0 3 0) < 0 ∨ (s1 0 0).toNatClampNeg ≤ Int32.toNatClampNeg (s0 3 0)) then none else (if ((s1 1) (Int32.toNatClampNeg (s0 3 0))) = 1 then (if ((s0 3 0) < 0 ∨ (s1 0 0).toNatClampNeg ≤ Int32.toNatClampNeg (s0 3 0)) then none else (qf_Col_sweep_j23 s0 (qp s1 1 (upd (s1 1) (Int32.toNatClampNeg (s0 3 0)) 0)))) else (qf_Col_sweep_j23 s0 s1)))
set_option maxHeartbeats 4000000 in
set_option maxRecDepth 100000 in
theorem qm_Col_sweep (l : Launch) (dC : Nat → ClassId) (dI : Nat → Nat → Nat) (cI cC cB cM : ClassId) (h0 : Nat) (h1 : Nat) (d0 : Nat → Nat) (d1 : Nat → Nat) (s0 : QS) (s1 : QS)  (sz : Nat) (o : QS × QS) (h : qf_Col_sweep s0 s1 = some o) : Met l qy_Col_sweep (ql_Col_sweep :: qG) ({ frames := 0, cells := 0, slots := 0, locals := 0 } : Room) (qPc dC dI cI cC cB cM [.ref h0, .ref h1] sz [(h0, .inr (1, [.int (s0 0 0), .int (s0 1 0), .int (s0 2 0), .int (s0 3 0)])), (h1, .inr (2, [.int (s1 0 0), .ref (d1 1), .ref (d1 2)])), (d1 1, .inl (cI, (s1 0 0).toNatClampNeg, .inl (s1 1))), (d1 2, .inl (cI, (3 * s1 0 0).toNatClampNeg, .inl (s1 2)))]) (va_Qv (fun _ : Unit => True) (fun _ t => va_P (dC, dI) qCl [(h0, .inr (1, [.int (o.1 0 0), .int (o.1 1 0), .int (o.1 2 0), .int (o.1 3 0)])), (h1, .inr (2, [.int (o.2 0 0), .ref (d1 1), .ref (d1 2)])), (d1 1, .inl (cI, (o.2 0 0).toNatClampNeg, .inl (o.2 1))), (d1 2, .inl (cI, (3 * o.2 0 0).toNatClampNeg, .inl (o.2 2)))] t.heap ∧ va_D (va_A [(h0, .inr (1, [.int (s0 0 0), .int (s0 1 0), .int (s0 2 0), .int (s0 3 0)])), (h1, .inr (2, [.int (s1 0 0), .ref (d1 1), .ref (d1 2)])), (d1 1, .inl (cI, (s1 0 0).toNatClampNeg, .inl (s1 1))), (d1 2, .inl (cI, (3 * s1 0 0).toNatClampNeg, .inl (s1 2)))] sz) [(h0, .inr (1, [.int (o.1 0 0), .int (o.1 1 0), .int (o.1 2 0), .int (o.1 3 0)])), (h1, .inr (2, [.int (o.2 0 0), .ref (d1 1), .ref (d1 2)])), (d1 1, .inl (cI, (o.2 0 0).toNatClampNeg, .inl (o.2 1))), (d1 2, .inl (cI, (3 * o.2 0 0).toNatClampNeg, .inl (o.2 2)))]) (va_A [(h0, .inr (1, [.int (s0 0 0), .int (s0 1 0), .int (s0 2 0), .int (s0 3 0)])), (h1, .inr (2, [.int (s1 0 0), .ref (d1 1), .ref (d1 2)])), (d1 1, .inl (cI, (s1 0 0).toNatClampNeg, .inl (s1 1))), (d1 2, .inl (cI, (3 * s1 0 0).toNatClampNeg, .inl (s1 2)))] sz)) 0 0 (va_A [(h0, .inr (1, [.int (s0 0 0), .int (s0 1 0), .int (s0 2 0), .int (s0 3 0)])), (h1, .inr (2, [.int (s1 0 0), .ref (d1 1), .ref (d1 2)])), (d1 1, .inl (cI, (s1 0 0).toNatClampNeg, .inl (s1 1))), (d1 2, .inl (cI, (3 * s1 0 0).toNatClampNeg, .inl (s1 2)))] sz) := by
  refine Met.ofW (cc := qc_Col_sweep) (maxL := 2) (ret := none) (by decide) rfl ?_
  intro p e s m args below meth c s₁ B hml hv
  obtain ⟨rfl, hsz, hP, hK, hD0⟩ := hv
  have hx := B.exec
  have hb := B.bytes
  have hr := B.returns
  have hts0 := atoms_spec (ws := ql_Col_sweep :: qG) B.pre
  have hts := fun (w : Cond) (hw : w ∈ qG) => hts0 w (List.mem_cons_of_mem _ hw)
  have hown : s.vm.findClass "QuietSweep$Collector" = some m.cls := findClass_of_methodNamed B.named
  have hlocks := B.notSynchronized
  subst hsz
  have hD := hD0.self (sz := s.heap.size)
  generalize hAe : va_A [(h0, .inr (1, [.int (s0 0 0), .int (s0 1 0), .int (s0 2 0), .int (s0 3 0)])), (h1, .inr (2, [.int (s1 0 0), .ref (d1 1), .ref (d1 2)])), (d1 1, .inl (cI, (s1 0 0).toNatClampNeg, .inl (s1 1))), (d1 2, .inl (cI, (3 * s1 0 0).toNatClampNeg, .inl (s1 2)))] s.heap.size = A at hD ⊢
  have hA : ∀ q : Nat, s.heap.size ≤ q → A q := fun q h => by rw [← hAe]; exact Or.inr h
  have hS : va_S A s.heap s.heap [] := va_S.rf
  have hl := lv_entry ([.ref h0, .ref h1]) (n := 2) (Nat.le_of_ble_eq_true rfl)
  rw [lg_entry_eq]
  generalize (lg_sl ([.ref h0, .ref h1]) ++ List.replicate (2 - (lg_sl ([.ref h0, .ref h1])).length) Slot.unset).toArray = ls at hl ⊢
  have hl : lv_has ls 2 [(0, .ref h0), (1, .ref h1)] := hl
  have j23 : ∀  (s0 : QS) (s1 : QS) (H : Heap) (locs : List Loc) (ls : Array Slot), lv_has ls 2 [(0, .ref h0), (1, .ref h1)] → va_P (dC, dI) qCl [(h0, .inr (1, [.int (s0 0 0), .int (s0 1 0), .int (s0 2 0), .int (s0 3 0)])), (h1, .inr (2, [.int (s1 0 0), .ref (d1 1), .ref (d1 2)])), (d1 1, .inl (cI, (s1 0 0).toNatClampNeg, .inl (s1 1))), (d1 2, .inl (cI, (3 * s1 0 0).toNatClampNeg, .inl (s1 2)))] H → va_D A [(h0, .inr (1, [.int (s0 0 0), .int (s0 1 0), .int (s0 2 0), .int (s0 3 0)])), (h1, .inr (2, [.int (s1 0 0), .ref (d1 1), .ref (d1 2)])), (d1 1, .inl (cI, (s1 0 0).toNatClampNeg, .inl (s1 1))), (d1 2, .inl (cI, (3 * s1 0 0).toNatClampNeg, .inl (s1 2)))] → va_S A s.heap H locs → qf_Col_sweep_j23 s0 s1 = some o → W p l e (headSpec (ql_Col_sweep :: qG) ({ frames := 0, cells := 0, slots := 0, locals := 0 } : Room)).room s m ([.ref h0, .ref h1] : List Value).toArray below meth c H locs 0 0 (MQ below (va_Qv (fun _ : Unit => True) (fun _ t => va_P (dC, dI) qCl [(h0, .inr (1, [.int (o.1 0 0), .int (o.1 1 0), .int (o.1 2 0), .int (o.1 3 0)])), (h1, .inr (2, [.int (o.2 0 0), .ref (d1 1), .ref (d1 2)])), (d1 1, .inl (cI, (o.2 0 0).toNatClampNeg, .inl (o.2 1))), (d1 2, .inl (cI, (3 * o.2 0 0).toNatClampNeg, .inl (o.2 2)))] t.heap ∧ va_D A [(h0, .inr (1, [.int (o.1 0 0), .int (o.1 1 0), .int (o.1 2 0), .int (o.1 3 0)])), (h1, .inr (2, [.int (o.2 0 0), .ref (d1 1), .ref (d1 2)])), (d1 1, .inl (cI, (o.2 0 0).toNatClampNeg, .inl (o.2 1))), (d1 2, .inl (cI, (3 * o.2 0 0).toNatClampNeg, .inl (o.2 2)))]) A) ([.ref h0, .ref h1] : List Value).toArray s 0 0 A) (F0 m 23 ls []) := by
    intro s0 s1 H locs ls hl hP hD hS h
    unfold qf_Col_sweep_j23 at h
    refine lv_aload_n hx hb qd_Col_sweep_23 rfl (lv_at hl 0 rfl) ?_
    refine lv_dup hx hb qd_Col_sweep_24 rfl ?_
    refine va_get (D := (dC, dI)) (ci := 1) (v := .int (s0 3 0)) (C := "QuietSweep$Collector") (T := qT_Col) (N := 4) hx hb hts qi_Col hown hK.1 hP 0 rfl rfl 3 (by decide) (hts _ qw_166) (fun _ h9 => h9) rfl qd_Col_sweep_25 ?_
    refine lv_iconst (v := 1) hx hb qd_Col_sweep_28 rfl ?_
    refine lv_iadd hx hb qd_Col_sweep_29 ?_
    refine va_put (D := (dC, dI)) (ci := 1) (v := .int ((s0 3 0) + 1)) (ty := .int) (C := "QuietSweep$Collector") (T := qT_Col) (N := 4) hx hb hts qi_Col qt_Col qo_Col qn_Col hown hK.1 hP hD hS 0 rfl rfl 3 (by decide) (hts _ qw_166) (fun _ h9 => h9) rfl (qo_Col 3 (by decide)) rfl rfl (Nat.le_of_ble_eq_true rfl) qd_Col_sweep_30 (fun H locs hP hD hS => ?_)
    have hP : va_P (dC, dI) qCl [(h0, .inr (1, [.int (s0 0 0), .int (s0 1 0), .int (s0 2 0), .int ((s0 3 0) + 1)])), (h1, .inr (2, [.int (s1 0 0), .ref (d1 1), .ref (d1 2)])), (d1 1, .inl (cI, (s1 0 0).toNatClampNeg, .inl (s1 1))), (d1 2, .inl (cI, (3 * s1 0 0).toNatClampNeg, .inl (s1 2)))] _ := hP
    have hD : va_D A [(h0, .inr (1, [.int (s0 0 0), .int (s0 1 0), .int (s0 2 0), .int ((s0 3 0) + 1)])), (h1, .inr (2, [.int (s1 0 0), .ref (d1 1), .ref (d1 2)])), (d1 1, .inl (cI, (s1 0 0).toNatClampNeg, .inl (s1 1))), (d1 2, .inl (cI, (3 * s1 0 0).toNatClampNeg, .inl (s1 2)))] := hD
    refine lv_aload_n hx hb qd_Col_sweep_33 rfl (lv_at hl 0 rfl) ?_
    refine va_get (D := (dC, dI)) (ci := 1) (v := .int ((s0 3 0) + 1)) (C := "QuietSweep$Collector") (T := qT_Col) (N := 4) hx hb hts qi_Col hown hK.1 hP 0 rfl rfl 3 (by decide) (hts _ qw_166) (fun _ h9 => h9) rfl qd_Col_sweep_34 ?_
    refine lv_aload_n hx hb qd_Col_sweep_37 rfl (lv_at hl 1 rfl) ?_
    refine va_getN (D := (dC, dI)) (ci := 2) (v := .int (s1 0 0)) (C := "QuietSweep$Memory") (T := qT_Mem) (N := 3) hx hb hts qi_Mem hown hK.1 hP 1 rfl rfl 0 (by decide) (qNs_use hK.2 qu_68) (fun _ h9 => h9) rfl qd_Col_sweep_38 ?_
    refine lv_icmp_lt hx hb qd_Col_sweep_41 (tgt := 50) (by decide) (fun hc => ?_) (fun hc => ?_)
    · have h := qq_t hc h
      obtain rfl := Option.some.inj h
      exact W.vret hx hb hr (fun t ht hW => ⟨⟨(), rfl, trivial, by rw [ht]; exact hP, hD⟩, hS.F ht⟩) hS.2.2 qd_Col_sweep_50
    · have h := qq_f hc h
      refine lv_aload_n hx hb qd_Col_sweep_44 rfl (lv_at hl 0 rfl) ?_
      refine lv_bipush (v := 6) hx hb qd_Col_sweep_45 (by decide) ?_
      refine va_put (D := (dC, dI)) (ci := 1) (v := .int 6) (ty := .int) (C := "QuietSweep$Collector") (T := qT_Col) (N := 4) hx hb hts qi_Col qt_Col qo_Col qn_Col hown hK.1 hP hD hS 0 rfl rfl 0 (by decide) (hts _ qw_161) (fun _ h9 => h9) rfl (qo_Col 0 (by decide)) rfl rfl (Nat.le_of_ble_eq_true rfl) qd_Col_sweep_47 (fun H locs hP hD hS => ?_)
      have hP : va_P (dC, dI) qCl [(h0, .inr (1, [.int 6, .int (s0 1 0), .int (s0 2 0), .int ((s0 3 0) + 1)])), (h1, .inr (2, [.int (s1 0 0), .ref (d1 1), .ref (d1 2)])), (d1 1, .inl (cI, (s1 0 0).toNatClampNeg, .inl (s1 1))), (d1 2, .inl (cI, (3 * s1 0 0).toNatClampNeg, .inl (s1 2)))] _ := hP
      have hD : va_D A [(h0, .inr (1, [.int 6, .int (s0 1 0), .int (s0 2 0), .int ((s0 3 0) + 1)])), (h1, .inr (2, [.int (s1 0 0), .ref (d1 1), .ref (d1 2)])), (d1 1, .inl (cI, (s1 0 0).toNatClampNeg, .inl (s1 1))), (d1 2, .inl (cI, (3 * s1 0 0).toNatClampNeg, .inl (s1 2)))] := hD
      obtain rfl := Option.some.inj h
      exact W.vret hx hb hr (fun t ht hW => ⟨⟨(), rfl, trivial, by rw [ht]; exact hP, hD⟩, hS.F ht⟩) hS.2.2 qd_Col_sweep_50
  unfold qf_Col_sweep at h
  refine lv_aload_n hx hb qd_Col_sweep_0 rfl (lv_at hl 1 rfl) ?_
  refine va_getN (D := (dC, dI)) (ci := 2) (v := .ref (d1 1)) (C := "QuietSweep$Memory") (T := qT_Mem) (N := 3) hx hb hts qi_Mem hown hK.1 hP 1 rfl rfl 1 (by decide) (qNs_use hK.2 qu_70) (fun _ h9 => h9) rfl qd_Col_sweep_1 ?_
  refine lv_aload_n hx hb qd_Col_sweep_4 rfl (lv_at hl 0 rfl) ?_
  refine va_get (D := (dC, dI)) (ci := 1) (v := .int (s0 3 0)) (C := "QuietSweep$Collector") (T := qT_Col) (N := 4) hx hb hts qi_Col hown hK.1 hP 0 rfl rfl 3 (by decide) (hts _ qw_166) (fun _ h9 => h9) rfl qd_Col_sweep_5 ?_
  obtain ⟨hb1, h⟩ := qq_n h
  refine va_iald hx hb hK.1 hP 2 0 rfl rfl hb1 qd_Col_sweep_8 ?_
  refine lv_iconst (v := 1) hx hb qd_Col_sweep_9 rfl ?_
  refine lv_icmp_ne hx hb qd_Col_sweep_10 (tgt := 23) (by decide) (fun hc => ?_) (fun hc => ?_)
  · have h := qq_f hc h
    exact j23 s0 s1 _ _ _ (lv_sub (l' := [(0, .ref h0), (1, .ref h1)]) hl [0, 1] rfl) hP hD hS h
  · have h := qq_t hc h
    refine lv_aload_n hx hb qd_Col_sweep_13 rfl (lv_at hl 1 rfl) ?_
    refine va_getN (D := (dC, dI)) (ci := 2) (v := .ref (d1 1)) (C := "QuietSweep$Memory") (T := qT_Mem) (N := 3) hx hb hts qi_Mem hown hK.1 hP 1 rfl rfl 1 (by decide) (qNs_use hK.2 qu_70) (fun _ h9 => h9) rfl qd_Col_sweep_14 ?_
    refine lv_aload_n hx hb qd_Col_sweep_17 rfl (lv_at hl 0 rfl) ?_
    refine va_get (D := (dC, dI)) (ci := 1) (v := .int (s0 3 0)) (C := "QuietSweep$Collector") (T := qT_Col) (N := 4) hx hb hts qi_Col hown hK.1 hP 0 rfl rfl 3 (by decide) (hts _ qw_166) (fun _ h9 => h9) rfl qd_Col_sweep_18 ?_
    refine lv_iconst (v := 0) hx hb qd_Col_sweep_21 rfl ?_
    obtain ⟨hb2, h⟩ := qq_n h
    refine va_iast hx hb hK.1 hP hD hS 2 0 rfl rfl hb2 qd_Col_sweep_22 (fun H locs hP hD hS => ?_)
    have hP : va_P (dC, dI) qCl [(h0, .inr (1, [.int (s0 0 0), .int (s0 1 0), .int (s0 2 0), .int (s0 3 0)])), (h1, .inr (2, [.int (s1 0 0), .ref (d1 1), .ref (d1 2)])), (d1 1, .inl (cI, (s1 0 0).toNatClampNeg, .inl (upd (s1 1) (Int32.toNatClampNeg (s0 3 0)) 0))), (d1 2, .inl (cI, (3 * s1 0 0).toNatClampNeg, .inl (s1 2)))] _ := hP
    have hD : va_D A [(h0, .inr (1, [.int (s0 0 0), .int (s0 1 0), .int (s0 2 0), .int (s0 3 0)])), (h1, .inr (2, [.int (s1 0 0), .ref (d1 1), .ref (d1 2)])), (d1 1, .inl (cI, (s1 0 0).toNatClampNeg, .inl (upd (s1 1) (Int32.toNatClampNeg (s0 3 0)) 0))), (d1 2, .inl (cI, (3 * s1 0 0).toNatClampNeg, .inl (s1 2)))] := hD
    exact j23 s0 (qp s1 1 (upd (s1 1) (Int32.toNatClampNeg (s0 3 0)) 0)) _ _ _ (lv_sub (l' := [(0, .ref h0), (1, .ref h1)]) hl [0, 1] rfl) hP hD hS h
/-! QuietSweep$Collector.doStep(LQuietSweep$Memory;[LQuietSweep$Mutator;)Z -/
def qf_Col_doStep  (s0 : QS) (s1 : QS) (s3 : QS) (s4 : QS) : Option (Int32 × QS × QS) := (if (s0 0 0) = 0 then ((qf_Mem_whitenUsed s1).bind fun q2 => (some (1, (qp s0 0 (fun _ => 1)), q2))) else (if (s0 0 0) = 4 then ((qf_Col_trace s0 s1).bind fun q4 => (some (1, q4.1, q4.2))) else (if (s0 0 0) = 5 then ((qf_Col_sweep s0 s1).bind fun q6 => (some (1, q6.1, q6.2))) else ((qf_Col_passIfAnswered s0 s3 s4).bind fun q7 => (if vp_nar .boolean q7.1 = q7.1 then (some (q7.1, q7.2, s1)) else none)))))
set_option maxHeartbeats 4000000 in
set_option maxRecDepth 100000 in
theorem qm_Col_doStep (l : Launch) (dC : Nat → ClassId) (dI : Nat → Nat → Nat) (cI cC cB cM : ClassId) (h0 : Nat) (h1 : Nat) (h2 : Nat) (d0 : Nat → Nat) (d1 : Nat → Nat) (d2 : Nat → Nat) (d3 : Nat → Nat) (d4 : Nat → Nat) (s0 : QS) (s1 : QS) (s3 : QS) (s4 : QS)  (sz : Nat) (o : Int32 × QS × QS) (h : qf_Col_doStep s0 s1 s3 s4 = some o) : Met l qy_Col_doStep (ql_Col_doStep :: qG) ({ frames := 2, cells := 0, slots := 0, locals := 43 } : Room) (qPc dC dI cI cC cB cM [.ref h0, .ref h1, .ref h2] sz [(h0, .inr (1, [.int (s0 0 0), .int (s0 1 0), .int (s0 2 0), .int (s0 3 0)])), (h1, .inr (2, [.int (s1 0 0), .ref (d1 1), .ref (d1 2)])), (d1 1, .inl (cI, (s1 0 0).toNatClampNeg, .inl (s1 1))), (d1 2, .inl (cI, (3 * s1 0 0).toNatClampNeg, .inl (s1 2))), (h2, .inl (cM, 2, .inr (.inr (.inr (.inr (qmf (d2 100) (d2 101))))))), ((d2 100), .inr (3, [.ref (d3 0), .int (s3 1 0), .int (s3 2 0), .ref (d3 3), .ref (d3 4), .int (s3 5 0), .int (s3 6 0), .ref (d3 7), .ref (d3 8)])), (d3 0, .inl (cI, 60, .inl (s3 0))), (d3 3, .inl (cI, 4, .inl (s3 3))), (d3 4, .inl (cI, 3, .inl (s3 4))), ((d2 101), .inr (3, [.ref (d4 0), .int (s4 1 0), .int (s4 2 0), .ref (d4 3), .ref (d4 4), .int (s4 5 0), .int (s4 6 0), .ref (d4 7), .ref (d4 8)])), (d4 0, .inl (cI, 60, .inl (s4 0))), (d4 3, .inl (cI, 4, .inl (s4 3))), (d4 4, .inl (cI, 3, .inl (s4 4)))]) (va_Qi (fun r (_ : Unit) => r = o.1) (fun _ t => va_P (dC, dI) qCl [(h0, .inr (1, [.int (o.2.1 0 0), .int (o.2.1 1 0), .int (o.2.1 2 0), .int (o.2.1 3 0)])), (h1, .inr (2, [.int (o.2.2 0 0), .ref (d1 1), .ref (d1 2)])), (d1 1, .inl (cI, (o.2.2 0 0).toNatClampNeg, .inl (o.2.2 1))), (d1 2, .inl (cI, (3 * o.2.2 0 0).toNatClampNeg, .inl (o.2.2 2))), (h2, .inl (cM, 2, .inr (.inr (.inr (.inr (qmf (d2 100) (d2 101))))))), ((d2 100), .inr (3, [.ref (d3 0), .int (s3 1 0), .int (s3 2 0), .ref (d3 3), .ref (d3 4), .int (s3 5 0), .int (s3 6 0), .ref (d3 7), .ref (d3 8)])), (d3 0, .inl (cI, 60, .inl (s3 0))), (d3 3, .inl (cI, 4, .inl (s3 3))), (d3 4, .inl (cI, 3, .inl (s3 4))), ((d2 101), .inr (3, [.ref (d4 0), .int (s4 1 0), .int (s4 2 0), .ref (d4 3), .ref (d4 4), .int (s4 5 0), .int (s4 6 0), .ref (d4 7), .ref (d4 8)])), (d4 0, .inl (cI, 60, .inl (s4 0))), (d4 3, .inl (cI, 4, .inl (s4 3))), (d4 4, .inl (cI, 3, .inl (s4 4)))] t.heap ∧ va_D (va_A [(h0, .inr (1, [.int (s0 0 0), .int (s0 1 0), .int (s0 2 0), .int (s0 3 0)])), (h1, .inr (2, [.int (s1 0 0), .ref (d1 1), .ref (d1 2)])), (d1 1, .inl (cI, (s1 0 0).toNatClampNeg, .inl (s1 1))), (d1 2, .inl (cI, (3 * s1 0 0).toNatClampNeg, .inl (s1 2))), (h2, .inl (cM, 2, .inr (.inr (.inr (.inr (qmf (d2 100) (d2 101))))))), ((d2 100), .inr (3, [.ref (d3 0), .int (s3 1 0), .int (s3 2 0), .ref (d3 3), .ref (d3 4), .int (s3 5 0), .int (s3 6 0), .ref (d3 7), .ref (d3 8)])), (d3 0, .inl (cI, 60, .inl (s3 0))), (d3 3, .inl (cI, 4, .inl (s3 3))), (d3 4, .inl (cI, 3, .inl (s3 4))), ((d2 101), .inr (3, [.ref (d4 0), .int (s4 1 0), .int (s4 2 0), .ref (d4 3), .ref (d4 4), .int (s4 5 0), .int (s4 6 0), .ref (d4 7), .ref (d4 8)])), (d4 0, .inl (cI, 60, .inl (s4 0))), (d4 3, .inl (cI, 4, .inl (s4 3))), (d4 4, .inl (cI, 3, .inl (s4 4)))] sz) [(h0, .inr (1, [.int (o.2.1 0 0), .int (o.2.1 1 0), .int (o.2.1 2 0), .int (o.2.1 3 0)])), (h1, .inr (2, [.int (o.2.2 0 0), .ref (d1 1), .ref (d1 2)])), (d1 1, .inl (cI, (o.2.2 0 0).toNatClampNeg, .inl (o.2.2 1))), (d1 2, .inl (cI, (3 * o.2.2 0 0).toNatClampNeg, .inl (o.2.2 2))), (h2, .inl (cM, 2, .inr (.inr (.inr (.inr (qmf (d2 100) (d2 101))))))), ((d2 100), .inr (3, [.ref (d3 0), .int (s3 1 0), .int (s3 2 0), .ref (d3 3), .ref (d3 4), .int (s3 5 0), .int (s3 6 0), .ref (d3 7), .ref (d3 8)])), (d3 0, .inl (cI, 60, .inl (s3 0))), (d3 3, .inl (cI, 4, .inl (s3 3))), (d3 4, .inl (cI, 3, .inl (s3 4))), ((d2 101), .inr (3, [.ref (d4 0), .int (s4 1 0), .int (s4 2 0), .ref (d4 3), .ref (d4 4), .int (s4 5 0), .int (s4 6 0), .ref (d4 7), .ref (d4 8)])), (d4 0, .inl (cI, 60, .inl (s4 0))), (d4 3, .inl (cI, 4, .inl (s4 3))), (d4 4, .inl (cI, 3, .inl (s4 4)))]) (va_A [(h0, .inr (1, [.int (s0 0 0), .int (s0 1 0), .int (s0 2 0), .int (s0 3 0)])), (h1, .inr (2, [.int (s1 0 0), .ref (d1 1), .ref (d1 2)])), (d1 1, .inl (cI, (s1 0 0).toNatClampNeg, .inl (s1 1))), (d1 2, .inl (cI, (3 * s1 0 0).toNatClampNeg, .inl (s1 2))), (h2, .inl (cM, 2, .inr (.inr (.inr (.inr (qmf (d2 100) (d2 101))))))), ((d2 100), .inr (3, [.ref (d3 0), .int (s3 1 0), .int (s3 2 0), .ref (d3 3), .ref (d3 4), .int (s3 5 0), .int (s3 6 0), .ref (d3 7), .ref (d3 8)])), (d3 0, .inl (cI, 60, .inl (s3 0))), (d3 3, .inl (cI, 4, .inl (s3 3))), (d3 4, .inl (cI, 3, .inl (s3 4))), ((d2 101), .inr (3, [.ref (d4 0), .int (s4 1 0), .int (s4 2 0), .ref (d4 3), .ref (d4 4), .int (s4 5 0), .int (s4 6 0), .ref (d4 7), .ref (d4 8)])), (d4 0, .inl (cI, 60, .inl (s4 0))), (d4 3, .inl (cI, 4, .inl (s4 3))), (d4 4, .inl (cI, 3, .inl (s4 4)))] sz)) 0 0 (va_A [(h0, .inr (1, [.int (s0 0 0), .int (s0 1 0), .int (s0 2 0), .int (s0 3 0)])), (h1, .inr (2, [.int (s1 0 0), .ref (d1 1), .ref (d1 2)])), (d1 1, .inl (cI, (s1 0 0).toNatClampNeg, .inl (s1 1))), (d1 2, .inl (cI, (3 * s1 0 0).toNatClampNeg, .inl (s1 2))), (h2, .inl (cM, 2, .inr (.inr (.inr (.inr (qmf (d2 100) (d2 101))))))), ((d2 100), .inr (3, [.ref (d3 0), .int (s3 1 0), .int (s3 2 0), .ref (d3 3), .ref (d3 4), .int (s3 5 0), .int (s3 6 0), .ref (d3 7), .ref (d3 8)])), (d3 0, .inl (cI, 60, .inl (s3 0))), (d3 3, .inl (cI, 4, .inl (s3 3))), (d3 4, .inl (cI, 3, .inl (s3 4))), ((d2 101), .inr (3, [.ref (d4 0), .int (s4 1 0), .int (s4 2 0), .ref (d4 3), .ref (d4 4), .int (s4 5 0), .int (s4 6 0), .ref (d4 7), .ref (d4 8)])), (d4 0, .inl (cI, 60, .inl (s4 0))), (d4 3, .inl (cI, 4, .inl (s4 3))), (d4 4, .inl (cI, 3, .inl (s4 4)))] sz) := by
  refine Met.ofW (cc := qc_Col_doStep) (maxL := 3) (ret := (some .boolean)) (by decide) rfl ?_
  intro p e s m args below meth c s₁ B hml hv
  obtain ⟨rfl, hsz, hP, hK, hD0⟩ := hv
  have hx := B.exec
  have hb := B.bytes
  have hr := B.returns
  have hts0 := atoms_spec (ws := ql_Col_doStep :: qG) B.pre
  have hts := fun (w : Cond) (hw : w ∈ qG) => hts0 w (List.mem_cons_of_mem _ hw)
  have hown : s.vm.findClass "QuietSweep$Collector" = some m.cls := findClass_of_methodNamed B.named
  have hlocks := B.notSynchronized
  subst hsz
  have hD := hD0.self (sz := s.heap.size)
  generalize hAe : va_A [(h0, .inr (1, [.int (s0 0 0), .int (s0 1 0), .int (s0 2 0), .int (s0 3 0)])), (h1, .inr (2, [.int (s1 0 0), .ref (d1 1), .ref (d1 2)])), (d1 1, .inl (cI, (s1 0 0).toNatClampNeg, .inl (s1 1))), (d1 2, .inl (cI, (3 * s1 0 0).toNatClampNeg, .inl (s1 2))), (h2, .inl (cM, 2, .inr (.inr (.inr (.inr (qmf (d2 100) (d2 101))))))), ((d2 100), .inr (3, [.ref (d3 0), .int (s3 1 0), .int (s3 2 0), .ref (d3 3), .ref (d3 4), .int (s3 5 0), .int (s3 6 0), .ref (d3 7), .ref (d3 8)])), (d3 0, .inl (cI, 60, .inl (s3 0))), (d3 3, .inl (cI, 4, .inl (s3 3))), (d3 4, .inl (cI, 3, .inl (s3 4))), ((d2 101), .inr (3, [.ref (d4 0), .int (s4 1 0), .int (s4 2 0), .ref (d4 3), .ref (d4 4), .int (s4 5 0), .int (s4 6 0), .ref (d4 7), .ref (d4 8)])), (d4 0, .inl (cI, 60, .inl (s4 0))), (d4 3, .inl (cI, 4, .inl (s4 3))), (d4 4, .inl (cI, 3, .inl (s4 4)))] s.heap.size = A at hD ⊢
  have hA : ∀ q : Nat, s.heap.size ≤ q → A q := fun q h => by rw [← hAe]; exact Or.inr h
  have hS : va_S A s.heap s.heap [] := va_S.rf
  have hl := lv_entry ([.ref h0, .ref h1, .ref h2]) (n := 3) (Nat.le_of_ble_eq_true rfl)
  rw [lg_entry_eq]
  generalize (lg_sl ([.ref h0, .ref h1, .ref h2]) ++ List.replicate (3 - (lg_sl ([.ref h0, .ref h1, .ref h2])).length) Slot.unset).toArray = ls at hl ⊢
  have hl : lv_has ls 3 [(0, .ref h0), (1, .ref h1), (2, .ref h2)] := hl
  unfold qf_Col_doStep at h
  refine lv_aload_n hx hb qd_Col_doStep_0 rfl (lv_at hl 0 rfl) ?_
  refine va_get (D := (dC, dI)) (ci := 1) (v := .int (s0 0 0)) (C := "QuietSweep$Collector") (T := qT_Col) (N := 4) hx hb hts qi_Col hown hK.1 hP 0 rfl rfl 0 (by decide) (hts _ qw_161) (fun _ h9 => h9) rfl qd_Col_doStep_1 ?_
  by_cases hc1 : (s0 0 0) = 0
  · have h := qq_t hc1 h
    refine lv_lookup (tgt := 40) (off := 36) hx hb qd_Col_doStep_4 (by decide) (by rw [hc1]; decide) (by decide) ?_
    refine lv_aload_n hx hb qd_Col_doStep_40 rfl (lv_at hl 1 rfl) ?_
    obtain ⟨q2, hq2, h⟩ := qq_b h
    have hPc := hP.sub (ws' := [(h1, .inr (2, [.int (s1 0 0), .ref (d1 1), .ref (d1 2)])), (d1 1, .inl (cI, (s1 0 0).toNatClampNeg, .inl (s1 1))), (d1 2, .inl (cI, (3 * s1 0 0).toNatClampNeg, .inl (s1 2)))]) [1, 2, 3] rfl
    have hDc := hD.sub (ws' := [(h1, .inr (2, [.int (s1 0 0), .ref (d1 1), .ref (d1 2)])), (d1 1, .inl (cI, (s1 0 0).toNatClampNeg, .inl (s1 1))), (d1 2, .inl (cI, (3 * s1 0 0).toNatClampNeg, .inl (s1 2)))]) [1, 2, 3] (by decide) rfl
    have hFc := va_free (wc := [(h1, .inr (2, [.int (s1 0 0), .ref (d1 1), .ref (d1 2)])), (d1 1, .inl (cI, (s1 0 0).toNatClampNeg, .inl (s1 1))), (d1 2, .inl (cI, (3 * s1 0 0).toNatClampNeg, .inl (s1 2)))]) hD hS hA [1, 2, 3] rfl
    refine va_callv (va_runV (As := []) (rest := []) ⟨hx, hb, hml, hown, hts⟩ (qm_Mem_whitenUsed l dC dI cI cC cB cM h1 d1 s1 _ q2 hq2) (q_CW hts qw_411 qw_412 qw_413 qw_3 qw_414 qh_Mem_whitenUsed rfl rfl ⟨by decide, by decide⟩) (q_preV [] 0 rfl rfl hK hPc hDc) rfl rfl hl.1 rfl (lv_room (Nat.le_of_ble_eq_true rfl)) qd_Col_doStep_41 ⟨Nat.zero_le _, Nat.zero_le _⟩) hS (fun q _ h => hFc q h) hFc (fun u t H1 locs ht hvm hw hB hz1 hk1 hS => ?_)
    obtain ⟨hP1, hD1⟩ := hB
    rw [ht] at hP1
    obtain ⟨hP, hD⟩ := va_join (wr := [(h0, .inr (1, [.int (s0 0 0), .int (s0 1 0), .int (s0 2 0), .int (s0 3 0)])), (h2, .inl (cM, 2, .inr (.inr (.inr (.inr (qmf (d2 100) (d2 101))))))), ((d2 100), .inr (3, [.ref (d3 0), .int (s3 1 0), .int (s3 2 0), .ref (d3 3), .ref (d3 4), .int (s3 5 0), .int (s3 6 0), .ref (d3 7), .ref (d3 8)])), (d3 0, .inl (cI, 60, .inl (s3 0))), (d3 3, .inl (cI, 4, .inl (s3 3))), (d3 4, .inl (cI, 3, .inl (s3 4))), ((d2 101), .inr (3, [.ref (d4 0), .int (s4 1 0), .int (s4 2 0), .ref (d4 3), .ref (d4 4), .int (s4 5 0), .int (s4 6 0), .ref (d4 7), .ref (d4 8)])), (d4 0, .inl (cI, 60, .inl (s4 0))), (d4 3, .inl (cI, 4, .inl (s4 3))), (d4 4, .inl (cI, 3, .inl (s4 4)))]) (w1 := [(h1, .inr (2, [.int (q2 0 0), .ref (d1 1), .ref (d1 2)])), (d1 1, .inl (cI, (q2 0 0).toNatClampNeg, .inl (q2 1))), (d1 2, .inl (cI, (3 * q2 0 0).toNatClampNeg, .inl (q2 2)))]) hP hD [1, 2, 3] [0, 4, 5, 6, 7, 8, 9, 10, 11, 12] rfl rfl (by decide) (by decide) hk1 hFc hP1 hD1
    have hP := hP.sub (ws' := [(h0, .inr (1, [.int (s0 0 0), .int (s0 1 0), .int (s0 2 0), .int (s0 3 0)])), (h1, .inr (2, [.int (q2 0 0), .ref (d1 1), .ref (d1 2)])), (d1 1, .inl (cI, (q2 0 0).toNatClampNeg, .inl (q2 1))), (d1 2, .inl (cI, (3 * q2 0 0).toNatClampNeg, .inl (q2 2))), (h2, .inl (cM, 2, .inr (.inr (.inr (.inr (qmf (d2 100) (d2 101))))))), ((d2 100), .inr (3, [.ref (d3 0), .int (s3 1 0), .int (s3 2 0), .ref (d3 3), .ref (d3 4), .int (s3 5 0), .int (s3 6 0), .ref (d3 7), .ref (d3 8)])), (d3 0, .inl (cI, 60, .inl (s3 0))), (d3 3, .inl (cI, 4, .inl (s3 3))), (d3 4, .inl (cI, 3, .inl (s3 4))), ((d2 101), .inr (3, [.ref (d4 0), .int (s4 1 0), .int (s4 2 0), .ref (d4 3), .ref (d4 4), .int (s4 5 0), .int (s4 6 0), .ref (d4 7), .ref (d4 8)])), (d4 0, .inl (cI, 60, .inl (s4 0))), (d4 3, .inl (cI, 4, .inl (s4 3))), (d4 4, .inl (cI, 3, .inl (s4 4)))]) [0, 10, 11, 12, 1, 2, 3, 4, 5, 6, 7, 8, 9] rfl
    have hD := hD.sub (ws' := [(h0, .inr (1, [.int (s0 0 0), .int (s0 1 0), .int (s0 2 0), .int (s0 3 0)])), (h1, .inr (2, [.int (q2 0 0), .ref (d1 1), .ref (d1 2)])), (d1 1, .inl (cI, (q2 0 0).toNatClampNeg, .inl (q2 1))), (d1 2, .inl (cI, (3 * q2 0 0).toNatClampNeg, .inl (q2 2))), (h2, .inl (cM, 2, .inr (.inr (.inr (.inr (qmf (d2 100) (d2 101))))))), ((d2 100), .inr (3, [.ref (d3 0), .int (s3 1 0), .int (s3 2 0), .ref (d3 3), .ref (d3 4), .int (s3 5 0), .int (s3 6 0), .ref (d3 7), .ref (d3 8)])), (d3 0, .inl (cI, 60, .inl (s3 0))), (d3 3, .inl (cI, 4, .inl (s3 3))), (d3 4, .inl (cI, 3, .inl (s3 4))), ((d2 101), .inr (3, [.ref (d4 0), .int (s4 1 0), .int (s4 2 0), .ref (d4 3), .ref (d4 4), .int (s4 5 0), .int (s4 6 0), .ref (d4 7), .ref (d4 8)])), (d4 0, .inl (cI, 60, .inl (s4 0))), (d4 3, .inl (cI, 4, .inl (s4 3))), (d4 4, .inl (cI, 3, .inl (s4 4)))]) [0, 10, 11, 12, 1, 2, 3, 4, 5, 6, 7, 8, 9] (by decide) rfl
    refine lv_aload_n hx hb qd_Col_doStep_44 rfl (lv_at hl 0 rfl) ?_
    refine lv_iconst (v := 1) hx hb qd_Col_doStep_45 rfl ?_
    refine va_put (D := (dC, dI)) (ci := 1) (v := .int 1) (ty := .int) (C := "QuietSweep$Collector") (T := qT_Col) (N := 4) hx hb hts qi_Col qt_Col qo_Col qn_Col hown hK.1 hP hD hS 0 rfl rfl 0 (by decide) (hts _ qw_161) (fun _ h9 => h9) rfl (qo_Col 0 (by decide)) rfl rfl (Nat.le_of_ble_eq_true rfl) qd_Col_doStep_46 (fun H locs hP hD hS => ?_)
    have hP : va_P (dC, dI) qCl [(h0, .inr (1, [.int 1, .int (s0 1 0), .int (s0 2 0), .int (s0 3 0)])), (h1, .inr (2, [.int (q2 0 0), .ref (d1 1), .ref (d1 2)])), (d1 1, .inl (cI, (q2 0 0).toNatClampNeg, .inl (q2 1))), (d1 2, .inl (cI, (3 * q2 0 0).toNatClampNeg, .inl (q2 2))), (h2, .inl (cM, 2, .inr (.inr (.inr (.inr (qmf (d2 100) (d2 101))))))), ((d2 100), .inr (3, [.ref (d3 0), .int (s3 1 0), .int (s3 2 0), .ref (d3 3), .ref (d3 4), .int (s3 5 0), .int (s3 6 0), .ref (d3 7), .ref (d3 8)])), (d3 0, .inl (cI, 60, .inl (s3 0))), (d3 3, .inl (cI, 4, .inl (s3 3))), (d3 4, .inl (cI, 3, .inl (s3 4))), ((d2 101), .inr (3, [.ref (d4 0), .int (s4 1 0), .int (s4 2 0), .ref (d4 3), .ref (d4 4), .int (s4 5 0), .int (s4 6 0), .ref (d4 7), .ref (d4 8)])), (d4 0, .inl (cI, 60, .inl (s4 0))), (d4 3, .inl (cI, 4, .inl (s4 3))), (d4 4, .inl (cI, 3, .inl (s4 4)))] _ := hP
    have hD : va_D A [(h0, .inr (1, [.int 1, .int (s0 1 0), .int (s0 2 0), .int (s0 3 0)])), (h1, .inr (2, [.int (q2 0 0), .ref (d1 1), .ref (d1 2)])), (d1 1, .inl (cI, (q2 0 0).toNatClampNeg, .inl (q2 1))), (d1 2, .inl (cI, (3 * q2 0 0).toNatClampNeg, .inl (q2 2))), (h2, .inl (cM, 2, .inr (.inr (.inr (.inr (qmf (d2 100) (d2 101))))))), ((d2 100), .inr (3, [.ref (d3 0), .int (s3 1 0), .int (s3 2 0), .ref (d3 3), .ref (d3 4), .int (s3 5 0), .int (s3 6 0), .ref (d3 7), .ref (d3 8)])), (d3 0, .inl (cI, 60, .inl (s3 0))), (d3 3, .inl (cI, 4, .inl (s3 3))), (d3 4, .inl (cI, 3, .inl (s3 4))), ((d2 101), .inr (3, [.ref (d4 0), .int (s4 1 0), .int (s4 2 0), .ref (d4 3), .ref (d4 4), .int (s4 5 0), .int (s4 6 0), .ref (d4 7), .ref (d4 8)])), (d4 0, .inl (cI, 60, .inl (s4 0))), (d4 3, .inl (cI, 4, .inl (s4 3))), (d4 4, .inl (cI, 3, .inl (s4 4)))] := hD
    refine lv_iconst (v := 1) hx hb qd_Col_doStep_49 rfl ?_
    obtain rfl := Option.some.inj h
    exact W.zret (v := 1) hx hb hr rfl (fun t ht hW => ⟨⟨1, (), rfl, rfl, by rw [ht]; exact hP, hD⟩, hS.F ht⟩) hS.2.2 qd_Col_doStep_50
  · have h := qq_f hc1 h
    by_cases hc3 : (s0 0 0) = 4
    · have h := qq_t hc3 h
      refine lv_lookup (tgt := 51) (off := 47) hx hb qd_Col_doStep_4 (by decide) (by rw [hc3]; decide) (by decide) ?_
      refine lv_aload_n hx hb qd_Col_doStep_51 rfl (lv_at hl 0 rfl) ?_
      refine lv_aload_n hx hb qd_Col_doStep_52 rfl (lv_at hl 1 rfl) ?_
      obtain ⟨q4, hq4, h⟩ := qq_b h
      have hPc := hP.sub (ws' := [(h0, .inr (1, [.int (s0 0 0), .int (s0 1 0), .int (s0 2 0), .int (s0 3 0)])), (h1, .inr (2, [.int (s1 0 0), .ref (d1 1), .ref (d1 2)])), (d1 1, .inl (cI, (s1 0 0).toNatClampNeg, .inl (s1 1))), (d1 2, .inl (cI, (3 * s1 0 0).toNatClampNeg, .inl (s1 2)))]) [0, 1, 2, 3] rfl
      have hDc := hD.sub (ws' := [(h0, .inr (1, [.int (s0 0 0), .int (s0 1 0), .int (s0 2 0), .int (s0 3 0)])), (h1, .inr (2, [.int (s1 0 0), .ref (d1 1), .ref (d1 2)])), (d1 1, .inl (cI, (s1 0 0).toNatClampNeg, .inl (s1 1))), (d1 2, .inl (cI, (3 * s1 0 0).toNatClampNeg, .inl (s1 2)))]) [0, 1, 2, 3] (by decide) rfl
      have hFc := va_free (wc := [(h0, .inr (1, [.int (s0 0 0), .int (s0 1 0), .int (s0 2 0), .int (s0 3 0)])), (h1, .inr (2, [.int (s1 0 0), .ref (d1 1), .ref (d1 2)])), (d1 1, .inl (cI, (s1 0 0).toNatClampNeg, .inl (s1 1))), (d1 2, .inl (cI, (3 * s1 0 0).toNatClampNeg, .inl (s1 2)))]) hD hS hA [0, 1, 2, 3] rfl
      refine va_callv (va_runV (As := [.ref h1]) (rest := []) ⟨hx, hb, hml, hown, hts⟩ (qm_Col_trace l dC dI cI cC cB cM h0 h1 d0 d1 s0 s1 _ q4 hq4) (q_CW hts qw_415 qw_417 qv_14 qw_7 qw_418 qh_Col_trace rfl rfl ⟨by decide, by decide⟩) (q_preV [.ref h1] 0 rfl rfl hK hPc hDc) rfl rfl hl.1 rfl (lv_room (Nat.le_of_ble_eq_true rfl)) qd_Col_doStep_53 ⟨Nat.zero_le _, Nat.zero_le _⟩) hS (fun q _ h => hFc q h) hFc (fun u t H1 locs ht hvm hw hB hz1 hk1 hS => ?_)
      obtain ⟨hP1, hD1⟩ := hB
      rw [ht] at hP1
      obtain ⟨hP, hD⟩ := va_join (wr := [(h2, .inl (cM, 2, .inr (.inr (.inr (.inr (qmf (d2 100) (d2 101))))))), ((d2 100), .inr (3, [.ref (d3 0), .int (s3 1 0), .int (s3 2 0), .ref (d3 3), .ref (d3 4), .int (s3 5 0), .int (s3 6 0), .ref (d3 7), .ref (d3 8)])), (d3 0, .inl (cI, 60, .inl (s3 0))), (d3 3, .inl (cI, 4, .inl (s3 3))), (d3 4, .inl (cI, 3, .inl (s3 4))), ((d2 101), .inr (3, [.ref (d4 0), .int (s4 1 0), .int (s4 2 0), .ref (d4 3), .ref (d4 4), .int (s4 5 0), .int (s4 6 0), .ref (d4 7), .ref (d4 8)])), (d4 0, .inl (cI, 60, .inl (s4 0))), (d4 3, .inl (cI, 4, .inl (s4 3))), (d4 4, .inl (cI, 3, .inl (s4 4)))]) (w1 := [(h0, .inr (1, [.int (q4.1 0 0), .int (q4.1 1 0), .int (q4.1 2 0), .int (q4.1 3 0)])), (h1, .inr (2, [.int (q4.2 0 0), .ref (d1 1), .ref (d1 2)])), (d1 1, .inl (cI, (q4.2 0 0).toNatClampNeg, .inl (q4.2 1))), (d1 2, .inl (cI, (3 * q4.2 0 0).toNatClampNeg, .inl (q4.2 2)))]) hP hD [0, 1, 2, 3] [4, 5, 6, 7, 8, 9, 10, 11, 12] rfl rfl (by decide) (by decide) hk1 hFc hP1 hD1
      have hP := hP.sub (ws' := [(h0, .inr (1, [.int (q4.1 0 0), .int (q4.1 1 0), .int (q4.1 2 0), .int (q4.1 3 0)])), (h1, .inr (2, [.int (q4.2 0 0), .ref (d1 1), .ref (d1 2)])), (d1 1, .inl (cI, (q4.2 0 0).toNatClampNeg, .inl (q4.2 1))), (d1 2, .inl (cI, (3 * q4.2 0 0).toNatClampNeg, .inl (q4.2 2))), (h2, .inl (cM, 2, .inr (.inr (.inr (.inr (qmf (d2 100) (d2 101))))))), ((d2 100), .inr (3, [.ref (d3 0), .int (s3 1 0), .int (s3 2 0), .ref (d3 3), .ref (d3 4), .int (s3 5 0), .int (s3 6 0), .ref (d3 7), .ref (d3 8)])), (d3 0, .inl (cI, 60, .inl (s3 0))), (d3 3, .inl (cI, 4, .inl (s3 3))), (d3 4, .inl (cI, 3, .inl (s3 4))), ((d2 101), .inr (3, [.ref (d4 0), .int (s4 1 0), .int (s4 2 0), .ref (d4 3), .ref (d4 4), .int (s4 5 0), .int (s4 6 0), .ref (d4 7), .ref (d4 8)])), (d4 0, .inl (cI, 60, .inl (s4 0))), (d4 3, .inl (cI, 4, .inl (s4 3))), (d4 4, .inl (cI, 3, .inl (s4 4)))]) [9, 10, 11, 12, 0, 1, 2, 3, 4, 5, 6, 7, 8] rfl
      have hD := hD.sub (ws' := [(h0, .inr (1, [.int (q4.1 0 0), .int (q4.1 1 0), .int (q4.1 2 0), .int (q4.1 3 0)])), (h1, .inr (2, [.int (q4.2 0 0), .ref (d1 1), .ref (d1 2)])), (d1 1, .inl (cI, (q4.2 0 0).toNatClampNeg, .inl (q4.2 1))), (d1 2, .inl (cI, (3 * q4.2 0 0).toNatClampNeg, .inl (q4.2 2))), (h2, .inl (cM, 2, .inr (.inr (.inr (.inr (qmf (d2 100) (d2 101))))))), ((d2 100), .inr (3, [.ref (d3 0), .int (s3 1 0), .int (s3 2 0), .ref (d3 3), .ref (d3 4), .int (s3 5 0), .int (s3 6 0), .ref (d3 7), .ref (d3 8)])), (d3 0, .inl (cI, 60, .inl (s3 0))), (d3 3, .inl (cI, 4, .inl (s3 3))), (d3 4, .inl (cI, 3, .inl (s3 4))), ((d2 101), .inr (3, [.ref (d4 0), .int (s4 1 0), .int (s4 2 0), .ref (d4 3), .ref (d4 4), .int (s4 5 0), .int (s4 6 0), .ref (d4 7), .ref (d4 8)])), (d4 0, .inl (cI, 60, .inl (s4 0))), (d4 3, .inl (cI, 4, .inl (s4 3))), (d4 4, .inl (cI, 3, .inl (s4 4)))]) [9, 10, 11, 12, 0, 1, 2, 3, 4, 5, 6, 7, 8] (by decide) rfl
      refine lv_iconst (v := 1) hx hb qd_Col_doStep_56 rfl ?_
      obtain rfl := Option.some.inj h
      exact W.zret (v := 1) hx hb hr rfl (fun t ht hW => ⟨⟨1, (), rfl, rfl, by rw [ht]; exact hP, hD⟩, hS.F ht⟩) hS.2.2 qd_Col_doStep_57
    · have h := qq_f hc3 h
      by_cases hc5 : (s0 0 0) = 5
      · have h := qq_t hc5 h
        refine lv_lookup (tgt := 58) (off := 54) hx hb qd_Col_doStep_4 (by decide) (by rw [hc5]; decide) (by decide) ?_
        refine lv_aload_n hx hb qd_Col_doStep_58 rfl (lv_at hl 0 rfl) ?_
        refine lv_aload_n hx hb qd_Col_doStep_59 rfl (lv_at hl 1 rfl) ?_
        obtain ⟨q6, hq6, h⟩ := qq_b h
        have hPc := hP.sub (ws' := [(h0, .inr (1, [.int (s0 0 0), .int (s0 1 0), .int (s0 2 0), .int (s0 3 0)])), (h1, .inr (2, [.int (s1 0 0), .ref (d1 1), .ref (d1 2)])), (d1 1, .inl (cI, (s1 0 0).toNatClampNeg, .inl (s1 1))), (d1 2, .inl (cI, (3 * s1 0 0).toNatClampNeg, .inl (s1 2)))]) [0, 1, 2, 3] rfl
        have hDc := hD.sub (ws' := [(h0, .inr (1, [.int (s0 0 0), .int (s0 1 0), .int (s0 2 0), .int (s0 3 0)])), (h1, .inr (2, [.int (s1 0 0), .ref (d1 1), .ref (d1 2)])), (d1 1, .inl (cI, (s1 0 0).toNatClampNeg, .inl (s1 1))), (d1 2, .inl (cI, (3 * s1 0 0).toNatClampNeg, .inl (s1 2)))]) [0, 1, 2, 3] (by decide) rfl
        have hFc := va_free (wc := [(h0, .inr (1, [.int (s0 0 0), .int (s0 1 0), .int (s0 2 0), .int (s0 3 0)])), (h1, .inr (2, [.int (s1 0 0), .ref (d1 1), .ref (d1 2)])), (d1 1, .inl (cI, (s1 0 0).toNatClampNeg, .inl (s1 1))), (d1 2, .inl (cI, (3 * s1 0 0).toNatClampNeg, .inl (s1 2)))]) hD hS hA [0, 1, 2, 3] rfl
        refine va_callv (va_runV (As := [.ref h1]) (rest := []) ⟨hx, hb, hml, hown, hts⟩ (qm_Col_sweep l dC dI cI cC cB cM h0 h1 d0 d1 s0 s1 _ q6 hq6) (q_CW hts qw_422 qw_424 qv_15 qw_7 qw_425 qh_Col_sweep rfl rfl ⟨by decide, by decide⟩) (q_preV [.ref h1] 0 rfl rfl hK hPc hDc) rfl rfl hl.1 rfl (lv_room (Nat.le_of_ble_eq_true rfl)) qd_Col_doStep_60 ⟨Nat.zero_le _, Nat.zero_le _⟩) hS (fun q _ h => hFc q h) hFc (fun u t H1 locs ht hvm hw hB hz1 hk1 hS => ?_)
        obtain ⟨hP1, hD1⟩ := hB
        rw [ht] at hP1
        obtain ⟨hP, hD⟩ := va_join (wr := [(h2, .inl (cM, 2, .inr (.inr (.inr (.inr (qmf (d2 100) (d2 101))))))), ((d2 100), .inr (3, [.ref (d3 0), .int (s3 1 0), .int (s3 2 0), .ref (d3 3), .ref (d3 4), .int (s3 5 0), .int (s3 6 0), .ref (d3 7), .ref (d3 8)])), (d3 0, .inl (cI, 60, .inl (s3 0))), (d3 3, .inl (cI, 4, .inl (s3 3))), (d3 4, .inl (cI, 3, .inl (s3 4))), ((d2 101), .inr (3, [.ref (d4 0), .int (s4 1 0), .int (s4 2 0), .ref (d4 3), .ref (d4 4), .int (s4 5 0), .int (s4 6 0), .ref (d4 7), .ref (d4 8)])), (d4 0, .inl (cI, 60, .inl (s4 0))), (d4 3, .inl (cI, 4, .inl (s4 3))), (d4 4, .inl (cI, 3, .inl (s4 4)))]) (w1 := [(h0, .inr (1, [.int (q6.1 0 0), .int (q6.1 1 0), .int (q6.1 2 0), .int (q6.1 3 0)])), (h1, .inr (2, [.int (q6.2 0 0), .ref (d1 1), .ref (d1 2)])), (d1 1, .inl (cI, (q6.2 0 0).toNatClampNeg, .inl (q6.2 1))), (d1 2, .inl (cI, (3 * q6.2 0 0).toNatClampNeg, .inl (q6.2 2)))]) hP hD [0, 1, 2, 3] [4, 5, 6, 7, 8, 9, 10, 11, 12] rfl rfl (by decide) (by decide) hk1 hFc hP1 hD1
        have hP := hP.sub (ws' := [(h0, .inr (1, [.int (q6.1 0 0), .int (q6.1 1 0), .int (q6.1 2 0), .int (q6.1 3 0)])), (h1, .inr (2, [.int (q6.2 0 0), .ref (d1 1), .ref (d1 2)])), (d1 1, .inl (cI, (q6.2 0 0).toNatClampNeg, .inl (q6.2 1))), (d1 2, .inl (cI, (3 * q6.2 0 0).toNatClampNeg, .inl (q6.2 2))), (h2, .inl (cM, 2, .inr (.inr (.inr (.inr (qmf (d2 100) (d2 101))))))), ((d2 100), .inr (3, [.ref (d3 0), .int (s3 1 0), .int (s3 2 0), .ref (d3 3), .ref (d3 4), .int (s3 5 0), .int (s3 6 0), .ref (d3 7), .ref (d3 8)])), (d3 0, .inl (cI, 60, .inl (s3 0))), (d3 3, .inl (cI, 4, .inl (s3 3))), (d3 4, .inl (cI, 3, .inl (s3 4))), ((d2 101), .inr (3, [.ref (d4 0), .int (s4 1 0), .int (s4 2 0), .ref (d4 3), .ref (d4 4), .int (s4 5 0), .int (s4 6 0), .ref (d4 7), .ref (d4 8)])), (d4 0, .inl (cI, 60, .inl (s4 0))), (d4 3, .inl (cI, 4, .inl (s4 3))), (d4 4, .inl (cI, 3, .inl (s4 4)))]) [9, 10, 11, 12, 0, 1, 2, 3, 4, 5, 6, 7, 8] rfl
        have hD := hD.sub (ws' := [(h0, .inr (1, [.int (q6.1 0 0), .int (q6.1 1 0), .int (q6.1 2 0), .int (q6.1 3 0)])), (h1, .inr (2, [.int (q6.2 0 0), .ref (d1 1), .ref (d1 2)])), (d1 1, .inl (cI, (q6.2 0 0).toNatClampNeg, .inl (q6.2 1))), (d1 2, .inl (cI, (3 * q6.2 0 0).toNatClampNeg, .inl (q6.2 2))), (h2, .inl (cM, 2, .inr (.inr (.inr (.inr (qmf (d2 100) (d2 101))))))), ((d2 100), .inr (3, [.ref (d3 0), .int (s3 1 0), .int (s3 2 0), .ref (d3 3), .ref (d3 4), .int (s3 5 0), .int (s3 6 0), .ref (d3 7), .ref (d3 8)])), (d3 0, .inl (cI, 60, .inl (s3 0))), (d3 3, .inl (cI, 4, .inl (s3 3))), (d3 4, .inl (cI, 3, .inl (s3 4))), ((d2 101), .inr (3, [.ref (d4 0), .int (s4 1 0), .int (s4 2 0), .ref (d4 3), .ref (d4 4), .int (s4 5 0), .int (s4 6 0), .ref (d4 7), .ref (d4 8)])), (d4 0, .inl (cI, 60, .inl (s4 0))), (d4 3, .inl (cI, 4, .inl (s4 3))), (d4 4, .inl (cI, 3, .inl (s4 4)))]) [9, 10, 11, 12, 0, 1, 2, 3, 4, 5, 6, 7, 8] (by decide) rfl
        refine lv_iconst (v := 1) hx hb qd_Col_doStep_63 rfl ?_
        obtain rfl := Option.some.inj h
        exact W.zret (v := 1) hx hb hr rfl (fun t ht hW => ⟨⟨1, (), rfl, rfl, by rw [ht]; exact hP, hD⟩, hS.F ht⟩) hS.2.2 qd_Col_doStep_64
      · have h := qq_f hc5 h
        have hsw : Op.lookupswitch.offset [(0, 36), (4, 47), (5, 54)] 61 (Int32.toInt (s0 0 0)) = 61 := by
          have hc1 : Int32.toInt (s0 0 0) ≠ 0 := q_ne hc1
          have hc3 : Int32.toInt (s0 0 0) ≠ 4 := q_ne hc3
          have hc5 : Int32.toInt (s0 0 0) ≠ 5 := q_ne hc5
          simp [Op.lookupswitch.offset, hc1, hc3, hc5, hc1.symm, hc3.symm, hc5.symm]
        refine lv_lookup (tgt := 65) (off := 61) hx hb qd_Col_doStep_4 (by decide) hsw (by decide) ?_
        refine lv_aload_n hx hb qd_Col_doStep_65 rfl (lv_at hl 0 rfl) ?_
        refine lv_aload_n hx hb qd_Col_doStep_66 rfl (lv_at hl 2 rfl) ?_
        obtain ⟨q7, hq7, h⟩ := qq_b h
        have hPc := hP.sub (ws' := [(h0, .inr (1, [.int (s0 0 0), .int (s0 1 0), .int (s0 2 0), .int (s0 3 0)])), (h2, .inl (cM, 2, .inr (.inr (.inr (.inr (qmf (d2 100) (d2 101))))))), ((d2 100), .inr (3, [.ref (d3 0), .int (s3 1 0), .int (s3 2 0), .ref (d3 3), .ref (d3 4), .int (s3 5 0), .int (s3 6 0), .ref (d3 7), .ref (d3 8)])), (d3 0, .inl (cI, 60, .inl (s3 0))), (d3 3, .inl (cI, 4, .inl (s3 3))), (d3 4, .inl (cI, 3, .inl (s3 4))), ((d2 101), .inr (3, [.ref (d4 0), .int (s4 1 0), .int (s4 2 0), .ref (d4 3), .ref (d4 4), .int (s4 5 0), .int (s4 6 0), .ref (d4 7), .ref (d4 8)])), (d4 0, .inl (cI, 60, .inl (s4 0))), (d4 3, .inl (cI, 4, .inl (s4 3))), (d4 4, .inl (cI, 3, .inl (s4 4)))]) [0, 4, 5, 6, 7, 8, 9, 10, 11, 12] rfl
        have hDc := hD.sub (ws' := [(h0, .inr (1, [.int (s0 0 0), .int (s0 1 0), .int (s0 2 0), .int (s0 3 0)])), (h2, .inl (cM, 2, .inr (.inr (.inr (.inr (qmf (d2 100) (d2 101))))))), ((d2 100), .inr (3, [.ref (d3 0), .int (s3 1 0), .int (s3 2 0), .ref (d3 3), .ref (d3 4), .int (s3 5 0), .int (s3 6 0), .ref (d3 7), .ref (d3 8)])), (d3 0, .inl (cI, 60, .inl (s3 0))), (d3 3, .inl (cI, 4, .inl (s3 3))), (d3 4, .inl (cI, 3, .inl (s3 4))), ((d2 101), .inr (3, [.ref (d4 0), .int (s4 1 0), .int (s4 2 0), .ref (d4 3), .ref (d4 4), .int (s4 5 0), .int (s4 6 0), .ref (d4 7), .ref (d4 8)])), (d4 0, .inl (cI, 60, .inl (s4 0))), (d4 3, .inl (cI, 4, .inl (s4 3))), (d4 4, .inl (cI, 3, .inl (s4 4)))]) [0, 4, 5, 6, 7, 8, 9, 10, 11, 12] (by decide) rfl
        have hFc := va_free (wc := [(h0, .inr (1, [.int (s0 0 0), .int (s0 1 0), .int (s0 2 0), .int (s0 3 0)])), (h2, .inl (cM, 2, .inr (.inr (.inr (.inr (qmf (d2 100) (d2 101))))))), ((d2 100), .inr (3, [.ref (d3 0), .int (s3 1 0), .int (s3 2 0), .ref (d3 3), .ref (d3 4), .int (s3 5 0), .int (s3 6 0), .ref (d3 7), .ref (d3 8)])), (d3 0, .inl (cI, 60, .inl (s3 0))), (d3 3, .inl (cI, 4, .inl (s3 3))), (d3 4, .inl (cI, 3, .inl (s3 4))), ((d2 101), .inr (3, [.ref (d4 0), .int (s4 1 0), .int (s4 2 0), .ref (d4 3), .ref (d4 4), .int (s4 5 0), .int (s4 6 0), .ref (d4 7), .ref (d4 8)])), (d4 0, .inl (cI, 60, .inl (s4 0))), (d4 3, .inl (cI, 4, .inl (s4 3))), (d4 4, .inl (cI, 3, .inl (s4 4)))]) hD hS hA [0, 4, 5, 6, 7, 8, 9, 10, 11, 12] rfl
        refine va_calli (va_runV (As := [.ref h2]) (rest := []) ⟨hx, hb, hml, hown, hts⟩ (qm_Col_passIfAnswered l dC dI cI cC cB cM h0 h2 d0 d2 d3 d4 s0 s3 s4 _ q7 hq7) (q_CW hts qw_426 qw_428 qv_16 qw_7 qw_429 qh_Col_passIfAnswered rfl rfl ⟨by decide, by decide⟩) (q_preV [.ref h2] 0 rfl rfl hK hPc hDc) rfl rfl hl.1 rfl (lv_room (Nat.le_of_ble_eq_true rfl)) qd_Col_doStep_67 ⟨Nat.zero_le _, Nat.zero_le _⟩) hS (fun q _ h => hFc q h) hFc (fun r u t H1 locs ht hvm hw hB hz1 hk1 hS => ?_)
        have hw : q7.1 = r := Eq.symm hw
        subst hw
        obtain ⟨hP1, hD1⟩ := hB
        rw [ht] at hP1
        obtain ⟨hP, hD⟩ := va_join (wr := [(h1, .inr (2, [.int (s1 0 0), .ref (d1 1), .ref (d1 2)])), (d1 1, .inl (cI, (s1 0 0).toNatClampNeg, .inl (s1 1))), (d1 2, .inl (cI, (3 * s1 0 0).toNatClampNeg, .inl (s1 2)))]) (w1 := [(h0, .inr (1, [.int (q7.2 0 0), .int (q7.2 1 0), .int (q7.2 2 0), .int (q7.2 3 0)])), (h2, .inl (cM, 2, .inr (.inr (.inr (.inr (qmf (d2 100) (d2 101))))))), ((d2 100), .inr (3, [.ref (d3 0), .int (s3 1 0), .int (s3 2 0), .ref (d3 3), .ref (d3 4), .int (s3 5 0), .int (s3 6 0), .ref (d3 7), .ref (d3 8)])), (d3 0, .inl (cI, 60, .inl (s3 0))), (d3 3, .inl (cI, 4, .inl (s3 3))), (d3 4, .inl (cI, 3, .inl (s3 4))), ((d2 101), .inr (3, [.ref (d4 0), .int (s4 1 0), .int (s4 2 0), .ref (d4 3), .ref (d4 4), .int (s4 5 0), .int (s4 6 0), .ref (d4 7), .ref (d4 8)])), (d4 0, .inl (cI, 60, .inl (s4 0))), (d4 3, .inl (cI, 4, .inl (s4 3))), (d4 4, .inl (cI, 3, .inl (s4 4)))]) hP hD [0, 4, 5, 6, 7, 8, 9, 10, 11, 12] [1, 2, 3] rfl rfl (by decide) (by decide) hk1 hFc hP1 hD1
        have hP := hP.sub (ws' := [(h0, .inr (1, [.int (q7.2 0 0), .int (q7.2 1 0), .int (q7.2 2 0), .int (q7.2 3 0)])), (h1, .inr (2, [.int (s1 0 0), .ref (d1 1), .ref (d1 2)])), (d1 1, .inl (cI, (s1 0 0).toNatClampNeg, .inl (s1 1))), (d1 2, .inl (cI, (3 * s1 0 0).toNatClampNeg, .inl (s1 2))), (h2, .inl (cM, 2, .inr (.inr (.inr (.inr (qmf (d2 100) (d2 101))))))), ((d2 100), .inr (3, [.ref (d3 0), .int (s3 1 0), .int (s3 2 0), .ref (d3 3), .ref (d3 4), .int (s3 5 0), .int (s3 6 0), .ref (d3 7), .ref (d3 8)])), (d3 0, .inl (cI, 60, .inl (s3 0))), (d3 3, .inl (cI, 4, .inl (s3 3))), (d3 4, .inl (cI, 3, .inl (s3 4))), ((d2 101), .inr (3, [.ref (d4 0), .int (s4 1 0), .int (s4 2 0), .ref (d4 3), .ref (d4 4), .int (s4 5 0), .int (s4 6 0), .ref (d4 7), .ref (d4 8)])), (d4 0, .inl (cI, 60, .inl (s4 0))), (d4 3, .inl (cI, 4, .inl (s4 3))), (d4 4, .inl (cI, 3, .inl (s4 4)))]) [3, 0, 1, 2, 4, 5, 6, 7, 8, 9, 10, 11, 12] rfl
        have hD := hD.sub (ws' := [(h0, .inr (1, [.int (q7.2 0 0), .int (q7.2 1 0), .int (q7.2 2 0), .int (q7.2 3 0)])), (h1, .inr (2, [.int (s1 0 0), .ref (d1 1), .ref (d1 2)])), (d1 1, .inl (cI, (s1 0 0).toNatClampNeg, .inl (s1 1))), (d1 2, .inl (cI, (3 * s1 0 0).toNatClampNeg, .inl (s1 2))), (h2, .inl (cM, 2, .inr (.inr (.inr (.inr (qmf (d2 100) (d2 101))))))), ((d2 100), .inr (3, [.ref (d3 0), .int (s3 1 0), .int (s3 2 0), .ref (d3 3), .ref (d3 4), .int (s3 5 0), .int (s3 6 0), .ref (d3 7), .ref (d3 8)])), (d3 0, .inl (cI, 60, .inl (s3 0))), (d3 3, .inl (cI, 4, .inl (s3 3))), (d3 4, .inl (cI, 3, .inl (s3 4))), ((d2 101), .inr (3, [.ref (d4 0), .int (s4 1 0), .int (s4 2 0), .ref (d4 3), .ref (d4 4), .int (s4 5 0), .int (s4 6 0), .ref (d4 7), .ref (d4 8)])), (d4 0, .inl (cI, 60, .inl (s4 0))), (d4 3, .inl (cI, 4, .inl (s4 3))), (d4 4, .inl (cI, 3, .inl (s4 4)))]) [3, 0, 1, 2, 4, 5, 6, 7, 8, 9, 10, 11, 12] (by decide) rfl
        obtain ⟨hn8, h⟩ := qq_y h
        obtain rfl := Option.some.inj h
        exact W.zret (v := q7.1) hx hb hr (q_nz hn8) (fun t ht hW => ⟨⟨q7.1, (), rfl, rfl, by rw [ht]; exact hP, hD⟩, hS.F ht⟩) hS.2.2 qd_Col_doStep_70
