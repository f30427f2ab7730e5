/-! QuietSweep$Source.shapeOf(I)Ljava/lang/String; -/
def qf_Src_shapeOf (a1 : Int32)  : Option (Nat) := (if a1 = 0 then (some 0) else (if a1 = 1 then (some 1) else (if a1 = 2 then (some 2) else (if a1 = 3 then (some 3) else (if a1 = 4 then (some 4) else (if a1 = 5 then (some 5) else (if a1 = 6 then (some 6) else (if a1 = 7 then (some 7) else (if a1 = 8 then (some 8) else (if a1 = 9 then (some 9) else (if a1 = 10 then (some 10) else (if a1 = 11 then (some 11) else (if a1 = 12 then (some 12) else (if a1 = 13 then (some 13) else (if a1 = 14 then (some 14) else (some 14))))))))))))))))
set_option maxHeartbeats 4000000 in
set_option maxRecDepth 100000 in
theorem qm_Src_shapeOf (l : Launch) (dC : Nat → ClassId) (dI : Nat → Nat → Nat) (cI cC cB cM : ClassId) (aK aV : Nat → Nat)    (a1 : Int32) (sz : Nat) (o : Nat) (h : qf_Src_shapeOf a1 = some o) : Met l qy_Src_shapeOf (ql_Src_shapeOf :: qG) ({ frames := 0, cells := 0, slots := 0, locals := 0 } : Room) (qPcS dC dI cI cC cB cM aK aV [.int a1] sz []) (va_Qr (fun _ : Unit => True) (fun _ a t => a = aK o ∧ va_P (dC, dI) qCl [] t.heap ∧ va_D (va_A [] sz) []) (va_A [] sz)) 0 0 (va_A [] sz) := by
  refine Met.ofW (cc := qc_Src_shapeOf) (maxL := 1) (ret := (some (.object "java/lang/String"))) (by decide) rfl ?_
  intro p e s m args below meth c s₁ B hml hv
  obtain ⟨rfl, hsz, hP, hK, hD0, hT⟩ := hv
  have hx := B.exec
  have hb := B.bytes
  have hr := B.returns
  have hts0 := atoms_spec (ws := ql_Src_shapeOf :: qG) B.pre
  have hts := fun (w : Cond) (hw : w ∈ qG) => hts0 w (List.mem_cons_of_mem _ hw)
  have hown : s.vm.findClass "QuietSweep$Source" = some m.cls := findClass_of_methodNamed B.named
  have hlocks := B.notSynchronized
  subst hsz
  have hD := hD0.self (sz := s.heap.size)
  generalize hAe : va_A [] s.heap.size = A at hD hT ⊢
  have hA : ∀ q : Nat, s.heap.size ≤ q → A q := fun q h => by rw [← hAe]; exact Or.inr h
  have hS : va_S A s.heap s.heap [] := va_S.rf
  have hl := lv_entry ([.int a1]) (n := 1) (Nat.le_of_ble_eq_true rfl)
  rw [lg_entry_eq]
  generalize (lg_sl ([.int a1]) ++ List.replicate (1 - (lg_sl ([.int a1])).length) Slot.unset).toArray = ls at hl ⊢
  have hl : lv_has ls 1 [(0, .int a1)] := hl
  unfold qf_Src_shapeOf at h
  refine lv_iload_n hx hb qd_Src_shapeOf_0 rfl (lv_at hl 0 rfl) ?_
  by_cases hc1 : a1 = 0
  · have h := qq_t hc1 h
    refine lv_tableIn (tgt := 76) (off := 75) hx hb qd_Src_shapeOf_1 (by rw [hc1]; decide) (by rw [hc1]; decide) (by rw [hc1]; decide) (by decide) ?_
    refine va_ldcS (tx := "R=*;") (q := aK 0) hx hb hown (hT.2.2.2 0 (by decide)) qd_Src_shapeOf_76 ?_
    obtain rfl := Option.some.inj h
    exact W.aret (v := .ref (aK 0)) hx hb hr (Or.inl ⟨_, rfl⟩) (Or.inr ⟨_, rfl⟩) (fun t ht hW => ⟨⟨(), aK 0, rfl, trivial, rfl, by rw [ht]; exact hP, hD⟩, hS.F ht⟩) hS.2.2 qd_Src_shapeOf_78
  · have h := qq_f hc1 h
    by_cases hc2 : a1 = 1
    · have h := qq_t hc2 h
      refine lv_tableIn (tgt := 79) (off := 78) hx hb qd_Src_shapeOf_1 (by rw [hc2]; decide) (by rw [hc2]; decide) (by rw [hc2]; decide) (by decide) ?_
      refine va_ldcS (tx := "R=-;") (q := aK 1) hx hb hown (hT.2.2.2 1 (by decide)) qd_Src_shapeOf_79 ?_
      obtain rfl := Option.some.inj h
      exact W.aret (v := .ref (aK 1)) hx hb hr (Or.inl ⟨_, rfl⟩) (Or.inr ⟨_, rfl⟩) (fun t ht hW => ⟨⟨(), aK 1, rfl, trivial, rfl, by rw [ht]; exact hP, hD⟩, hS.F ht⟩) hS.2.2 qd_Src_shapeOf_81
    · have h := qq_f hc2 h
      by_cases hc3 : a1 = 2
      · have h := qq_t hc3 h
        refine lv_tableIn (tgt := 82) (off := 81) hx hb qd_Src_shapeOf_1 (by rw [hc3]; decide) (by rw [hc3]; decide) (by rw [hc3]; decide) (by decide) ?_
        refine va_ldcS (tx := "R=R;") (q := aK 2) hx hb hown (hT.2.2.2 2 (by decide)) qd_Src_shapeOf_82 ?_
        obtain rfl := Option.some.inj h
        exact W.aret (v := .ref (aK 2)) hx hb hr (Or.inl ⟨_, rfl⟩) (Or.inr ⟨_, rfl⟩) (fun t ht hW => ⟨⟨(), aK 2, rfl, trivial, rfl, by rw [ht]; exact hP, hD⟩, hS.F ht⟩) hS.2.2 qd_Src_shapeOf_84
      · have h := qq_f hc3 h
        by_cases hc4 : a1 = 3
        · have h := qq_t hc4 h
          refine lv_tableIn (tgt := 85) (off := 84) hx hb qd_Src_shapeOf_1 (by rw [hc4]; decide) (by rw [hc4]; decide) (by rw [hc4]; decide) (by decide) ?_
          refine va_ldcS (tx := "R=R.l;") (q := aK 3) hx hb hown (hT.2.2.2 3 (by decide)) qd_Src_shapeOf_85 ?_
          obtain rfl := Option.some.inj h
          exact W.aret (v := .ref (aK 3)) hx hb hr (Or.inl ⟨_, rfl⟩) (Or.inr ⟨_, rfl⟩) (fun t ht hW => ⟨⟨(), aK 3, rfl, trivial, rfl, by rw [ht]; exact hP, hD⟩, hS.F ht⟩) hS.2.2 qd_Src_shapeOf_87
        · have h := qq_f hc4 h
          by_cases hc5 : a1 = 4
          · have h := qq_t hc5 h
            refine lv_tableIn (tgt := 88) (off := 87) hx hb qd_Src_shapeOf_1 (by rw [hc5]; decide) (by rw [hc5]; decide) (by rw [hc5]; decide) (by decide) ?_
            refine va_ldcS (tx := "R=R.r;") (q := aK 4) hx hb hown (hT.2.2.2 4 (by decide)) qd_Src_shapeOf_88 ?_
            obtain rfl := Option.some.inj h
            exact W.aret (v := .ref (aK 4)) hx hb hr (Or.inl ⟨_, rfl⟩) (Or.inr ⟨_, rfl⟩) (fun t ht hW => ⟨⟨(), aK 4, rfl, trivial, rfl, by rw [ht]; exact hP, hD⟩, hS.F ht⟩) hS.2.2 qd_Src_shapeOf_90
          · have h := qq_f hc5 h
            by_cases hc6 : a1 = 5
            · have h := qq_t hc6 h
              refine lv_tableIn (tgt := 91) (off := 90) hx hb qd_Src_shapeOf_1 (by rw [hc6]; decide) (by rw [hc6]; decide) (by rw [hc6]; decide) (by decide) ?_
              refine va_ldcS (tx := "R.l=R;") (q := aK 5) hx hb hown (hT.2.2.2 5 (by decide)) qd_Src_shapeOf_91 ?_
              obtain rfl := Option.some.inj h
              exact W.aret (v := .ref (aK 5)) hx hb hr (Or.inl ⟨_, rfl⟩) (Or.inr ⟨_, rfl⟩) (fun t ht hW => ⟨⟨(), aK 5, rfl, trivial, rfl, by rw [ht]; exact hP, hD⟩, hS.F ht⟩) hS.2.2 qd_Src_shapeOf_93
            · have h := qq_f hc6 h
              by_cases hc7 : a1 = 6
              · have h := qq_t hc7 h
                refine lv_tableIn (tgt := 94) (off := 93) hx hb qd_Src_shapeOf_1 (by rw [hc7]; decide) (by rw [hc7]; decide) (by rw [hc7]; decide) (by decide) ?_
                refine va_ldcS (tx := "R.r=R;") (q := aK 6) hx hb hown (hT.2.2.2 6 (by decide)) qd_Src_shapeOf_94 ?_
                obtain rfl := Option.some.inj h
                exact W.aret (v := .ref (aK 6)) hx hb hr (Or.inl ⟨_, rfl⟩) (Or.inr ⟨_, rfl⟩) (fun t ht hW => ⟨⟨(), aK 6, rfl, trivial, rfl, by rw [ht]; exact hP, hD⟩, hS.F ht⟩) hS.2.2 qd_Src_shapeOf_96
              · have h := qq_f hc7 h
                by_cases hc8 : a1 = 7
                · have h := qq_t hc8 h
                  refine lv_tableIn (tgt := 97) (off := 96) hx hb qd_Src_shapeOf_1 (by rw [hc8]; decide) (by rw [hc8]; decide) (by rw [hc8]; decide) (by decide) ?_
                  refine va_ldcS (tx := "R.l=-;") (q := aK 7) hx hb hown (hT.2.2.2 7 (by decide)) qd_Src_shapeOf_97 ?_
                  obtain rfl := Option.some.inj h
                  exact W.aret (v := .ref (aK 7)) hx hb hr (Or.inl ⟨_, rfl⟩) (Or.inr ⟨_, rfl⟩) (fun t ht hW => ⟨⟨(), aK 7, rfl, trivial, rfl, by rw [ht]; exact hP, hD⟩, hS.F ht⟩) hS.2.2 qd_Src_shapeOf_99
                · have h := qq_f hc8 h
                  by_cases hc9 : a1 = 8
                  · have h := qq_t hc9 h
                    refine lv_tableIn (tgt := 100) (off := 99) hx hb qd_Src_shapeOf_1 (by rw [hc9]; decide) (by rw [hc9]; decide) (by rw [hc9]; decide) (by decide) ?_
                    refine va_ldcS (tx := "R.r=-;") (q := aK 8) hx hb hown (hT.2.2.2 8 (by decide)) qd_Src_shapeOf_100 ?_
                    obtain rfl := Option.some.inj h
                    exact W.aret (v := .ref (aK 8)) hx hb hr (Or.inl ⟨_, rfl⟩) (Or.inr ⟨_, rfl⟩) (fun t ht hW => ⟨⟨(), aK 8, rfl, trivial, rfl, by rw [ht]; exact hP, hD⟩, hS.F ht⟩) hS.2.2 qd_Src_shapeOf_102
                  · have h := qq_f hc9 h
                    by_cases hc10 : a1 = 9
                    · have h := qq_t hc10 h
                      refine lv_tableIn (tgt := 103) (off := 102) hx hb qd_Src_shapeOf_1 (by rw [hc10]; decide) (by rw [hc10]; decide) (by rw [hc10]; decide) (by decide) ?_
                      refine va_ldcS (tx := "R.n=I;") (q := aK 9) hx hb hown (hT.2.2.2 9 (by decide)) qd_Src_shapeOf_103 ?_
                      obtain rfl := Option.some.inj h
                      exact W.aret (v := .ref (aK 9)) hx hb hr (Or.inl ⟨_, rfl⟩) (Or.inr ⟨_, rfl⟩) (fun t ht hW => ⟨⟨(), aK 9, rfl, trivial, rfl, by rw [ht]; exact hP, hD⟩, hS.F ht⟩) hS.2.2 qd_Src_shapeOf_105
                    · have h := qq_f hc10 h
                      by_cases hc11 : a1 = 10
                      · have h := qq_t hc11 h
                        refine lv_tableIn (tgt := 106) (off := 105) hx hb qd_Src_shapeOf_1 (by rw [hc11]; decide) (by rw [hc11]; decide) (by rw [hc11]; decide) (by decide) ?_
                        refine va_ldcS (tx := "I=0;") (q := aK 10) hx hb hown (hT.2.2.2 10 (by decide)) qd_Src_shapeOf_106 ?_
                        obtain rfl := Option.some.inj h
                        exact W.aret (v := .ref (aK 10)) hx hb hr (Or.inl ⟨_, rfl⟩) (Or.inr ⟨_, rfl⟩) (fun t ht hW => ⟨⟨(), aK 10, rfl, trivial, rfl, by rw [ht]; exact hP, hD⟩, hS.F ht⟩) hS.2.2 qd_Src_shapeOf_108
                      · have h := qq_f hc11 h
                        by_cases hc12 : a1 = 11
                        · have h := qq_t hc12 h
                          refine lv_tableIn (tgt := 109) (off := 108) hx hb qd_Src_shapeOf_1 (by rw [hc12]; decide) (by rw [hc12]; decide) (by rw [hc12]; decide) (by decide) ?_
                          refine va_ldcS (tx := "I=I;") (q := aK 11) hx hb hown (hT.2.2.2 11 (by decide)) qd_Src_shapeOf_109 ?_
                          obtain rfl := Option.some.inj h
                          exact W.aret (v := .ref (aK 11)) hx hb hr (Or.inl ⟨_, rfl⟩) (Or.inr ⟨_, rfl⟩) (fun t ht hW => ⟨⟨(), aK 11, rfl, trivial, rfl, by rw [ht]; exact hP, hD⟩, hS.F ht⟩) hS.2.2 qd_Src_shapeOf_111
                        · have h := qq_f hc12 h
                          by_cases hc13 : a1 = 12
                          · have h := qq_t hc13 h
                            refine lv_tableIn (tgt := 112) (off := 111) hx hb qd_Src_shapeOf_1 (by rw [hc13]; decide) (by rw [hc13]; decide) (by rw [hc13]; decide) (by decide) ?_
                            refine va_ldcS (tx := "I=I+I;") (q := aK 12) hx hb hown (hT.2.2.2 12 (by decide)) qd_Src_shapeOf_112 ?_
                            obtain rfl := Option.some.inj h
                            exact W.aret (v := .ref (aK 12)) hx hb hr (Or.inl ⟨_, rfl⟩) (Or.inr ⟨_, rfl⟩) (fun t ht hW => ⟨⟨(), aK 12, rfl, trivial, rfl, by rw [ht]; exact hP, hD⟩, hS.F ht⟩) hS.2.2 qd_Src_shapeOf_114
                          · have h := qq_f hc13 h
                            by_cases hc14 : a1 = 13
                            · have h := qq_t hc14 h
                              refine lv_tableIn (tgt := 115) (off := 114) hx hb qd_Src_shapeOf_1 (by rw [hc14]; decide) (by rw [hc14]; decide) (by rw [hc14]; decide) (by decide) ?_
                              refine va_ldcS (tx := "I=R.n;") (q := aK 13) hx hb hown (hT.2.2.2 13 (by decide)) qd_Src_shapeOf_115 ?_
                              obtain rfl := Option.some.inj h
                              exact W.aret (v := .ref (aK 13)) hx hb hr (Or.inl ⟨_, rfl⟩) (Or.inr ⟨_, rfl⟩) (fun t ht hW => ⟨⟨(), aK 13, rfl, trivial, rfl, by rw [ht]; exact hP, hD⟩, hS.F ht⟩) hS.2.2 qd_Src_shapeOf_117
                            · have h := qq_f hc14 h
                              by_cases hc15 : a1 = 14
                              · have h := qq_t hc15 h
                                refine lv_tableIn (tgt := 118) (off := 117) hx hb qd_Src_shapeOf_1 (by rw [hc15]; decide) (by rw [hc15]; decide) (by rw [hc15]; decide) (by decide) ?_
                                refine va_ldcS (tx := "!I;") (q := aK 14) hx hb hown (hT.2.2.2 14 (by decide)) qd_Src_shapeOf_118 ?_
                                obtain rfl := Option.some.inj h
                                exact W.aret (v := .ref (aK 14)) hx hb hr (Or.inl ⟨_, rfl⟩) (Or.inr ⟨_, rfl⟩) (fun t ht hW => ⟨⟨(), aK 14, rfl, trivial, rfl, by rw [ht]; exact hP, hD⟩, hS.F ht⟩) hS.2.2 qd_Src_shapeOf_120
                              · have h := qq_f hc15 h
                                have hsw : Int32.toInt a1 < 0 ∨ 14 < Int32.toInt a1 := by
                                  have hc1 := q_ne hc1
                                  have hc2 := q_ne hc2
                                  have hc3 := q_ne hc3
                                  have hc4 := q_ne hc4
                                  have hc5 := q_ne hc5
                                  have hc6 := q_ne hc6
                                  have hc7 := q_ne hc7
                                  have hc8 := q_ne hc8
                                  have hc9 := q_ne hc9
                                  have hc10 := q_ne hc10
                                  have hc11 := q_ne hc11
                                  have hc12 := q_ne hc12
                                  have hc13 := q_ne hc13
                                  have hc14 := q_ne hc14
                                  have hc15 := q_ne hc15
                                  simp only [show Int32.toInt 0 = 0 from by decide, show Int32.toInt 1 = 1 from by decide, show Int32.toInt 2 = 2 from by decide, show Int32.toInt 3 = 3 from by decide, show Int32.toInt 4 = 4 from by decide, show Int32.toInt 5 = 5 from by decide, show Int32.toInt 6 = 6 from by decide, show Int32.toInt 7 = 7 from by decide, show Int32.toInt 8 = 8 from by decide, show Int32.toInt 9 = 9 from by decide, show Int32.toInt 10 = 10 from by decide, show Int32.toInt 11 = 11 from by decide, show Int32.toInt 12 = 12 from by decide, show Int32.toInt 13 = 13 from by decide, show Int32.toInt 14 = 14 from by decide, ne_eq] at hc1 hc2 hc3 hc4 hc5 hc6 hc7 hc8 hc9 hc10 hc11 hc12 hc13 hc14 hc15
                                  omega
                                refine lv_tableOut (tgt := 118) hx hb qd_Src_shapeOf_1 hsw (by decide) ?_
                                refine va_ldcS (tx := "!I;") (q := aK 14) hx hb hown (hT.2.2.2 14 (by decide)) qd_Src_shapeOf_118 ?_
                                obtain rfl := Option.some.inj h
                                exact W.aret (v := .ref (aK 14)) hx hb hr (Or.inl ⟨_, rfl⟩) (Or.inr ⟨_, rfl⟩) (fun t ht hW => ⟨⟨(), aK 14, rfl, trivial, rfl, by rw [ht]; exact hP, hD⟩, hS.F ht⟩) hS.2.2 qd_Src_shapeOf_120
/-! QuietSweep$Source.hasShape(ILjava/lang/String;)Z -/
def qf_Src_hasShape_B17 (k17 : (Int32 × Nat × Int32 × QS) → Option (Int32)) (x1 : Int32) (x2 : Nat) (x3 : Int32) (s0 : QS) : Option (Int32) := ((qf_Jstr_length x2).bind fun q2 => (if q2 ≤ x3 then (some 1) else ((qf_Jstr_charAt x3 x2).bind fun q3 => (if ((x1 + x3) < 0 ∨ 60 ≤ Int32.toNatClampNeg (x1 + x3)) then none else ((qf_Src_fits q3 ((s0 0) (Int32.toNatClampNeg (x1 + x3)))).bind fun q5 => (if q5 = 0 then (some 0) else (k17 (x1, x2, (x3 + 1), s0))))))))
def qf_Src_hasShape_F17 (k17 : (Int32 × Nat × Int32 × QS) → Option (Int32)) (a : Int32 × Nat × Int32 × QS) : Option (Int32) := qf_Src_hasShape_B17 k17 a.1 a.2.1 a.2.2.1 a.2.2.2
def qf_Src_hasShape (a1 : Int32) (a2 : Nat) (s0 : QS) : Option (Int32) := ((qf_Jstr_length a2).bind fun q1 => (if (a1 + q1) ≤ (s0 1 0) then (qfix (qf_Src_hasShape_F17) qN (a1, a2, 0, s0)) else (some 0)))
set_option maxHeartbeats 4000000 in
set_option maxRecDepth 100000 in
theorem qm_Src_hasShape (l : Launch) (dC : Nat → ClassId) (dI : Nat → Nat → Nat) (cI cC cB cM : ClassId) (aK aV : Nat → Nat) (h0 : Nat) (d0 : Nat → Nat) (s0 : QS) (a1 : Int32) (a2 : Nat) (sz : Nat) (o : Int32) (h : qf_Src_hasShape a1 a2 s0 = some o) : Met l qy_Src_hasShape (ql_Src_hasShape :: qG) ({ frames := 4, cells := 0, slots := 0, locals := 85 } : Room) (qPcS dC dI cI cC cB cM aK aV [.ref h0, .int a1, .ref (aK a2)] sz [(h0, .inr (5, [.ref (d0 0), .int (s0 1 0), .ref (d0 2), .int (s0 3 0), .ref (d0 4), .int (s0 5 0)])), (d0 0, .inl (cC, 60, .inl (s0 0))), (d0 2, .inl (cI, 60, .inl (s0 2))), (d0 4, .inl (cI, 6, .inl (s0 4)))]) (va_Qi (fun r (_ : Unit) => r = o) (fun _ t => va_P (dC, dI) qCl [(h0, .inr (5, [.ref (d0 0), .int (s0 1 0), .ref (d0 2), .int (s0 3 0), .ref (d0 4), .int (s0 5 0)])), (d0 0, .inl (cC, 60, .inl (s0 0))), (d0 2, .inl (cI, 60, .inl (s0 2))), (d0 4, .inl (cI, 6, .inl (s0 4)))] t.heap ∧ va_D (va_A [(h0, .inr (5, [.ref (d0 0), .int (s0 1 0), .ref (d0 2), .int (s0 3 0), .ref (d0 4), .int (s0 5 0)])), (d0 0, .inl (cC, 60, .inl (s0 0))), (d0 2, .inl (cI, 60, .inl (s0 2))), (d0 4, .inl (cI, 6, .inl (s0 4)))] sz) [(h0, .inr (5, [.ref (d0 0), .int (s0 1 0), .ref (d0 2), .int (s0 3 0), .ref (d0 4), .int (s0 5 0)])), (d0 0, .inl (cC, 60, .inl (s0 0))), (d0 2, .inl (cI, 60, .inl (s0 2))), (d0 4, .inl (cI, 6, .inl (s0 4)))]) (va_A [(h0, .inr (5, [.ref (d0 0), .int (s0 1 0), .ref (d0 2), .int (s0 3 0), .ref (d0 4), .int (s0 5 0)])), (d0 0, .inl (cC, 60, .inl (s0 0))), (d0 2, .inl (cI, 60, .inl (s0 2))), (d0 4, .inl (cI, 6, .inl (s0 4)))] sz)) 0 0 (va_A [(h0, .inr (5, [.ref (d0 0), .int (s0 1 0), .ref (d0 2), .int (s0 3 0), .ref (d0 4), .int (s0 5 0)])), (d0 0, .inl (cC, 60, .inl (s0 0))), (d0 2, .inl (cI, 60, .inl (s0 2))), (d0 4, .inl (cI, 6, .inl (s0 4)))] sz) := by
  refine Met.ofW (cc := qc_Src_hasShape) (maxL := 4) (ret := (some .boolean)) (by decide) rfl ?_
  intro p e s m args below meth c s₁ B hml hv
  obtain ⟨rfl, hsz, hP, hK, hD0, hT⟩ := hv
  have hx := B.exec
  have hb := B.bytes
  have hr := B.returns
  have hts0 := atoms_spec (ws := ql_Src_hasShape :: qG) B.pre
  have hts := fun (w : Cond) (hw : w ∈ qG) => hts0 w (List.mem_cons_of_mem _ hw)
  have hown : s.vm.findClass "QuietSweep$Source" = some m.cls := findClass_of_methodNamed B.named
  have hlocks := B.notSynchronized
  subst hsz
  have hD := hD0.self (sz := s.heap.size)
  generalize hAe : va_A [(h0, .inr (5, [.ref (d0 0), .int (s0 1 0), .ref (d0 2), .int (s0 3 0), .ref (d0 4), .int (s0 5 0)])), (d0 0, .inl (cC, 60, .inl (s0 0))), (d0 2, .inl (cI, 60, .inl (s0 2))), (d0 4, .inl (cI, 6, .inl (s0 4)))] s.heap.size = A at hD hT ⊢
  have hA : ∀ q : Nat, s.heap.size ≤ q → A q := fun q h => by rw [← hAe]; exact Or.inr h
  have hS : va_S A s.heap s.heap [] := va_S.rf
  have hl := lv_entry ([.ref h0, .int a1, .ref (aK a2)]) (n := 4) (Nat.le_of_ble_eq_true rfl)
  rw [lg_entry_eq]
  generalize (lg_sl ([.ref h0, .int a1, .ref (aK a2)]) ++ List.replicate (4 - (lg_sl ([.ref h0, .int a1, .ref (aK a2)])).length) Slot.unset).toArray = ls at hl ⊢
  have hl : lv_has ls 4 [(0, .ref h0), (1, .int a1), (2, .ref (aK a2))] := hl
  have L17 : ∀ (n : Nat) (x1 : Int32) (x2 : Nat) (x3 : Int32) (s0 : QS) (H : Heap) (locs : List Loc) (ls : Array Slot), lv_has ls 4 [(0, .ref h0), (1, .int x1), (2, .ref (aK x2)), (3, .int x3)] → va_P (dC, dI) qCl [(h0, .inr (5, [.ref (d0 0), .int (s0 1 0), .ref (d0 2), .int (s0 3 0), .ref (d0 4), .int (s0 5 0)])), (d0 0, .inl (cC, 60, .inl (s0 0))), (d0 2, .inl (cI, 60, .inl (s0 2))), (d0 4, .inl (cI, 6, .inl (s0 4)))] H → va_D A [(h0, .inr (5, [.ref (d0 0), .int (s0 1 0), .ref (d0 2), .int (s0 3 0), .ref (d0 4), .int (s0 5 0)])), (d0 0, .inl (cC, 60, .inl (s0 0))), (d0 2, .inl (cI, 60, .inl (s0 2))), (d0 4, .inl (cI, 6, .inl (s0 4)))] → va_S A s.heap H locs → qfix (qf_Src_hasShape_F17) n (x1, x2, x3, s0) = some o → W p l e (headSpec (ql_Src_hasShape :: qG) ({ frames := 4, cells := 0, slots := 0, locals := 85 } : Room)).room s m ([.ref h0, .int a1, .ref (aK a2)] : List Value).toArray below meth c H locs 0 0 (MQ below (va_Qi (fun r (_ : Unit) => r = o) (fun _ t => va_P (dC, dI) qCl [(h0, .inr (5, [.ref (d0 0), .int (s0 1 0), .ref (d0 2), .int (s0 3 0), .ref (d0 4), .int (s0 5 0)])), (d0 0, .inl (cC, 60, .inl (s0 0))), (d0 2, .inl (cI, 60, .inl (s0 2))), (d0 4, .inl (cI, 6, .inl (s0 4)))] t.heap ∧ va_D A [(h0, .inr (5, [.ref (d0 0), .int (s0 1 0), .ref (d0 2), .int (s0 3 0), .ref (d0 4), .int (s0 5 0)])), (d0 0, .inl (cC, 60, .inl (s0 0))), (d0 2, .inl (cI, 60, .inl (s0 2))), (d0 4, .inl (cI, 6, .inl (s0 4)))]) A) ([.ref h0, .int a1, .ref (aK a2)] : List Value).toArray s 0 0 A) (F0 m 17 ls []) := by
    intro n
    induction n with
    | zero => intro x1 x2 x3 s0 H locs ls hl hP hD hS h; cases (show (none : Option (Int32)) = some o from h)
    | succ n17 ih17 =>
      intro x1 x2 x3 s0 H locs ls hl hP hD hS h
      have h : qf_Src_hasShape_B17 (qfix (qf_Src_hasShape_F17) n17) x1 x2 x3 s0 = some o := h
      unfold qf_Src_hasShape_B17 at h
      refine lv_iload_n hx hb qd_Src_hasShape_17 rfl (lv_at hl 3 rfl) ?_
      refine lv_aload_n hx hb qd_Src_hasShape_18 rfl (lv_at hl 2 rfl) ?_
      obtain ⟨q2, hq2, h⟩ := qq_b h
      have hPc := hP.sub (ws' := []) [] rfl
      have hDc := hD.sub (ws' := []) [] (by decide) rfl
      have hFc := va_free (wc := []) hD hS hA [] rfl
      refine va_calli (va_runV (As := []) (rest := [.int x3]) ⟨hx, hb, hml, hown, hts⟩ (qm_Jstr_length l dC dI cI cC cB cM aK aV x2 q2 hq2 _) (q_CW hts qw_249 qw_250 qw_251 qw_9 qw_252 qh_Jstr_length rfl rfl ⟨by decide, by decide⟩) (q_preVT [] x2 (q_lt_len hq2) hK hPc hDc hT hS hFc) rfl rfl hl.1 rfl (lv_room (Nat.le_of_ble_eq_true rfl)) qd_Src_hasShape_19 ⟨Nat.zero_le _, Nat.zero_le _⟩) hS (fun q _ h => hFc q h) hFc (fun r u t H1 locs ht hvm hw hB hz1 hk1 hS => ?_)
      have hw : q2 = r := Eq.symm hw
      subst hw
      obtain ⟨hP1, hD1⟩ := hB
      rw [ht] at hP1
      obtain ⟨hP, hD⟩ := va_join (wr := [(h0, .inr (5, [.ref (d0 0), .int (s0 1 0), .ref (d0 2), .int (s0 3 0), .ref (d0 4), .int (s0 5 0)])), (d0 0, .inl (cC, 60, .inl (s0 0))), (d0 2, .inl (cI, 60, .inl (s0 2))), (d0 4, .inl (cI, 6, .inl (s0 4)))]) (w1 := []) hP hD [] [0, 1, 2, 3] rfl rfl (by decide) (by decide) hk1 hFc hP1 hD1
      have hP := hP.sub (ws' := [(h0, .inr (5, [.ref (d0 0), .int (s0 1 0), .ref (d0 2), .int (s0 3 0), .ref (d0 4), .int (s0 5 0)])), (d0 0, .inl (cC, 60, .inl (s0 0))), (d0 2, .inl (cI, 60, .inl (s0 2))), (d0 4, .inl (cI, 6, .inl (s0 4)))]) [0, 1, 2, 3] rfl
      have hD := hD.sub (ws' := [(h0, .inr (5, [.ref (d0 0), .int (s0 1 0), .ref (d0 2), .int (s0 3 0), .ref (d0 4), .int (s0 5 0)])), (d0 0, .inl (cC, 60, .inl (s0 0))), (d0 2, .inl (cI, 60, .inl (s0 2))), (d0 4, .inl (cI, 6, .inl (s0 4)))]) [0, 1, 2, 3] (by decide) rfl
      refine lv_icmp_ge hx hb qd_Src_hasShape_22 (tgt := 52) (by decide) (fun hc => ?_) (fun hc => ?_)
      · have h := qq_t hc h
        refine lv_iconst (v := 1) hx hb qd_Src_hasShape_52 rfl ?_
        obtain rfl := Option.some.inj h
        exact W.zret (v := 1) hx hb hr rfl (fun t ht hW => ⟨⟨1, (), rfl, rfl, by rw [ht]; exact hP, hD⟩, hS.F ht⟩) hS.2.2 qd_Src_hasShape_53
      · have h := qq_f hc h
        refine lv_aload_n hx hb qd_Src_hasShape_25 rfl (lv_at hl 2 rfl) ?_
        refine lv_iload_n hx hb qd_Src_hasShape_26 rfl (lv_at hl 3 rfl) ?_
        obtain ⟨q3, hq3, h⟩ := qq_b h
        have hPc := hP.sub (ws' := []) [] rfl
        have hDc := hD.sub (ws' := []) [] (by decide) rfl
        have hFc := va_free (wc := []) hD hS hA [] rfl
        refine va_calli (va_runV (As := [.int x3]) (rest := []) ⟨hx, hb, hml, hown, hts⟩ (qm_Jstr_charAt l dC dI cI cC cB cM aK aV x2 x3 q3 hq3 _) (q_CW hts qw_259 qw_260 qw_261 qw_9 qw_262 qh_Jstr_charAt rfl rfl ⟨by decide, by decide⟩) (q_preVT [.int x3] x2 (q_lt_ch hq3) hK hPc hDc hT hS hFc) rfl rfl hl.1 rfl (lv_room (Nat.le_of_ble_eq_true rfl)) qd_Src_hasShape_27 ⟨Nat.zero_le _, Nat.zero_le _⟩) hS (fun q _ h => hFc q h) hFc (fun r u t H1 locs ht hvm hw hB hz1 hk1 hS => ?_)
        have hw : q3 = r := Eq.symm hw
        subst hw
        obtain ⟨hP1, hD1⟩ := hB
        rw [ht] at hP1
        obtain ⟨hP, hD⟩ := va_join (wr := [(h0, .inr (5, [.ref (d0 0), .int (s0 1 0), .ref (d0 2), .int (s0 3 0), .ref (d0 4), .int (s0 5 0)])), (d0 0, .inl (cC, 60, .inl (s0 0))), (d0 2, .inl (cI, 60, .inl (s0 2))), (d0 4, .inl (cI, 6, .inl (s0 4)))]) (w1 := []) hP hD [] [0, 1, 2, 3] rfl rfl (by decide) (by decide) hk1 hFc hP1 hD1
        have hP := hP.sub (ws' := [(h0, .inr (5, [.ref (d0 0), .int (s0 1 0), .ref (d0 2), .int (s0 3 0), .ref (d0 4), .int (s0 5 0)])), (d0 0, .inl (cC, 60, .inl (s0 0))), (d0 2, .inl (cI, 60, .inl (s0 2))), (d0 4, .inl (cI, 6, .inl (s0 4)))]) [0, 1, 2, 3] rfl
        have hD := hD.sub (ws' := [(h0, .inr (5, [.ref (d0 0), .int (s0 1 0), .ref (d0 2), .int (s0 3 0), .ref (d0 4), .int (s0 5 0)])), (d0 0, .inl (cC, 60, .inl (s0 0))), (d0 2, .inl (cI, 60, .inl (s0 2))), (d0 4, .inl (cI, 6, .inl (s0 4)))]) [0, 1, 2, 3] (by decide) rfl
        refine lv_aload_n hx hb qd_Src_hasShape_30 rfl (lv_at hl 0 rfl) ?_
        refine va_get (D := (dC, dI)) (ci := 5) (v := .ref (d0 0)) (C := "QuietSweep$Source") (T := qT_Src) (N := 6) hx hb hts qi_Src hown hK.1 hP 0 rfl rfl 0 (by decide) (hts _ qw_30) (fun _ h9 => h9) rfl qd_Src_hasShape_31 ?_
        refine lv_iload_n hx hb qd_Src_hasShape_34 rfl (lv_at hl 1 rfl) ?_
        refine lv_iload_n hx hb qd_Src_hasShape_35 rfl (lv_at hl 3 rfl) ?_
        refine lv_iadd hx hb qd_Src_hasShape_36 ?_
        obtain ⟨hb4, h⟩ := qq_n h
        refine va_cald hx hb hK.1 hP 1 1 rfl rfl hb4 qd_Src_hasShape_37 ?_
        obtain ⟨q5, hq5, h⟩ := qq_b h
        have hPc := hP.sub (ws' := []) [] rfl
        have hDc := hD.sub (ws' := []) [] (by decide) rfl
        have hFc := va_free (wc := []) hD hS hA [] rfl
        refine va_calli (va_runS (As := [.int q3, .int ((s0 0) (Int32.toNatClampNeg (x1 + x3)))]) (rest := []) ⟨hx, hb, hml, hown, hts⟩ (qm_Src_fits l dC dI cI cC cB cM q3 ((s0 0) (Int32.toNatClampNeg (x1 + x3))) _ q5 hq5) ⟨q_CB hts qw_213 qw_2 qw_215 qh_Src_fits rfl rfl ⟨by decide, by decide⟩, hts _ qw_214⟩ (q_preS [.int q3, .int ((s0 0) (Int32.toNatClampNeg (x1 + x3)))] hK hPc hDc) rfl rfl hl.1 rfl (lv_room (Nat.le_of_ble_eq_true rfl)) qd_Src_hasShape_38 ⟨Nat.zero_le _, Nat.zero_le _⟩) hS (fun q _ h => hFc q h) hFc (fun r u t H1 locs ht hvm hw hB hz1 hk1 hS => ?_)
        have hw : q5 = r := Eq.symm hw
        subst hw
        obtain ⟨hP1, hD1⟩ := hB
        rw [ht] at hP1
        obtain ⟨hP, hD⟩ := va_join (wr := [(h0, .inr (5, [.ref (d0 0), .int (s0 1 0), .ref (d0 2), .int (s0 3 0), .ref (d0 4), .int (s0 5 0)])), (d0 0, .inl (cC, 60, .inl (s0 0))), (d0 2, .inl (cI, 60, .inl (s0 2))), (d0 4, .inl (cI, 6, .inl (s0 4)))]) (w1 := []) hP hD [] [0, 1, 2, 3] rfl rfl (by decide) (by decide) hk1 hFc hP1 hD1
        have hP := hP.sub (ws' := [(h0, .inr (5, [.ref (d0 0), .int (s0 1 0), .ref (d0 2), .int (s0 3 0), .ref (d0 4), .int (s0 5 0)])), (d0 0, .inl (cC, 60, .inl (s0 0))), (d0 2, .inl (cI, 60, .inl (s0 2))), (d0 4, .inl (cI, 6, .inl (s0 4)))]) [0, 1, 2, 3] rfl
        have hD := hD.sub (ws' := [(h0, .inr (5, [.ref (d0 0), .int (s0 1 0), .ref (d0 2), .int (s0 3 0), .ref (d0 4), .int (s0 5 0)])), (d0 0, .inl (cC, 60, .inl (s0 0))), (d0 2, .inl (cI, 60, .inl (s0 2))), (d0 4, .inl (cI, 6, .inl (s0 4)))]) [0, 1, 2, 3] (by decide) rfl
        refine lv_if_ne hx hb qd_Src_hasShape_41 (tgt := 46) (by decide) (fun hc => ?_) (fun hc => ?_)
        · have h := qq_f hc h
          refine lv_iinc (k := 3) (v := (x3 + 1)) (lv' := [(3, .int (x3 + 1)), (0, .ref h0), (1, .int x1), (2, .ref (aK x2))]) hx hb qd_Src_hasShape_46 hl rfl (congrArg (fun z : Int32 => x3 + z) (show Int32.ofInt 1 = 1 by decide)) (by decide) rfl (fun ls hl => ?_)
          refine lv_goto hx hb qd_Src_hasShape_49 (tgt := 17) (by decide) ?_
          exact ih17 x1 x2 (x3 + 1) s0 _ _ _ (lv_sub (l' := [(0, .ref h0), (1, .int x1), (2, .ref (aK x2)), (3, .int (x3 + 1))]) hl [1, 2, 3, 0] rfl) hP hD hS h
        · have h := qq_t hc h
          refine lv_iconst (v := 0) hx hb qd_Src_hasShape_44 rfl ?_
          obtain rfl := Option.some.inj h
          exact W.zret (v := 0) hx hb hr rfl (fun t ht hW => ⟨⟨0, (), rfl, rfl, by rw [ht]; exact hP, hD⟩, hS.F ht⟩) hS.2.2 qd_Src_hasShape_45
  unfold qf_Src_hasShape at h
  refine lv_iload_n hx hb qd_Src_hasShape_0 rfl (lv_at hl 1 rfl) ?_
  refine lv_aload_n hx hb qd_Src_hasShape_1 rfl (lv_at hl 2 rfl) ?_
  obtain ⟨q1, hq1, h⟩ := qq_b h
  have hPc := hP.sub (ws' := []) [] rfl
  have hDc := hD.sub (ws' := []) [] (by decide) rfl
  have hFc := va_free (wc := []) hD hS hA [] rfl
  refine va_calli (va_runV (As := []) (rest := [.int a1]) ⟨hx, hb, hml, hown, hts⟩ (qm_Jstr_length l dC dI cI cC cB cM aK aV a2 q1 hq1 _) (q_CW hts qw_249 qw_250 qw_251 qw_9 qw_252 qh_Jstr_length rfl rfl ⟨by decide, by decide⟩) (q_preVT [] a2 (q_lt_len hq1) hK hPc hDc hT hS hFc) rfl rfl hl.1 rfl (lv_room (Nat.le_of_ble_eq_true rfl)) qd_Src_hasShape_2 ⟨Nat.zero_le _, Nat.zero_le _⟩) hS (fun q _ h => hFc q h) hFc (fun r u t H1 locs ht hvm hw hB hz1 hk1 hS => ?_)
  have hw : q1 = r := Eq.symm hw
  subst hw
  obtain ⟨hP1, hD1⟩ := hB
  rw [ht] at hP1
  obtain ⟨hP, hD⟩ := va_join (wr := [(h0, .inr (5, [.ref (d0 0), .int (s0 1 0), .ref (d0 2), .int (s0 3 0), .ref (d0 4), .int (s0 5 0)])), (d0 0, .inl (cC, 60, .inl (s0 0))), (d0 2, .inl (cI, 60, .inl (s0 2))), (d0 4, .inl (cI, 6, .inl (s0 4)))]) (w1 := []) hP hD [] [0, 1, 2, 3] rfl rfl (by decide) (by decide) hk1 hFc hP1 hD1
  have hP := hP.sub (ws' := [(h0, .inr (5, [.ref (d0 0), .int (s0 1 0), .ref (d0 2), .int (s0 3 0), .ref (d0 4), .int (s0 5 0)])), (d0 0, .inl (cC, 60, .inl (s0 0))), (d0 2, .inl (cI, 60, .inl (s0 2))), (d0 4, .inl (cI, 6, .inl (s0 4)))]) [0, 1, 2, 3] rfl
  have hD := hD.sub (ws' := [(h0, .inr (5, [.ref (d0 0), .int (s0 1 0), .ref (d0 2), .int (s0 3 0), .ref (d0 4), .int (s0 5 0)])), (d0 0, .inl (cC, 60, .inl (s0 0))), (d0 2, .inl (cI, 60, .inl (s0 2))), (d0 4, .inl (cI, 6, .inl (s0 4)))]) [0, 1, 2, 3] (by decide) rfl
  refine lv_iadd hx hb qd_Src_hasShape_5 ?_
  refine lv_aload_n hx hb qd_Src_hasShape_6 rfl (lv_at hl 0 rfl) ?_
  refine va_get (D := (dC, dI)) (ci := 5) (v := .int (s0 1 0)) (C := "QuietSweep$Source") (T := qT_Src) (N := 6) hx hb hts qi_Src hown hK.1 hP 0 rfl rfl 1 (by decide) (hts _ qw_31) (fun _ h9 => h9) rfl qd_Src_hasShape_7 ?_
  refine lv_icmp_le hx hb qd_Src_hasShape_10 (tgt := 15) (by decide) (fun hc => ?_) (fun hc => ?_)
  · have h := qq_t hc h
    refine lv_iconst (v := 0) hx hb qd_Src_hasShape_15 rfl ?_
    refine lv_istore_n (lv' := [(3, .int 0), (0, .ref h0), (1, .int a1), (2, .ref (aK a2))]) hx hb qd_Src_hasShape_16 rfl hl (by decide) rfl (fun ls hl => ?_)
    exact L17 qN a1 a2 0 s0 _ _ _ (lv_sub (l' := [(0, .ref h0), (1, .int a1), (2, .ref (aK a2)), (3, .int 0)]) hl [1, 2, 3, 0] rfl) hP hD hS h
  · have h := qq_f hc h
    refine lv_iconst (v := 0) hx hb qd_Src_hasShape_13 rfl ?_
    obtain rfl := Option.some.inj h
    exact W.zret (v := 0) hx hb hr rfl (fun t ht hW => ⟨⟨0, (), rfl, rfl, by rw [ht]; exact hP, hD⟩, hS.F ht⟩) hS.2.2 qd_Src_hasShape_14
/-! QuietSweep$Source.operandsAt(ILjava/lang/String;)I -/
def qf_Src_operandsAt_j69 (k9 : (Int32 × Nat × Int32 × Int32 × Int32 × QS) → Option (Int32)) (x1 : Int32) (x2 : Nat) (x3 : Int32) (x4 : Int32) (x5 : Int32) (s0 : QS) : Option (Int32) := (if ((x1 + x5) < 0 ∨ 60 ≤ Int32.toNatClampNeg (x1 + x5)) then none else ((qf_Src_numberOf ((s0 0) (Int32.toNatClampNeg (x1 + x5)))).bind fun q4 => (k9 (x1, x2, (x3 + (x4 * q4)), (x4 * 4), (x5 + 1), s0))))
def qf_Src_operandsAt_B9 (k9 : (Int32 × Nat × Int32 × Int32 × Int32 × QS) → Option (Int32)) (x1 : Int32) (x2 : Nat) (x3 : Int32) (x4 : Int32) (x5 : Int32) (s0 : QS) : Option (Int32) := ((qf_Jstr_length x2).bind fun q1 => (if q1 ≤ x5 then (some x3) else ((qf_Jstr_charAt x5 x2).bind fun q2 => (if q2 = 48 then (if ((x1 + x5) < 0 ∨ 60 ≤ Int32.toNatClampNeg (x1 + x5)) then none else ((qf_Src_numberOf ((s0 0) (Int32.toNatClampNeg (x1 + x5)))).bind fun q6 => (k9 (x1, x2, (x3 + (256 * q6)), x4, (x5 + 1), s0)))) else (if q2 = 82 then (qf_Src_operandsAt_j69 k9 x1 x2 x3 x4 x5 s0) else (if q2 = 73 then (qf_Src_operandsAt_j69 k9 x1 x2 x3 x4 x5 s0) else (k9 (x1, x2, x3, x4, (x5 + 1), s0))))))))
def qf_Src_operandsAt_F9 (k9 : (Int32 × Nat × Int32 × Int32 × Int32 × QS) → Option (Int32)) (a : Int32 × Nat × Int32 × Int32 × Int32 × QS) : Option (Int32) := qf_Src_operandsAt_B9 k9 a.1 a.2.1 a.2.2.1 a.2.2.2.1 a.2.2.2.2.1 a.2.2.2.2.2
def qf_Src_operandsAt (a1 : Int32) (a2 : Nat) (s0 : QS) : Option (Int32) := (qfix (qf_Src_operandsAt_F9) qN (a1, a2, 0, 16, 0, s0))
set_option maxHeartbeats 4000000 in
set_option maxRecDepth 100000 in
theorem qm_Src_operandsAt (l : Launch) (dC : Nat → ClassId) (dI : Nat → Nat → Nat) (cI cC cB cM : ClassId) (aK aV : Nat → Nat) (h0 : Nat) (d0 : Nat → Nat) (s0 : QS) (a1 : Int32) (a2 : Nat) (sz : Nat) (o : Int32) (h : qf_Src_operandsAt a1 a2 s0 = some o) : Met l qy_Src_operandsAt (ql_Src_operandsAt :: qG) ({ frames := 4, cells := 0, slots := 0, locals := 85 } : Room) (qPcS dC dI cI cC cB cM aK aV [.ref h0, .int a1, .ref (aK a2)] sz [(h0, .inr (5, [.ref (d0 0), .int (s0 1 0), .ref (d0 2), .int (s0 3 0), .ref (d0 4), .int (s0 5 0)])), (d0 0, .inl (cC, 60, .inl (s0 0))), (d0 2, .inl (cI, 60, .inl (s0 2))), (d0 4, .inl (cI, 6, .inl (s0 4)))]) (va_Qi (fun r (_ : Unit) => r = o) (fun _ t => va_P (dC, dI) qCl [(h0, .inr (5, [.ref (d0 0), .int (s0 1 0), .ref (d0 2), .int (s0 3 0), .ref (d0 4), .int (s0 5 0)])), (d0 0, .inl (cC, 60, .inl (s0 0))), (d0 2, .inl (cI, 60, .inl (s0 2))), (d0 4, .inl (cI, 6, .inl (s0 4)))] t.heap ∧ va_D (va_A [(h0, .inr (5, [.ref (d0 0), .int (s0 1 0), .ref (d0 2), .int (s0 3 0), .ref (d0 4), .int (s0 5 0)])), (d0 0, .inl (cC, 60, .inl (s0 0))), (d0 2, .inl (cI, 60, .inl (s0 2))), (d0 4, .inl (cI, 6, .inl (s0 4)))] sz) [(h0, .inr (5, [.ref (d0 0), .int (s0 1 0), .ref (d0 2), .int (s0 3 0), .ref (d0 4), .int (s0 5 0)])), (d0 0, .inl (cC, 60, .inl (s0 0))), (d0 2, .inl (cI, 60, .inl (s0 2))), (d0 4, .inl (cI, 6, .inl (s0 4)))]) (va_A [(h0, .inr (5, [.ref (d0 0), .int (s0 1 0), .ref (d0 2), .int (s0 3 0), .ref (d0 4), .int (s0 5 0)])), (d0 0, .inl (cC, 60, .inl (s0 0))), (d0 2, .inl (cI, 60, .inl (s0 2))), (d0 4, .inl (cI, 6, .inl (s0 4)))] sz)) 0 0 (va_A [(h0, .inr (5, [.ref (d0 0), .int (s0 1 0), .ref (d0 2), .int (s0 3 0), .ref (d0 4), .int (s0 5 0)])), (d0 0, .inl (cC, 60, .inl (s0 0))), (d0 2, .inl (cI, 60, .inl (s0 2))), (d0 4, .inl (cI, 6, .inl (s0 4)))] sz) := by
  refine Met.ofW (cc := qc_Src_operandsAt) (maxL := 7) (ret := (some .int)) (by decide) rfl ?_
  intro p e s m args below meth c s₁ B hml hv
  obtain ⟨rfl, hsz, hP, hK, hD0, hT⟩ := hv
  have hx := B.exec
  have hb := B.bytes
  have hr := B.returns
  have hts0 := atoms_spec (ws := ql_Src_operandsAt :: qG) B.pre
  have hts := fun (w : Cond) (hw : w ∈ qG) => hts0 w (List.mem_cons_of_mem _ hw)
  have hown : s.vm.findClass "QuietSweep$Source" = some m.cls := findClass_of_methodNamed B.named
  have hlocks := B.notSynchronized
  subst hsz
  have hD := hD0.self (sz := s.heap.size)
  generalize hAe : va_A [(h0, .inr (5, [.ref (d0 0), .int (s0 1 0), .ref (d0 2), .int (s0 3 0), .ref (d0 4), .int (s0 5 0)])), (d0 0, .inl (cC, 60, .inl (s0 0))), (d0 2, .inl (cI, 60, .inl (s0 2))), (d0 4, .inl (cI, 6, .inl (s0 4)))] s.heap.size = A at hD hT ⊢
  have hA : ∀ q : Nat, s.heap.size ≤ q → A q := fun q h => by rw [← hAe]; exact Or.inr h
  have hS : va_S A s.heap s.heap [] := va_S.rf
  have hl := lv_entry ([.ref h0, .int a1, .ref (aK a2)]) (n := 7) (Nat.le_of_ble_eq_true rfl)
  rw [lg_entry_eq]
  generalize (lg_sl ([.ref h0, .int a1, .ref (aK a2)]) ++ List.replicate (7 - (lg_sl ([.ref h0, .int a1, .ref (aK a2)])).length) Slot.unset).toArray = ls at hl ⊢
  have hl : lv_has ls 7 [(0, .ref h0), (1, .int a1), (2, .ref (aK a2))] := hl
  have L9 : ∀ (n : Nat) (x1 : Int32) (x2 : Nat) (x3 : Int32) (x4 : Int32) (x5 : Int32) (s0 : QS) (H : Heap) (locs : List Loc) (ls : Array Slot), lv_has ls 7 [(0, .ref h0), (1, .int x1), (2, .ref (aK x2)), (3, .int x3), (4, .int x4), (5, .int x5)] → va_P (dC, dI) qCl [(h0, .inr (5, [.ref (d0 0), .int (s0 1 0), .ref (d0 2), .int (s0 3 0), .ref (d0 4), .int (s0 5 0)])), (d0 0, .inl (cC, 60, .inl (s0 0))), (d0 2, .inl (cI, 60, .inl (s0 2))), (d0 4, .inl (cI, 6, .inl (s0 4)))] H → va_D A [(h0, .inr (5, [.ref (d0 0), .int (s0 1 0), .ref (d0 2), .int (s0 3 0), .ref (d0 4), .int (s0 5 0)])), (d0 0, .inl (cC, 60, .inl (s0 0))), (d0 2, .inl (cI, 60, .inl (s0 2))), (d0 4, .inl (cI, 6, .inl (s0 4)))] → va_S A s.heap H locs → qfix (qf_Src_operandsAt_F9) n (x1, x2, x3, x4, x5, s0) = some o → W p l e (headSpec (ql_Src_operandsAt :: qG) ({ frames := 4, cells := 0, slots := 0, locals := 85 } : Room)).room s m ([.ref h0, .int a1, .ref (aK a2)] : List Value).toArray below meth c H locs 0 0 (MQ below (va_Qi (fun r (_ : Unit) => r = o) (fun _ t => va_P (dC, dI) qCl [(h0, .inr (5, [.ref (d0 0), .int (s0 1 0), .ref (d0 2), .int (s0 3 0), .ref (d0 4), .int (s0 5 0)])), (d0 0, .inl (cC, 60, .inl (s0 0))), (d0 2, .inl (cI, 60, .inl (s0 2))), (d0 4, .inl (cI, 6, .inl (s0 4)))] t.heap ∧ va_D A [(h0, .inr (5, [.ref (d0 0), .int (s0 1 0), .ref (d0 2), .int (s0 3 0), .ref (d0 4), .int (s0 5 0)])), (d0 0, .inl (cC, 60, .inl (s0 0))), (d0 2, .inl (cI, 60, .inl (s0 2))), (d0 4, .inl (cI, 6, .inl (s0 4)))]) A) ([.ref h0, .int a1, .ref (aK a2)] : List Value).toArray s 0 0 A) (F0 m 9 ls []) := by
    intro n
    induction n with
    | zero => intro x1 x2 x3 x4 x5 s0 H locs ls hl hP hD hS h; cases (show (none : Option (Int32)) = some o from h)
    | succ n9 ih9 =>
      intro x1 x2 x3 x4 x5 s0 H locs ls hl hP hD hS h
      have h : qf_Src_operandsAt_B9 (qfix (qf_Src_operandsAt_F9) n9) x1 x2 x3 x4 x5 s0 = some o := h
      have j69 : ∀ (x1 : Int32) (x2 : Nat) (x3 : Int32) (x4 : Int32) (x5 : Int32) (s0 : QS) (H : Heap) (locs : List Loc) (ls : Array Slot), lv_has ls 7 [(0, .ref h0), (1, .int x1), (2, .ref (aK x2)), (3, .int x3), (4, .int x4), (5, .int x5)] → va_P (dC, dI) qCl [(h0, .inr (5, [.ref (d0 0), .int (s0 1 0), .ref (d0 2), .int (s0 3 0), .ref (d0 4), .int (s0 5 0)])), (d0 0, .inl (cC, 60, .inl (s0 0))), (d0 2, .inl (cI, 60, .inl (s0 2))), (d0 4, .inl (cI, 6, .inl (s0 4)))] H → va_D A [(h0, .inr (5, [.ref (d0 0), .int (s0 1 0), .ref (d0 2), .int (s0 3 0), .ref (d0 4), .int (s0 5 0)])), (d0 0, .inl (cC, 60, .inl (s0 0))), (d0 2, .inl (cI, 60, .inl (s0 2))), (d0 4, .inl (cI, 6, .inl (s0 4)))] → va_S A s.heap H locs → qf_Src_operandsAt_j69 (qfix (qf_Src_operandsAt_F9) n9) x1 x2 x3 x4 x5 s0 = some o → W p l e (headSpec (ql_Src_operandsAt :: qG) ({ frames := 4, cells := 0, slots := 0, locals := 85 } : Room)).room s m ([.ref h0, .int a1, .ref (aK a2)] : List Value).toArray below meth c H locs 0 0 (MQ below (va_Qi (fun r (_ : Unit) => r = o) (fun _ t => va_P (dC, dI) qCl [(h0, .inr (5, [.ref (d0 0), .int (s0 1 0), .ref (d0 2), .int (s0 3 0), .ref (d0 4), .int (s0 5 0)])), (d0 0, .inl (cC, 60, .inl (s0 0))), (d0 2, .inl (cI, 60, .inl (s0 2))), (d0 4, .inl (cI, 6, .inl (s0 4)))] t.heap ∧ va_D A [(h0, .inr (5, [.ref (d0 0), .int (s0 1 0), .ref (d0 2), .int (s0 3 0), .ref (d0 4), .int (s0 5 0)])), (d0 0, .inl (cC, 60, .inl (s0 0))), (d0 2, .inl (cI, 60, .inl (s0 2))), (d0 4, .inl (cI, 6, .inl (s0 4)))]) A) ([.ref h0, .int a1, .ref (aK a2)] : List Value).toArray s 0 0 A) (F0 m 69 ls []) := by
        intro x1 x2 x3 x4 x5 s0 H locs ls hl hP hD hS h
        unfold qf_Src_operandsAt_j69 at h
        refine lv_iload_n hx hb qd_Src_operandsAt_69 rfl (lv_at hl 3 rfl) ?_
        refine lv_iload hx hb qd_Src_operandsAt_70 (lv_at hl 4 rfl) ?_
        refine lv_aload_n hx hb qd_Src_operandsAt_72 rfl (lv_at hl 0 rfl) ?_
        refine va_get (D := (dC, dI)) (ci := 5) (v := .ref (d0 0)) (C := "QuietSweep$Source") (T := qT_Src) (N := 6) hx hb hts qi_Src hown hK.1 hP 0 rfl rfl 0 (by decide) (hts _ qw_30) (fun _ h9 => h9) rfl qd_Src_operandsAt_73 ?_
        refine lv_iload_n hx hb qd_Src_operandsAt_76 rfl (lv_at hl 1 rfl) ?_
        refine lv_iload hx hb qd_Src_operandsAt_77 (lv_at hl 5 rfl) ?_
        refine lv_iadd hx hb qd_Src_operandsAt_79 ?_
        obtain ⟨hb3, h⟩ := qq_n h
        refine va_cald hx hb hK.1 hP 1 1 rfl rfl hb3 qd_Src_operandsAt_80 ?_
        obtain ⟨q4, hq4, h⟩ := qq_b h
        have hPc := hP.sub (ws' := []) [] rfl
        have hDc := hD.sub (ws' := []) [] (by decide) rfl
        have hFc := va_free (wc := []) hD hS hA [] rfl
        refine va_calli (va_runS (As := [.int ((s0 0) (Int32.toNatClampNeg (x1 + x5)))]) (rest := [.int x4, .int x3]) ⟨hx, hb, hml, hown, hts⟩ (qm_Src_numberOf l dC dI cI cC cB cM ((s0 0) (Int32.toNatClampNeg (x1 + x5))) _ q4 hq4) ⟨q_CB hts qw_216 qw_2 qw_218 qh_Src_numberOf rfl rfl ⟨by decide, by decide⟩, hts _ qw_217⟩ (q_preS [.int ((s0 0) (Int32.toNatClampNeg (x1 + x5)))] hK hPc hDc) rfl rfl hl.1 rfl (lv_room (Nat.le_of_ble_eq_true rfl)) qd_Src_operandsAt_81 ⟨Nat.zero_le _, Nat.zero_le _⟩) hS (fun q _ h => hFc q h) hFc (fun r u t H1 locs ht hvm hw hB hz1 hk1 hS => ?_)
        have hw : q4 = r := Eq.symm hw
        subst hw
        obtain ⟨hP1, hD1⟩ := hB
        rw [ht] at hP1
        obtain ⟨hP, hD⟩ := va_join (wr := [(h0, .inr (5, [.ref (d0 0), .int (s0 1 0), .ref (d0 2), .int (s0 3 0), .ref (d0 4), .int (s0 5 0)])), (d0 0, .inl (cC, 60, .inl (s0 0))), (d0 2, .inl (cI, 60, .inl (s0 2))), (d0 4, .inl (cI, 6, .inl (s0 4)))]) (w1 := []) hP hD [] [0, 1, 2, 3] rfl rfl (by decide) (by decide) hk1 hFc hP1 hD1
        have hP := hP.sub (ws' := [(h0, .inr (5, [.ref (d0 0), .int (s0 1 0), .ref (d0 2), .int (s0 3 0), .ref (d0 4), .int (s0 5 0)])), (d0 0, .inl (cC, 60, .inl (s0 0))), (d0 2, .inl (cI, 60, .inl (s0 2))), (d0 4, .inl (cI, 6, .inl (s0 4)))]) [0, 1, 2, 3] rfl
        have hD := hD.sub (ws' := [(h0, .inr (5, [.ref (d0 0), .int (s0 1 0), .ref (d0 2), .int (s0 3 0), .ref (d0 4), .int (s0 5 0)])), (d0 0, .inl (cC, 60, .inl (s0 0))), (d0 2, .inl (cI, 60, .inl (s0 2))), (d0 4, .inl (cI, 6, .inl (s0 4)))]) [0, 1, 2, 3] (by decide) rfl
        refine lv_imul hx hb qd_Src_operandsAt_84 ?_
        refine lv_iadd hx hb qd_Src_operandsAt_85 ?_
        refine lv_istore_n (lv' := [(3, .int (x3 + (x4 * q4))), (0, .ref h0), (1, .int x1), (2, .ref (aK x2)), (4, .int x4), (5, .int x5)]) hx hb qd_Src_operandsAt_86 rfl hl (by decide) rfl (fun ls hl => ?_)
        refine lv_iload hx hb qd_Src_operandsAt_87 (lv_at hl 4 rfl) ?_
        refine lv_iconst (v := 4) hx hb qd_Src_operandsAt_89 rfl ?_
        refine lv_imul hx hb qd_Src_operandsAt_90 ?_
        refine lv_istore (lv' := [(4, .int (x4 * 4)), (3, .int (x3 + (x4 * q4))), (0, .ref h0), (1, .int x1), (2, .ref (aK x2)), (5, .int x5)]) hx hb qd_Src_operandsAt_91 hl (by decide) rfl (fun ls hl => ?_)
        refine lv_iinc (k := 5) (v := (x5 + 1)) (lv' := [(5, .int (x5 + 1)), (4, .int (x4 * 4)), (3, .int (x3 + (x4 * q4))), (0, .ref h0), (1, .int x1), (2, .ref (aK x2))]) hx hb qd_Src_operandsAt_93 hl rfl (congrArg (fun z : Int32 => x5 + z) (show Int32.ofInt 1 = 1 by decide)) (by decide) rfl (fun ls hl => ?_)
        refine lv_goto hx hb qd_Src_operandsAt_96 (tgt := 9) (by decide) ?_
        exact ih9 x1 x2 (x3 + (x4 * q4)) (x4 * 4) (x5 + 1) s0 _ _ _ (lv_sub (l' := [(0, .ref h0), (1, .int x1), (2, .ref (aK x2)), (3, .int (x3 + (x4 * q4))), (4, .int (x4 * 4)), (5, .int (x5 + 1))]) hl [3, 4, 5, 2, 1, 0] rfl) hP hD hS h
      unfold qf_Src_operandsAt_B9 at h
      refine lv_iload hx hb qd_Src_operandsAt_9 (lv_at hl 5 rfl) ?_
      refine lv_aload_n hx hb qd_Src_operandsAt_11 rfl (lv_at hl 2 rfl) ?_
      obtain ⟨q1, hq1, h⟩ := qq_b h
      have hPc := hP.sub (ws' := []) [] rfl
      have hDc := hD.sub (ws' := []) [] (by decide) rfl
      have hFc := va_free (wc := []) hD hS hA [] rfl
      refine va_calli (va_runV (As := []) (rest := [.int x5]) ⟨hx, hb, hml, hown, hts⟩ (qm_Jstr_length l dC dI cI cC cB cM aK aV x2 q1 hq1 _) (q_CW hts qw_249 qw_250 qw_251 qw_9 qw_252 qh_Jstr_length rfl rfl ⟨by decide, by decide⟩) (q_preVT [] x2 (q_lt_len hq1) hK hPc hDc hT hS hFc) rfl rfl hl.1 rfl (lv_room (Nat.le_of_ble_eq_true rfl)) qd_Src_operandsAt_12 ⟨Nat.zero_le _, Nat.zero_le _⟩) hS (fun q _ h => hFc q h) hFc (fun r u t H1 locs ht hvm hw hB hz1 hk1 hS => ?_)
      have hw : q1 = r := Eq.symm hw
      subst hw
      obtain ⟨hP1, hD1⟩ := hB
      rw [ht] at hP1
      obtain ⟨hP, hD⟩ := va_join (wr := [(h0, .inr (5, [.ref (d0 0), .int (s0 1 0), .ref (d0 2), .int (s0 3 0), .ref (d0 4), .int (s0 5 0)])), (d0 0, .inl (cC, 60, .inl (s0 0))), (d0 2, .inl (cI, 60, .inl (s0 2))), (d0 4, .inl (cI, 6, .inl (s0 4)))]) (w1 := []) hP hD [] [0, 1, 2, 3] rfl rfl (by decide) (by decide) hk1 hFc hP1 hD1
      have hP := hP.sub (ws' := [(h0, .inr (5, [.ref (d0 0), .int (s0 1 0), .ref (d0 2), .int (s0 3 0), .ref (d0 4), .int (s0 5 0)])), (d0 0, .inl (cC, 60, .inl (s0 0))), (d0 2, .inl (cI, 60, .inl (s0 2))), (d0 4, .inl (cI, 6, .inl (s0 4)))]) [0, 1, 2, 3] rfl
      have hD := hD.sub (ws' := [(h0, .inr (5, [.ref (d0 0), .int (s0 1 0), .ref (d0 2), .int (s0 3 0), .ref (d0 4), .int (s0 5 0)])), (d0 0, .inl (cC, 60, .inl (s0 0))), (d0 2, .inl (cI, 60, .inl (s0 2))), (d0 4, .inl (cI, 6, .inl (s0 4)))]) [0, 1, 2, 3] (by decide) rfl
      refine lv_icmp_ge hx hb qd_Src_operandsAt_15 (tgt := 99) (by decide) (fun hc => ?_) (fun hc => ?_)
      · have h := qq_t hc h
        refine lv_iload_n hx hb qd_Src_operandsAt_99 rfl (lv_at hl 3 rfl) ?_
        obtain rfl := Option.some.inj h
        exact W.iret (v := x3) hx hb hr (fun t ht hW => ⟨⟨x3, (), rfl, rfl, by rw [ht]; exact hP, hD⟩, hS.F ht⟩) hS.2.2 qd_Src_operandsAt_100
      · have h := qq_f hc h
        refine lv_aload_n hx hb qd_Src_operandsAt_18 rfl (lv_at hl 2 rfl) ?_
        refine lv_iload hx hb qd_Src_operandsAt_19 (lv_at hl 5 rfl) ?_
        obtain ⟨q2, hq2, h⟩ := qq_b h
        have hPc := hP.sub (ws' := []) [] rfl
        have hDc := hD.sub (ws' := []) [] (by decide) rfl
        have hFc := va_free (wc := []) hD hS hA [] rfl
        refine va_calli (va_runV (As := [.int x5]) (rest := []) ⟨hx, hb, hml, hown, hts⟩ (qm_Jstr_charAt l dC dI cI cC cB cM aK aV x2 x5 q2 hq2 _) (q_CW hts qw_259 qw_260 qw_261 qw_9 qw_262 qh_Jstr_charAt rfl rfl ⟨by decide, by decide⟩) (q_preVT [.int x5] x2 (q_lt_ch hq2) hK hPc hDc hT hS hFc) rfl rfl hl.1 rfl (lv_room (Nat.le_of_ble_eq_true rfl)) qd_Src_operandsAt_21 ⟨Nat.zero_le _, Nat.zero_le _⟩) hS (fun q _ h => hFc q h) hFc (fun r u t H1 locs ht hvm hw hB hz1 hk1 hS => ?_)
        have hw : q2 = r := Eq.symm hw
        subst hw
        obtain ⟨hP1, hD1⟩ := hB
        rw [ht] at hP1
        obtain ⟨hP, hD⟩ := va_join (wr := [(h0, .inr (5, [.ref (d0 0), .int (s0 1 0), .ref (d0 2), .int (s0 3 0), .ref (d0 4), .int (s0 5 0)])), (d0 0, .inl (cC, 60, .inl (s0 0))), (d0 2, .inl (cI, 60, .inl (s0 2))), (d0 4, .inl (cI, 6, .inl (s0 4)))]) (w1 := []) hP hD [] [0, 1, 2, 3] rfl rfl (by decide) (by decide) hk1 hFc hP1 hD1
        have hP := hP.sub (ws' := [(h0, .inr (5, [.ref (d0 0), .int (s0 1 0), .ref (d0 2), .int (s0 3 0), .ref (d0 4), .int (s0 5 0)])), (d0 0, .inl (cC, 60, .inl (s0 0))), (d0 2, .inl (cI, 60, .inl (s0 2))), (d0 4, .inl (cI, 6, .inl (s0 4)))]) [0, 1, 2, 3] rfl
        have hD := hD.sub (ws' := [(h0, .inr (5, [.ref (d0 0), .int (s0 1 0), .ref (d0 2), .int (s0 3 0), .ref (d0 4), .int (s0 5 0)])), (d0 0, .inl (cC, 60, .inl (s0 0))), (d0 2, .inl (cI, 60, .inl (s0 2))), (d0 4, .inl (cI, 6, .inl (s0 4)))]) [0, 1, 2, 3] (by decide) rfl
        refine lv_istore (lv' := [(6, .int q2), (0, .ref h0), (1, .int x1), (2, .ref (aK x2)), (3, .int x3), (4, .int x4), (5, .int x5)]) hx hb qd_Src_operandsAt_24 hl (by decide) rfl (fun ls hl => ?_)
        refine lv_iload hx hb qd_Src_operandsAt_26 (lv_at hl 0 rfl) ?_
        refine lv_bipush (v := 48) hx hb qd_Src_operandsAt_28 (by decide) ?_
        refine lv_icmp_ne hx hb qd_Src_operandsAt_30 (tgt := 55) (by decide) (fun hc => ?_) (fun hc => ?_)
        · have h := qq_f hc h
          refine lv_iload hx hb qd_Src_operandsAt_55 (lv_at hl 0 rfl) ?_
          refine lv_bipush (v := 82) hx hb qd_Src_operandsAt_57 (by decide) ?_
          refine lv_icmp_eq hx hb qd_Src_operandsAt_59 (tgt := 69) (by decide) (fun hc => ?_) (fun hc => ?_)
          · have h := qq_t hc h
            exact j69 x1 x2 x3 x4 x5 s0 _ _ _ (lv_sub (l' := [(0, .ref h0), (1, .int x1), (2, .ref (aK x2)), (3, .int x3), (4, .int x4), (5, .int x5)]) hl [1, 2, 3, 4, 5, 6] rfl) hP hD hS h
          · have h := qq_f hc h
            refine lv_iload hx hb qd_Src_operandsAt_62 (lv_at hl 0 rfl) ?_
            refine lv_bipush (v := 73) hx hb qd_Src_operandsAt_64 (by decide) ?_
            refine lv_icmp_ne hx hb qd_Src_operandsAt_66 (tgt := 93) (by decide) (fun hc => ?_) (fun hc => ?_)
            · have h := qq_f hc h
              refine lv_iinc (k := 6) (v := (x5 + 1)) (lv' := [(5, .int (x5 + 1)), (6, .int q2), (0, .ref h0), (1, .int x1), (2, .ref (aK x2)), (3, .int x3), (4, .int x4)]) hx hb qd_Src_operandsAt_93 hl rfl (congrArg (fun z : Int32 => x5 + z) (show Int32.ofInt 1 = 1 by decide)) (by decide) rfl (fun ls hl => ?_)
              refine lv_goto hx hb qd_Src_operandsAt_96 (tgt := 9) (by decide) ?_
              exact ih9 x1 x2 x3 x4 (x5 + 1) s0 _ _ _ (lv_sub (l' := [(0, .ref h0), (1, .int x1), (2, .ref (aK x2)), (3, .int x3), (4, .int x4), (5, .int (x5 + 1))]) hl [2, 3, 4, 5, 6, 0] rfl) hP hD hS h
            · have h := qq_t hc h
              exact j69 x1 x2 x3 x4 x5 s0 _ _ _ (lv_sub (l' := [(0, .ref h0), (1, .int x1), (2, .ref (aK x2)), (3, .int x3), (4, .int x4), (5, .int x5)]) hl [1, 2, 3, 4, 5, 6] rfl) hP hD hS h
        · have h := qq_t hc h
          refine lv_iload_n hx hb qd_Src_operandsAt_33 rfl (lv_at hl 4 rfl) ?_
          refine lv_sipush (v := 256) hx hb qd_Src_operandsAt_34 (by decide) ?_
          refine lv_aload_n hx hb qd_Src_operandsAt_37 rfl (lv_at hl 1 rfl) ?_
          refine va_get (D := (dC, dI)) (ci := 5) (v := .ref (d0 0)) (C := "QuietSweep$Source") (T := qT_Src) (N := 6) hx hb hts qi_Src hown hK.1 hP 0 rfl rfl 0 (by decide) (hts _ qw_30) (fun _ h9 => h9) rfl qd_Src_operandsAt_38 ?_
          refine lv_iload_n hx hb qd_Src_operandsAt_41 rfl (lv_at hl 2 rfl) ?_
          refine lv_iload hx hb qd_Src_operandsAt_42 (lv_at hl 6 rfl) ?_
          refine lv_iadd hx hb qd_Src_operandsAt_44 ?_
          obtain ⟨hb5, h⟩ := qq_n h
          refine va_cald hx hb hK.1 hP 1 1 rfl rfl hb5 qd_Src_operandsAt_45 ?_
          obtain ⟨q6, hq6, h⟩ := qq_b h
          have hPc := hP.sub (ws' := []) [] rfl
          have hDc := hD.sub (ws' := []) [] (by decide) rfl
          have hFc := va_free (wc := []) hD hS hA [] rfl
          refine va_calli (va_runS (As := [.int ((s0 0) (Int32.toNatClampNeg (x1 + x5)))]) (rest := [.int 256, .int x3]) ⟨hx, hb, hml, hown, hts⟩ (qm_Src_numberOf l dC dI cI cC cB cM ((s0 0) (Int32.toNatClampNeg (x1 + x5))) _ q6 hq6) ⟨q_CB hts qw_216 qw_2 qw_218 qh_Src_numberOf rfl rfl ⟨by decide, by decide⟩, hts _ qw_217⟩ (q_preS [.int ((s0 0) (Int32.toNatClampNeg (x1 + x5)))] hK hPc hDc) rfl rfl hl.1 rfl (lv_room (Nat.le_of_ble_eq_true rfl)) qd_Src_operandsAt_46 ⟨Nat.zero_le _, Nat.zero_le _⟩) hS (fun q _ h => hFc q h) hFc (fun r u t H1 locs ht hvm hw hB hz1 hk1 hS => ?_)
          have hw : q6 = r := Eq.symm hw
          subst hw
          obtain ⟨hP1, hD1⟩ := hB
          rw [ht] at hP1
          obtain ⟨hP, hD⟩ := va_join (wr := [(h0, .inr (5, [.ref (d0 0), .int (s0 1 0), .ref (d0 2), .int (s0 3 0), .ref (d0 4), .int (s0 5 0)])), (d0 0, .inl (cC, 60, .inl (s0 0))), (d0 2, .inl (cI, 60, .inl (s0 2))), (d0 4, .inl (cI, 6, .inl (s0 4)))]) (w1 := []) hP hD [] [0, 1, 2, 3] rfl rfl (by decide) (by decide) hk1 hFc hP1 hD1
          have hP := hP.sub (ws' := [(h0, .inr (5, [.ref (d0 0), .int (s0 1 0), .ref (d0 2), .int (s0 3 0), .ref (d0 4), .int (s0 5 0)])), (d0 0, .inl (cC, 60, .inl (s0 0))), (d0 2, .inl (cI, 60, .inl (s0 2))), (d0 4, .inl (cI, 6, .inl (s0 4)))]) [0, 1, 2, 3] rfl
          have hD := hD.sub (ws' := [(h0, .inr (5, [.ref (d0 0), .int (s0 1 0), .ref (d0 2), .int (s0 3 0), .ref (d0 4), .int (s0 5 0)])), (d0 0, .inl (cC, 60, .inl (s0 0))), (d0 2, .inl (cI, 60, .inl (s0 2))), (d0 4, .inl (cI, 6, .inl (s0 4)))]) [0, 1, 2, 3] (by decide) rfl
          refine lv_imul hx hb qd_Src_operandsAt_49 ?_
          refine lv_iadd hx hb qd_Src_operandsAt_50 ?_
          refine lv_istore_n (lv' := [(3, .int (x3 + (256 * q6))), (6, .int q2), (0, .ref h0), (1, .int x1), (2, .ref (aK x2)), (4, .int x4), (5, .int x5)]) hx hb qd_Src_operandsAt_51 rfl hl (by decide) rfl (fun ls hl => ?_)
          refine lv_goto hx hb qd_Src_operandsAt_52 (tgt := 93) (by decide) ?_
          refine lv_iinc (k := 6) (v := (x5 + 1)) (lv' := [(5, .int (x5 + 1)), (3, .int (x3 + (256 * q6))), (6, .int q2), (0, .ref h0), (1, .int x1), (2, .ref (aK x2)), (4, .int x4)]) hx hb qd_Src_operandsAt_93 hl rfl (congrArg (fun z : Int32 => x5 + z) (show Int32.ofInt 1 = 1 by decide)) (by decide) rfl (fun ls hl => ?_)
          refine lv_goto hx hb qd_Src_operandsAt_96 (tgt := 9) (by decide) ?_
          exact ih9 x1 x2 (x3 + (256 * q6)) x4 (x5 + 1) s0 _ _ _ (lv_sub (l' := [(0, .ref h0), (1, .int x1), (2, .ref (aK x2)), (3, .int (x3 + (256 * q6))), (4, .int x4), (5, .int (x5 + 1))]) hl [3, 4, 5, 1, 6, 0] rfl) hP hD hS h
  unfold qf_Src_operandsAt at h
  refine lv_iconst (v := 0) hx hb qd_Src_operandsAt_0 rfl ?_
  refine lv_istore_n (lv' := [(3, .int 0), (0, .ref h0), (1, .int a1), (2, .ref (aK a2))]) hx hb qd_Src_operandsAt_1 rfl hl (by decide) rfl (fun ls hl => ?_)
  refine lv_bipush (v := 16) hx hb qd_Src_operandsAt_2 (by decide) ?_
  refine lv_istore (lv' := [(4, .int 16), (3, .int 0), (0, .ref h0), (1, .int a1), (2, .ref (aK a2))]) hx hb qd_Src_operandsAt_4 hl (by decide) rfl (fun ls hl => ?_)
  refine lv_iconst (v := 0) hx hb qd_Src_operandsAt_6 rfl ?_
  refine lv_istore (lv' := [(5, .int 0), (4, .int 16), (3, .int 0), (0, .ref h0), (1, .int a1), (2, .ref (aK a2))]) hx hb qd_Src_operandsAt_7 hl (by decide) rfl (fun ls hl => ?_)
  exact L9 qN a1 a2 0 16 0 s0 _ _ _ (lv_sub (l' := [(0, .ref h0), (1, .int a1), (2, .ref (aK a2)), (3, .int 0), (4, .int 16), (5, .int 0)]) hl [3, 4, 5, 2, 1, 0] rfl) hP hD hS h
/-! QuietSweep$Source.translateAt(I)I -/
def qf_Src_translateAt_B37 (k37 : (Int32 × Int32 × QS) → Option (Int32 × QS)) (x1 : Int32) (x2 : Int32) (s0 : QS) : Option (Int32 × QS) := (if 15 ≤ x2 then (some (0, s0)) else ((qf_Src_shapeOf x2).bind fun q3 => ((qf_Src_hasShape x1 q3 s0).bind fun q4 => (if q4 = 0 then (k37 (x1, (x2 + 1), s0)) else ((qf_Src_operandsAt x1 q3 s0).bind fun q5 => ((qf_Src_emit (x2 + q5) s0).bind fun q6 => ((qf_Jstr_length q3).bind fun q7 => (some (q7, q6)))))))))
def qf_Src_translateAt_F37 (k37 : (Int32 × Int32 × QS) → Option (Int32 × QS)) (a : Int32 × Int32 × QS) : Option (Int32 × QS) := qf_Src_translateAt_B37 k37 a.1 a.2.1 a.2.2
def qf_Src_translateAt (a1 : Int32) (s0 : QS) : Option (Int32 × QS) := (if (a1 < 0 ∨ 60 ≤ Int32.toNatClampNeg a1) then none else (if ((s0 0) (Int32.toNatClampNeg a1)) = 40 then ((qf_Src_openLoop (a1 + 1) s0).bind fun q9 => (some (q9.1, q9.2))) else (if (a1 < 0 ∨ 60 ≤ Int32.toNatClampNeg a1) then none else (if ((s0 0) (Int32.toNatClampNeg a1)) = 41 then ((qf_Src_closeLoop s0).bind fun q8 => (some (q8.1, q8.2))) else (qfix (qf_Src_translateAt_F37) qN (a1, 0, s0))))))
set_option maxHeartbeats 4000000 in
set_option maxRecDepth 100000 in
theorem qm_Src_translateAt (l : Launch) (dC : Nat → ClassId) (dI : Nat → Nat → Nat) (cI cC cB cM : ClassId) (aK aV : Nat → Nat) (h0 : Nat) (d0 : Nat → Nat) (s0 : QS) (a1 : Int32) (sz : Nat) (o : Int32 × QS) (h : qf_Src_translateAt a1 s0 = some o) : Met l qy_Src_translateAt (ql_Src_translateAt :: qG) ({ frames := 5, cells := 0, slots := 0, locals := 111 } : Room) (qPcS dC dI cI cC cB cM aK aV [.ref h0, .int a1] sz [(h0, .inr (5, [.ref (d0 0), .int (s0 1 0), .ref (d0 2), .int (s0 3 0), .ref (d0 4), .int (s0 5 0)])), (d0 0, .inl (cC, 60, .inl (s0 0))), (d0 2, .inl (cI, 60, .inl (s0 2))), (d0 4, .inl (cI, 6, .inl (s0 4)))]) (va_Qi (fun r (_ : Unit) => r = o.1) (fun _ t => va_P (dC, dI) qCl [(h0, .inr (5, [.ref (d0 0), .int (o.2 1 0), .ref (d0 2), .int (o.2 3 0), .ref (d0 4), .int (o.2 5 0)])), (d0 0, .inl (cC, 60, .inl (o.2 0))), (d0 2, .inl (cI, 60, .inl (o.2 2))), (d0 4, .inl (cI, 6, .inl (o.2 4)))] t.heap ∧ va_D (va_A [(h0, .inr (5, [.ref (d0 0), .int (s0 1 0), .ref (d0 2), .int (s0 3 0), .ref (d0 4), .int (s0 5 0)])), (d0 0, .inl (cC, 60, .inl (s0 0))), (d0 2, .inl (cI, 60, .inl (s0 2))), (d0 4, .inl (cI, 6, .inl (s0 4)))] sz) [(h0, .inr (5, [.ref (d0 0), .int (o.2 1 0), .ref (d0 2), .int (o.2 3 0), .ref (d0 4), .int (o.2 5 0)])), (d0 0, .inl (cC, 60, .inl (o.2 0))), (d0 2, .inl (cI, 60, .inl (o.2 2))), (d0 4, .inl (cI, 6, .inl (o.2 4)))]) (va_A [(h0, .inr (5, [.ref (d0 0), .int (s0 1 0), .ref (d0 2), .int (s0 3 0), .ref (d0 4), .int (s0 5 0)])), (d0 0, .inl (cC, 60, .inl (s0 0))), (d0 2, .inl (cI, 60, .inl (s0 2))), (d0 4, .inl (cI, 6, .inl (s0 4)))] sz)) 0 0 (va_A [(h0, .inr (5, [.ref (d0 0), .int (s0 1 0), .ref (d0 2), .int (s0 3 0), .ref (d0 4), .int (s0 5 0)])), (d0 0, .inl (cC, 60, .inl (s0 0))), (d0 2, .inl (cI, 60, .inl (s0 2))), (d0 4, .inl (cI, 6, .inl (s0 4)))] sz) := by
  refine Met.ofW (cc := qc_Src_translateAt) (maxL := 4) (ret := (some .int)) (by decide) rfl ?_
  intro p e s m args below meth c s₁ B hml hv
  obtain ⟨rfl, hsz, hP, hK, hD0, hT⟩ := hv
  have hx := B.exec
  have hb := B.bytes
  have hr := B.returns
  have hts0 := atoms_spec (ws := ql_Src_translateAt :: qG) B.pre
  have hts := fun (w : Cond) (hw : w ∈ qG) => hts0 w (List.mem_cons_of_mem _ hw)
  have hown : s.vm.findClass "QuietSweep$Source" = some m.cls := findClass_of_methodNamed B.named
  have hlocks := B.notSynchronized
  subst hsz
  have hD := hD0.self (sz := s.heap.size)
  generalize hAe : va_A [(h0, .inr (5, [.ref (d0 0), .int (s0 1 0), .ref (d0 2), .int (s0 3 0), .ref (d0 4), .int (s0 5 0)])), (d0 0, .inl (cC, 60, .inl (s0 0))), (d0 2, .inl (cI, 60, .inl (s0 2))), (d0 4, .inl (cI, 6, .inl (s0 4)))] s.heap.size = A at hD hT ⊢
  have hA : ∀ q : Nat, s.heap.size ≤ q → A q := fun q h => by rw [← hAe]; exact Or.inr h
  have hS : va_S A s.heap s.heap [] := va_S.rf
  have hl := lv_entry ([.ref h0, .int a1]) (n := 4) (Nat.le_of_ble_eq_true rfl)
  rw [lg_entry_eq]
  generalize (lg_sl ([.ref h0, .int a1]) ++ List.replicate (4 - (lg_sl ([.ref h0, .int a1])).length) Slot.unset).toArray = ls at hl ⊢
  have hl : lv_has ls 4 [(0, .ref h0), (1, .int a1)] := hl
  have L37 : ∀ (n : Nat) (x1 : Int32) (x2 : Int32) (s0 : QS) (H : Heap) (locs : List Loc) (ls : Array Slot), lv_has ls 4 [(0, .ref h0), (1, .int x1), (2, .int x2)] → va_P (dC, dI) qCl [(h0, .inr (5, [.ref (d0 0), .int (s0 1 0), .ref (d0 2), .int (s0 3 0), .ref (d0 4), .int (s0 5 0)])), (d0 0, .inl (cC, 60, .inl (s0 0))), (d0 2, .inl (cI, 60, .inl (s0 2))), (d0 4, .inl (cI, 6, .inl (s0 4)))] H → va_D A [(h0, .inr (5, [.ref (d0 0), .int (s0 1 0), .ref (d0 2), .int (s0 3 0), .ref (d0 4), .int (s0 5 0)])), (d0 0, .inl (cC, 60, .inl (s0 0))), (d0 2, .inl (cI, 60, .inl (s0 2))), (d0 4, .inl (cI, 6, .inl (s0 4)))] → va_S A s.heap H locs → qfix (qf_Src_translateAt_F37) n (x1, x2, s0) = some o → W p l e (headSpec (ql_Src_translateAt :: qG) ({ frames := 5, cells := 0, slots := 0, locals := 111 } : Room)).room s m ([.ref h0, .int a1] : List Value).toArray below meth c H locs 0 0 (MQ below (va_Qi (fun r (_ : Unit) => r = o.1) (fun _ t => va_P (dC, dI) qCl [(h0, .inr (5, [.ref (d0 0), .int (o.2 1 0), .ref (d0 2), .int (o.2 3 0), .ref (d0 4), .int (o.2 5 0)])), (d0 0, .inl (cC, 60, .inl (o.2 0))), (d0 2, .inl (cI, 60, .inl (o.2 2))), (d0 4, .inl (cI, 6, .inl (o.2 4)))] t.heap ∧ va_D A [(h0, .inr (5, [.ref (d0 0), .int (o.2 1 0), .ref (d0 2), .int (o.2 3 0), .ref (d0 4), .int (o.2 5 0)])), (d0 0, .inl (cC, 60, .inl (o.2 0))), (d0 2, .inl (cI, 60, .inl (o.2 2))), (d0 4, .inl (cI, 6, .inl (o.2 4)))]) A) ([.ref h0, .int a1] : List Value).toArray s 0 0 A) (F0 m 37 ls []) := by
    intro n
    induction n with
    | zero => intro x1 x2 s0 H locs ls hl hP hD hS h; cases (show (none : Option (Int32 × QS)) = some o from h)
    | succ n37 ih37 =>
      intro x1 x2 s0 H locs ls hl hP hD hS h
      have h : qf_Src_translateAt_B37 (qfix (qf_Src_translateAt_F37) n37) x1 x2 s0 = some o := h
      unfold qf_Src_translateAt_B37 at h
      refine lv_iload_n hx hb qd_Src_translateAt_37 rfl (lv_at hl 2 rfl) ?_
      refine lv_bipush (v := 15) hx hb qd_Src_translateAt_38 (by decide) ?_
      refine lv_icmp_ge hx hb qd_Src_translateAt_40 (tgt := 80) (by decide) (fun hc => ?_) (fun hc => ?_)
      · have h := qq_t hc h
        refine lv_iconst (v := 0) hx hb qd_Src_translateAt_80 rfl ?_
        obtain rfl := Option.some.inj h
        exact W.iret (v := 0) hx hb hr (fun t ht hW => ⟨⟨0, (), rfl, rfl, by rw [ht]; exact hP, hD⟩, hS.F ht⟩) hS.2.2 qd_Src_translateAt_81
      · have h := qq_f hc h
        refine lv_iload_n hx hb qd_Src_translateAt_43 rfl (lv_at hl 2 rfl) ?_
        obtain ⟨q3, hq3, h⟩ := qq_b h
        have hPc := hP.sub (ws' := []) [] rfl
        have hDc := hD.sub (ws' := []) [] (by decide) rfl
        have hFc := va_free (wc := []) hD hS hA [] rfl
        refine va_callr (va_runS (As := [.int x2]) (rest := []) ⟨hx, hb, hml, hown, hts⟩ (qm_Src_shapeOf l dC dI cI cC cB cM aK aV x2 _ q3 hq3) ⟨q_CB hts qw_227 qw_2 qw_229 qh_Src_shapeOf rfl rfl ⟨by decide, by decide⟩, hts _ qw_228⟩ (q_preSS [.int x2] hK hPc hDc hT hS hFc) rfl rfl hl.1 rfl (lv_room (Nat.le_of_ble_eq_true rfl)) qd_Src_translateAt_44 ⟨Nat.zero_le _, Nat.zero_le _⟩) hS (fun q _ h => hFc q h) hFc (fun u ra t H1 locs ht hvm hw hB hz1 hk1 hS => ?_)
        obtain ⟨hw, hB⟩ := hB
        subst hw
        obtain ⟨hP1, hD1⟩ := hB
        rw [ht] at hP1
        obtain ⟨hP, hD⟩ := va_join (wr := [(h0, .inr (5, [.ref (d0 0), .int (s0 1 0), .ref (d0 2), .int (s0 3 0), .ref (d0 4), .int (s0 5 0)])), (d0 0, .inl (cC, 60, .inl (s0 0))), (d0 2, .inl (cI, 60, .inl (s0 2))), (d0 4, .inl (cI, 6, .inl (s0 4)))]) (w1 := []) hP hD [] [0, 1, 2, 3] rfl rfl (by decide) (by decide) hk1 hFc hP1 hD1
        have hP := hP.sub (ws' := [(h0, .inr (5, [.ref (d0 0), .int (s0 1 0), .ref (d0 2), .int (s0 3 0), .ref (d0 4), .int (s0 5 0)])), (d0 0, .inl (cC, 60, .inl (s0 0))), (d0 2, .inl (cI, 60, .inl (s0 2))), (d0 4, .inl (cI, 6, .inl (s0 4)))]) [0, 1, 2, 3] rfl
        have hD := hD.sub (ws' := [(h0, .inr (5, [.ref (d0 0), .int (s0 1 0), .ref (d0 2), .int (s0 3 0), .ref (d0 4), .int (s0 5 0)])), (d0 0, .inl (cC, 60, .inl (s0 0))), (d0 2, .inl (cI, 60, .inl (s0 2))), (d0 4, .inl (cI, 6, .inl (s0 4)))]) [0, 1, 2, 3] (by decide) rfl
        refine lv_astore_n (lv' := [(3, .ref (aK q3)), (0, .ref h0), (1, .int x1), (2, .int x2)]) hx hb qd_Src_translateAt_47 rfl hl (by decide) rfl (fun ls hl => ?_)
        refine lv_aload_n hx hb qd_Src_translateAt_48 rfl (lv_at hl 1 rfl) ?_
        refine lv_iload_n hx hb qd_Src_translateAt_49 rfl (lv_at hl 2 rfl) ?_
        refine lv_aload_n hx hb qd_Src_translateAt_50 rfl (lv_at hl 0 rfl) ?_
        obtain ⟨q4, hq4, h⟩ := qq_b h
        have hPc := hP.sub (ws' := [(h0, .inr (5, [.ref (d0 0), .int (s0 1 0), .ref (d0 2), .int (s0 3 0), .ref (d0 4), .int (s0 5 0)])), (d0 0, .inl (cC, 60, .inl (s0 0))), (d0 2, .inl (cI, 60, .inl (s0 2))), (d0 4, .inl (cI, 6, .inl (s0 4)))]) [0, 1, 2, 3] rfl
        have hDc := hD.sub (ws' := [(h0, .inr (5, [.ref (d0 0), .int (s0 1 0), .ref (d0 2), .int (s0 3 0), .ref (d0 4), .int (s0 5 0)])), (d0 0, .inl (cC, 60, .inl (s0 0))), (d0 2, .inl (cI, 60, .inl (s0 2))), (d0 4, .inl (cI, 6, .inl (s0 4)))]) [0, 1, 2, 3] (by decide) rfl
        have hFc := va_free (wc := [(h0, .inr (5, [.ref (d0 0), .int (s0 1 0), .ref (d0 2), .int (s0 3 0), .ref (d0 4), .int (s0 5 0)])), (d0 0, .inl (cC, 60, .inl (s0 0))), (d0 2, .inl (cI, 60, .inl (s0 2))), (d0 4, .inl (cI, 6, .inl (s0 4)))]) hD hS hA [0, 1, 2, 3] rfl
        refine va_calli (va_runV (As := [.int x1, .ref (aK q3)]) (rest := []) ⟨hx, hb, hml, hown, hts⟩ (qm_Src_hasShape l dC dI cI cC cB cM aK aV h0 d0 s0 x1 q3 _ q4 hq4) (q_CW hts qw_245 qw_247 qv_5 qw_2 qw_248 qh_Src_hasShape rfl rfl ⟨by decide, by decide⟩) (q_preVS [.int x1, .ref (aK q3)] 0 rfl rfl hK hPc hDc hT hS hFc) rfl rfl hl.1 rfl (lv_room (Nat.le_of_ble_eq_true rfl)) qd_Src_translateAt_51 ⟨Nat.zero_le _, Nat.zero_le _⟩) hS (fun q _ h => hFc q h) hFc (fun r u t H1 locs ht hvm hw hB hz1 hk1 hS => ?_)
        have hw : q4 = r := Eq.symm hw
        subst hw
        obtain ⟨hP1, hD1⟩ := hB
        rw [ht] at hP1
        obtain ⟨hP, hD⟩ := va_join (wr := []) (w1 := [(h0, .inr (5, [.ref (d0 0), .int (s0 1 0), .ref (d0 2), .int (s0 3 0), .ref (d0 4), .int (s0 5 0)])), (d0 0, .inl (cC, 60, .inl (s0 0))), (d0 2, .inl (cI, 60, .inl (s0 2))), (d0 4, .inl (cI, 6, .inl (s0 4)))]) hP hD [0, 1, 2, 3] [] rfl rfl (by decide) (by decide) hk1 hFc hP1 hD1
        have hP := hP.sub (ws' := [(h0, .inr (5, [.ref (d0 0), .int (s0 1 0), .ref (d0 2), .int (s0 3 0), .ref (d0 4), .int (s0 5 0)])), (d0 0, .inl (cC, 60, .inl (s0 0))), (d0 2, .inl (cI, 60, .inl (s0 2))), (d0 4, .inl (cI, 6, .inl (s0 4)))]) [0, 1, 2, 3] rfl
        have hD := hD.sub (ws' := [(h0, .inr (5, [.ref (d0 0), .int (s0 1 0), .ref (d0 2), .int (s0 3 0), .ref (d0 4), .int (s0 5 0)])), (d0 0, .inl (cC, 60, .inl (s0 0))), (d0 2, .inl (cI, 60, .inl (s0 2))), (d0 4, .inl (cI, 6, .inl (s0 4)))]) [0, 1, 2, 3] (by decide) rfl
        refine lv_if_eq hx hb qd_Src_translateAt_54 (tgt := 74) (by decide) (fun hc => ?_) (fun hc => ?_)
        · have h := qq_t hc h
          refine lv_iinc (k := 3) (v := (x2 + 1)) (lv' := [(2, .int (x2 + 1)), (3, .ref (aK q3)), (0, .ref h0), (1, .int x1)]) hx hb qd_Src_translateAt_74 hl rfl (congrArg (fun z : Int32 => x2 + z) (show Int32.ofInt 1 = 1 by decide)) (by decide) rfl (fun ls hl => ?_)
          refine lv_goto hx hb qd_Src_translateAt_77 (tgt := 37) (by decide) ?_
          exact ih37 x1 (x2 + 1) s0 _ _ _ (lv_sub (l' := [(0, .ref h0), (1, .int x1), (2, .int (x2 + 1))]) hl [2, 3, 0] rfl) hP hD hS h
        · have h := qq_f hc h
          refine lv_aload_n hx hb qd_Src_translateAt_57 rfl (lv_at hl 1 rfl) ?_
          refine lv_iload_n hx hb qd_Src_translateAt_58 rfl (lv_at hl 3 rfl) ?_
          refine lv_aload_n hx hb qd_Src_translateAt_59 rfl (lv_at hl 1 rfl) ?_
          refine lv_iload_n hx hb qd_Src_translateAt_60 rfl (lv_at hl 2 rfl) ?_
          refine lv_aload_n hx hb qd_Src_translateAt_61 rfl (lv_at hl 0 rfl) ?_
          obtain ⟨q5, hq5, h⟩ := qq_b h
          have hPc := hP.sub (ws' := [(h0, .inr (5, [.ref (d0 0), .int (s0 1 0), .ref (d0 2), .int (s0 3 0), .ref (d0 4), .int (s0 5 0)])), (d0 0, .inl (cC, 60, .inl (s0 0))), (d0 2, .inl (cI, 60, .inl (s0 2))), (d0 4, .inl (cI, 6, .inl (s0 4)))]) [0, 1, 2, 3] rfl
          have hDc := hD.sub (ws' := [(h0, .inr (5, [.ref (d0 0), .int (s0 1 0), .ref (d0 2), .int (s0 3 0), .ref (d0 4), .int (s0 5 0)])), (d0 0, .inl (cC, 60, .inl (s0 0))), (d0 2, .inl (cI, 60, .inl (s0 2))), (d0 4, .inl (cI, 6, .inl (s0 4)))]) [0, 1, 2, 3] (by decide) rfl
          have hFc := va_free (wc := [(h0, .inr (5, [.ref (d0 0), .int (s0 1 0), .ref (d0 2), .int (s0 3 0), .ref (d0 4), .int (s0 5 0)])), (d0 0, .inl (cC, 60, .inl (s0 0))), (d0 2, .inl (cI, 60, .inl (s0 2))), (d0 4, .inl (cI, 6, .inl (s0 4)))]) hD hS hA [0, 1, 2, 3] rfl
          refine va_calli (va_runV (As := [.int x1, .ref (aK q3)]) (rest := [.int x2, .ref h0]) ⟨hx, hb, hml, hown, hts⟩ (qm_Src_operandsAt l dC dI cI cC cB cM aK aV h0 d0 s0 x1 q3 _ q5 hq5) (q_CW hts qw_297 qw_299 qv_6 qw_2 qw_300 qh_Src_operandsAt rfl rfl ⟨by decide, by decide⟩) (q_preVS [.int x1, .ref (aK q3)] 0 rfl rfl hK hPc hDc hT hS hFc) rfl rfl hl.1 rfl (lv_room (Nat.le_of_ble_eq_true rfl)) qd_Src_translateAt_62 ⟨Nat.zero_le _, Nat.zero_le _⟩) hS (fun q _ h => hFc q h) hFc (fun r u t H1 locs ht hvm hw hB hz1 hk1 hS => ?_)
          have hw : q5 = r := Eq.symm hw
          subst hw
          obtain ⟨hP1, hD1⟩ := hB
          rw [ht] at hP1
          obtain ⟨hP, hD⟩ := va_join (wr := []) (w1 := [(h0, .inr (5, [.ref (d0 0), .int (s0 1 0), .ref (d0 2), .int (s0 3 0), .ref (d0 4), .int (s0 5 0)])), (d0 0, .inl (cC, 60, .inl (s0 0))), (d0 2, .inl (cI, 60, .inl (s0 2))), (d0 4, .inl (cI, 6, .inl (s0 4)))]) hP hD [0, 1, 2, 3] [] rfl rfl (by decide) (by decide) hk1 hFc hP1 hD1
          have hP := hP.sub (ws' := [(h0, .inr (5, [.ref (d0 0), .int (s0 1 0), .ref (d0 2), .int (s0 3 0), .ref (d0 4), .int (s0 5 0)])), (d0 0, .inl (cC, 60, .inl (s0 0))), (d0 2, .inl (cI, 60, .inl (s0 2))), (d0 4, .inl (cI, 6, .inl (s0 4)))]) [0, 1, 2, 3] rfl
          have hD := hD.sub (ws' := [(h0, .inr (5, [.ref (d0 0), .int (s0 1 0), .ref (d0 2), .int (s0 3 0), .ref (d0 4), .int (s0 5 0)])), (d0 0, .inl (cC, 60, .inl (s0 0))), (d0 2, .inl (cI, 60, .inl (s0 2))), (d0 4, .inl (cI, 6, .inl (s0 4)))]) [0, 1, 2, 3] (by decide) rfl
          refine lv_iadd hx hb qd_Src_translateAt_65 ?_
          obtain ⟨q6, hq6, h⟩ := qq_b h
          have hPc := hP.sub (ws' := [(h0, .inr (5, [.ref (d0 0), .int (s0 1 0), .ref (d0 2), .int (s0 3 0), .ref (d0 4), .int (s0 5 0)])), (d0 0, .inl (cC, 60, .inl (s0 0))), (d0 2, .inl (cI, 60, .inl (s0 2))), (d0 4, .inl (cI, 6, .inl (s0 4)))]) [0, 1, 2, 3] rfl
          have hDc := hD.sub (ws' := [(h0, .inr (5, [.ref (d0 0), .int (s0 1 0), .ref (d0 2), .int (s0 3 0), .ref (d0 4), .int (s0 5 0)])), (d0 0, .inl (cC, 60, .inl (s0 0))), (d0 2, .inl (cI, 60, .inl (s0 2))), (d0 4, .inl (cI, 6, .inl (s0 4)))]) [0, 1, 2, 3] (by decide) rfl
          have hFc := va_free (wc := [(h0, .inr (5, [.ref (d0 0), .int (s0 1 0), .ref (d0 2), .int (s0 3 0), .ref (d0 4), .int (s0 5 0)])), (d0 0, .inl (cC, 60, .inl (s0 0))), (d0 2, .inl (cI, 60, .inl (s0 2))), (d0 4, .inl (cI, 6, .inl (s0 4)))]) hD hS hA [0, 1, 2, 3] rfl
          refine va_callv (va_runV (As := [.int (x2 + q5)]) (rest := []) ⟨hx, hb, hml, hown, hts⟩ (qm_Src_emit l dC dI cI cC cB cM h0 d0 s0 (x2 + q5) _ q6 hq6) (q_CW hts qw_219 qw_221 qv_3 qw_2 qw_222 qh_Src_emit rfl rfl ⟨by decide, by decide⟩) (q_preV [.int (x2 + q5)] 0 rfl rfl hK hPc hDc) rfl rfl hl.1 rfl (lv_room (Nat.le_of_ble_eq_true rfl)) qd_Src_translateAt_66 ⟨Nat.zero_le _, Nat.zero_le _⟩) hS (fun q _ h => hFc q h) hFc (fun u t H1 locs ht hvm hw hB hz1 hk1 hS => ?_)
          obtain ⟨hP1, hD1⟩ := hB
          rw [ht] at hP1
          obtain ⟨hP, hD⟩ := va_join (wr := []) (w1 := [(h0, .inr (5, [.ref (d0 0), .int (q6 1 0), .ref (d0 2), .int (q6 3 0), .ref (d0 4), .int (q6 5 0)])), (d0 0, .inl (cC, 60, .inl (q6 0))), (d0 2, .inl (cI, 60, .inl (q6 2))), (d0 4, .inl (cI, 6, .inl (q6 4)))]) hP hD [0, 1, 2, 3] [] rfl rfl (by decide) (by decide) hk1 hFc hP1 hD1
          have hP := hP.sub (ws' := [(h0, .inr (5, [.ref (d0 0), .int (q6 1 0), .ref (d0 2), .int (q6 3 0), .ref (d0 4), .int (q6 5 0)])), (d0 0, .inl (cC, 60, .inl (q6 0))), (d0 2, .inl (cI, 60, .inl (q6 2))), (d0 4, .inl (cI, 6, .inl (q6 4)))]) [0, 1, 2, 3] rfl
          have hD := hD.sub (ws' := [(h0, .inr (5, [.ref (d0 0), .int (q6 1 0), .ref (d0 2), .int (q6 3 0), .ref (d0 4), .int (q6 5 0)])), (d0 0, .inl (cC, 60, .inl (q6 0))), (d0 2, .inl (cI, 60, .inl (q6 2))), (d0 4, .inl (cI, 6, .inl (q6 4)))]) [0, 1, 2, 3] (by decide) rfl
          refine lv_aload_n hx hb qd_Src_translateAt_69 rfl (lv_at hl 0 rfl) ?_
          obtain ⟨q7, hq7, h⟩ := qq_b h
          have hPc := hP.sub (ws' := []) [] rfl
          have hDc := hD.sub (ws' := []) [] (by decide) rfl
          have hFc := va_free (wc := []) hD hS hA [] rfl
          refine va_calli (va_runV (As := []) (rest := []) ⟨hx, hb, hml, hown, hts⟩ (qm_Jstr_length l dC dI cI cC cB cM aK aV q3 q7 hq7 _) (q_CW hts qw_249 qw_250 qw_251 qw_9 qw_252 qh_Jstr_length rfl rfl ⟨by decide, by decide⟩) (q_preVT [] q3 (q_lt_len hq7) hK hPc hDc hT hS hFc) rfl rfl hl.1 rfl (lv_room (Nat.le_of_ble_eq_true rfl)) qd_Src_translateAt_70 ⟨Nat.zero_le _, Nat.zero_le _⟩) hS (fun q _ h => hFc q h) hFc (fun r u t H1 locs ht hvm hw hB hz1 hk1 hS => ?_)
          have hw : q7 = r := Eq.symm hw
          subst hw
          obtain ⟨hP1, hD1⟩ := hB
          rw [ht] at hP1
          obtain ⟨hP, hD⟩ := va_join (wr := [(h0, .inr (5, [.ref (d0 0), .int (q6 1 0), .ref (d0 2), .int (q6 3 0), .ref (d0 4), .int (q6 5 0)])), (d0 0, .inl (cC, 60, .inl (q6 0))), (d0 2, .inl (cI, 60, .inl (q6 2))), (d0 4, .inl (cI, 6, .inl (q6 4)))]) (w1 := []) hP hD [] [0, 1, 2, 3] rfl rfl (by decide) (by decide) hk1 hFc hP1 hD1
          have hP := hP.sub (ws' := [(h0, .inr (5, [.ref (d0 0), .int (q6 1 0), .ref (d0 2), .int (q6 3 0), .ref (d0 4), .int (q6 5 0)])), (d0 0, .inl (cC, 60, .inl (q6 0))), (d0 2, .inl (cI, 60, .inl (q6 2))), (d0 4, .inl (cI, 6, .inl (q6 4)))]) [0, 1, 2, 3] rfl
          have hD := hD.sub (ws' := [(h0, .inr (5, [.ref (d0 0), .int (q6 1 0), .ref (d0 2), .int (q6 3 0), .ref (d0 4), .int (q6 5 0)])), (d0 0, .inl (cC, 60, .inl (q6 0))), (d0 2, .inl (cI, 60, .inl (q6 2))), (d0 4, .inl (cI, 6, .inl (q6 4)))]) [0, 1, 2, 3] (by decide) rfl
          obtain rfl := Option.some.inj h
          exact W.iret (v := q7) hx hb hr (fun t ht hW => ⟨⟨q7, (), rfl, rfl, by rw [ht]; exact hP, hD⟩, hS.F ht⟩) hS.2.2 qd_Src_translateAt_73
  unfold qf_Src_translateAt at h
  refine lv_aload_n hx hb qd_Src_translateAt_0 rfl (lv_at hl 0 rfl) ?_
  refine va_get (D := (dC, dI)) (ci := 5) (v := .ref (d0 0)) (C := "QuietSweep$Source") (T := qT_Src) (N := 6) hx hb hts qi_Src hown hK.1 hP 0 rfl rfl 0 (by decide) (hts _ qw_30) (fun _ h9 => h9) rfl qd_Src_translateAt_1 ?_
  refine lv_iload_n hx hb qd_Src_translateAt_4 rfl (lv_at hl 1 rfl) ?_
  obtain ⟨hb1, h⟩ := qq_n h
  refine va_cald hx hb hK.1 hP 1 1 rfl rfl hb1 qd_Src_translateAt_5 ?_
  refine lv_bipush (v := 40) hx hb qd_Src_translateAt_6 (by decide) ?_
  refine lv_icmp_ne hx hb qd_Src_translateAt_8 (tgt := 19) (by decide) (fun hc => ?_) (fun hc => ?_)
  · have h := qq_f hc h
    refine lv_aload_n hx hb qd_Src_translateAt_19 rfl (lv_at hl 0 rfl) ?_
    refine va_get (D := (dC, dI)) (ci := 5) (v := .ref (d0 0)) (C := "QuietSweep$Source") (T := qT_Src) (N := 6) hx hb hts qi_Src hown hK.1 hP 0 rfl rfl 0 (by decide) (hts _ qw_30) (fun _ h9 => h9) rfl qd_Src_translateAt_20 ?_
    refine lv_iload_n hx hb qd_Src_translateAt_23 rfl (lv_at hl 1 rfl) ?_
    obtain ⟨hb2, h⟩ := qq_n h
    refine va_cald hx hb hK.1 hP 1 1 rfl rfl hb2 qd_Src_translateAt_24 ?_
    refine lv_bipush (v := 41) hx hb qd_Src_translateAt_25 (by decide) ?_
    refine lv_icmp_ne hx hb qd_Src_translateAt_27 (tgt := 35) (by decide) (fun hc => ?_) (fun hc => ?_)
    · have h := qq_f hc h
      refine lv_iconst (v := 0) hx hb qd_Src_translateAt_35 rfl ?_
      refine lv_istore_n (lv' := [(2, .int 0), (0, .ref h0), (1, .int a1)]) hx hb qd_Src_translateAt_36 rfl hl (by decide) rfl (fun ls hl => ?_)
      exact L37 qN a1 0 s0 _ _ _ (lv_sub (l' := [(0, .ref h0), (1, .int a1), (2, .int 0)]) hl [1, 2, 0] rfl) hP hD hS h
    · have h := qq_t hc h
      refine lv_aload_n hx hb qd_Src_translateAt_30 rfl (lv_at hl 0 rfl) ?_
      obtain ⟨q8, hq8, h⟩ := qq_b h
      have hPc := hP.sub (ws' := [(h0, .inr (5, [.ref (d0 0), .int (s0 1 0), .ref (d0 2), .int (s0 3 0), .ref (d0 4), .int (s0 5 0)])), (d0 0, .inl (cC, 60, .inl (s0 0))), (d0 2, .inl (cI, 60, .inl (s0 2))), (d0 4, .inl (cI, 6, .inl (s0 4)))]) [0, 1, 2, 3] rfl
      have hDc := hD.sub (ws' := [(h0, .inr (5, [.ref (d0 0), .int (s0 1 0), .ref (d0 2), .int (s0 3 0), .ref (d0 4), .int (s0 5 0)])), (d0 0, .inl (cC, 60, .inl (s0 0))), (d0 2, .inl (cI, 60, .inl (s0 2))), (d0 4, .inl (cI, 6, .inl (s0 4)))]) [0, 1, 2, 3] (by decide) rfl
      have hFc := va_free (wc := [(h0, .inr (5, [.ref (d0 0), .int (s0 1 0), .ref (d0 2), .int (s0 3 0), .ref (d0 4), .int (s0 5 0)])), (d0 0, .inl (cC, 60, .inl (s0 0))), (d0 2, .inl (cI, 60, .inl (s0 2))), (d0 4, .inl (cI, 6, .inl (s0 4)))]) hD hS hA [0, 1, 2, 3] rfl
      refine va_calli (va_runV (As := []) (rest := []) ⟨hx, hb, hml, hown, hts⟩ (qm_Src_closeLoop l dC dI cI cC cB cM h0 d0 s0 _ q8 hq8) (q_CW hts qw_223 qw_225 qv_4 qw_2 qw_226 qh_Src_closeLoop rfl rfl ⟨by decide, by decide⟩) (q_preV [] 0 rfl rfl hK hPc hDc) rfl rfl hl.1 rfl (lv_room (Nat.le_of_ble_eq_true rfl)) qd_Src_translateAt_31 ⟨Nat.zero_le _, Nat.zero_le _⟩) hS (fun q _ h => hFc q h) hFc (fun r u t H1 locs ht hvm hw hB hz1 hk1 hS => ?_)
      have hw : q8.1 = r := Eq.symm hw
      subst hw
      obtain ⟨hP1, hD1⟩ := hB
      rw [ht] at hP1
      obtain ⟨hP, hD⟩ := va_join (wr := []) (w1 := [(h0, .inr (5, [.ref (d0 0), .int (q8.2 1 0), .ref (d0 2), .int (q8.2 3 0), .ref (d0 4), .int (q8.2 5 0)])), (d0 0, .inl (cC, 60, .inl (q8.2 0))), (d0 2, .inl (cI, 60, .inl (q8.2 2))), (d0 4, .inl (cI, 6, .inl (q8.2 4)))]) hP hD [0, 1, 2, 3] [] rfl rfl (by decide) (by decide) hk1 hFc hP1 hD1
      have hP := hP.sub (ws' := [(h0, .inr (5, [.ref (d0 0), .int (q8.2 1 0), .ref (d0 2), .int (q8.2 3 0), .ref (d0 4), .int (q8.2 5 0)])), (d0 0, .inl (cC, 60, .inl (q8.2 0))), (d0 2, .inl (cI, 60, .inl (q8.2 2))), (d0 4, .inl (cI, 6, .inl (q8.2 4)))]) [0, 1, 2, 3] rfl
      have hD := hD.sub (ws' := [(h0, .inr (5, [.ref (d0 0), .int (q8.2 1 0), .ref (d0 2), .int (q8.2 3 0), .ref (d0 4), .int (q8.2 5 0)])), (d0 0, .inl (cC, 60, .inl (q8.2 0))), (d0 2, .inl (cI, 60, .inl (q8.2 2))), (d0 4, .inl (cI, 6, .inl (q8.2 4)))]) [0, 1, 2, 3] (by decide) rfl
      obtain rfl := Option.some.inj h
      exact W.iret (v := q8.1) hx hb hr (fun t ht hW => ⟨⟨q8.1, (), rfl, rfl, by rw [ht]; exact hP, hD⟩, hS.F ht⟩) hS.2.2 qd_Src_translateAt_34
  · have h := qq_t hc h
    refine lv_aload_n hx hb qd_Src_translateAt_11 rfl (lv_at hl 0 rfl) ?_
    refine lv_iload_n hx hb qd_Src_translateAt_12 rfl (lv_at hl 1 rfl) ?_
    refine lv_iconst (v := 1) hx hb qd_Src_translateAt_13 rfl ?_
    refine lv_iadd hx hb qd_Src_translateAt_14 ?_
    obtain ⟨q9, hq9, h⟩ := qq_b h
    have hPc := hP.sub (ws' := [(h0, .inr (5, [.ref (d0 0), .int (s0 1 0), .ref (d0 2), .int (s0 3 0), .ref (d0 4), .int (s0 5 0)])), (d0 0, .inl (cC, 60, .inl (s0 0))), (d0 2, .inl (cI, 60, .inl (s0 2))), (d0 4, .inl (cI, 6, .inl (s0 4)))]) [0, 1, 2, 3] rfl
    have hDc := hD.sub (ws' := [(h0, .inr (5, [.ref (d0 0), .int (s0 1 0), .ref (d0 2), .int (s0 3 0), .ref (d0 4), .int (s0 5 0)])), (d0 0, .inl (cC, 60, .inl (s0 0))), (d0 2, .inl (cI, 60, .inl (s0 2))), (d0 4, .inl (cI, 6, .inl (s0 4)))]) [0, 1, 2, 3] (by decide) rfl
    have hFc := va_free (wc := [(h0, .inr (5, [.ref (d0 0), .int (s0 1 0), .ref (d0 2), .int (s0 3 0), .ref (d0 4), .int (s0 5 0)])), (d0 0, .inl (cC, 60, .inl (s0 0))), (d0 2, .inl (cI, 60, .inl (s0 2))), (d0 4, .inl (cI, 6, .inl (s0 4)))]) hD hS hA [0, 1, 2, 3] rfl
    refine va_calli (va_runV (As := [.int (a1 + 1)]) (rest := []) ⟨hx, hb, hml, hown, hts⟩ (qm_Src_openLoop l dC dI cI cC cB cM h0 d0 s0 (a1 + 1) _ q9 hq9) (q_CW hts qw_209 qw_211 qv_2 qw_2 qw_212 qh_Src_openLoop rfl rfl ⟨by decide, by decide⟩) (q_preV [.int (a1 + 1)] 0 rfl rfl hK hPc hDc) rfl rfl hl.1 rfl (lv_room (Nat.le_of_ble_eq_true rfl)) qd_Src_translateAt_15 ⟨Nat.zero_le _, Nat.zero_le _⟩) hS (fun q _ h => hFc q h) hFc (fun r u t H1 locs ht hvm hw hB hz1 hk1 hS => ?_)
    have hw : q9.1 = r := Eq.symm hw
    subst hw
    obtain ⟨hP1, hD1⟩ := hB
    rw [ht] at hP1
    obtain ⟨hP, hD⟩ := va_join (wr := []) (w1 := [(h0, .inr (5, [.ref (d0 0), .int (q9.2 1 0), .ref (d0 2), .int (q9.2 3 0), .ref (d0 4), .int (q9.2 5 0)])), (d0 0, .inl (cC, 60, .inl (q9.2 0))), (d0 2, .inl (cI, 60, .inl (q9.2 2))), (d0 4, .inl (cI, 6, .inl (q9.2 4)))]) hP hD [0, 1, 2, 3] [] rfl rfl (by decide) (by decide) hk1 hFc hP1 hD1
    have hP := hP.sub (ws' := [(h0, .inr (5, [.ref (d0 0), .int (q9.2 1 0), .ref (d0 2), .int (q9.2 3 0), .ref (d0 4), .int (q9.2 5 0)])), (d0 0, .inl (cC, 60, .inl (q9.2 0))), (d0 2, .inl (cI, 60, .inl (q9.2 2))), (d0 4, .inl (cI, 6, .inl (q9.2 4)))]) [0, 1, 2, 3] rfl
    have hD := hD.sub (ws' := [(h0, .inr (5, [.ref (d0 0), .int (q9.2 1 0), .ref (d0 2), .int (q9.2 3 0), .ref (d0 4), .int (q9.2 5 0)])), (d0 0, .inl (cC, 60, .inl (q9.2 0))), (d0 2, .inl (cI, 60, .inl (q9.2 2))), (d0 4, .inl (cI, 6, .inl (q9.2 4)))]) [0, 1, 2, 3] (by decide) rfl
    obtain rfl := Option.some.inj h
    exact W.iret (v := q9.1) hx hb hr (fun t ht hW => ⟨⟨q9.1, (), rfl, rfl, by rw [ht]; exact hP, hD⟩, hS.F ht⟩) hS.2.2 qd_Src_translateAt_18
/-! QuietSweep$Source.translate()Z -/
def qf_Src_translate_B12 (k12 : (Int32 × QS) → Option (Int32 × QS)) (x1 : Int32) (s0 : QS) : Option (Int32 × QS) := (if (s0 1 0) ≤ x1 then (if (s0 5 0) = 0 then (some (1, s0)) else (some (0, s0))) else ((qf_Src_translateAt x1 s0).bind fun q1 => (if 1 ≤ q1.1 then (k12 ((x1 + q1.1), q1.2)) else (some (0, q1.2)))))
def qf_Src_translate_F12 (k12 : (Int32 × QS) → Option (Int32 × QS)) (a : Int32 × QS) : Option (Int32 × QS) := qf_Src_translate_B12 k12 a.1 a.2
def qf_Src_translate  (s0 : QS) : Option (Int32 × QS) := (qfix (qf_Src_translate_F12) qN (0, (qp (qp s0 3 (fun _ => 0)) 5 (fun _ => 0))))
set_option maxHeartbeats 4000000 in
set_option maxRecDepth 100000 in
theorem qm_Src_translate (l : Launch) (dC : Nat → ClassId) (dI : Nat → Nat → Nat) (cI cC cB cM : ClassId) (aK aV : Nat → Nat) (h0 : Nat) (d0 : Nat → Nat) (s0 : QS)  (sz : Nat) (o : Int32 × QS) (h : qf_Src_translate s0 = some o) : Met l qy_Src_translate (ql_Src_translate :: qG) ({ frames := 6, cells := 0, slots := 0, locals := 134 } : Room) (qPcS dC dI cI cC cB cM aK aV [.ref h0] sz [(h0, .inr (5, [.ref (d0 0), .int (s0 1 0), .ref (d0 2), .int (s0 3 0), .ref (d0 4), .int (s0 5 0)])), (d0 0, .inl (cC, 60, .inl (s0 0))), (d0 2, .inl (cI, 60, .inl (s0 2))), (d0 4, .inl (cI, 6, .inl (s0 4)))]) (va_Qi (fun r (_ : Unit) => r = o.1) (fun _ t => va_P (dC, dI) qCl [(h0, .inr (5, [.ref (d0 0), .int (o.2 1 0), .ref (d0 2), .int (o.2 3 0), .ref (d0 4), .int (o.2 5 0)])), (d0 0, .inl (cC, 60, .inl (o.2 0))), (d0 2, .inl (cI, 60, .inl (o.2 2))), (d0 4, .inl (cI, 6, .inl (o.2 4)))] t.heap ∧ va_D (va_A [(h0, .inr (5, [.ref (d0 0), .int (s0 1 0), .ref (d0 2), .int (s0 3 0), .ref (d0 4), .int (s0 5 0)])), (d0 0, .inl (cC, 60, .inl (s0 0))), (d0 2, .inl (cI, 60, .inl (s0 2))), (d0 4, .inl (cI, 6, .inl (s0 4)))] sz) [(h0, .inr (5, [.ref (d0 0), .int (o.2 1 0), .ref (d0 2), .int (o.2 3 0), .ref (d0 4), .int (o.2 5 0)])), (d0 0, .inl (cC, 60, .inl (o.2 0))), (d0 2, .inl (cI, 60, .inl (o.2 2))), (d0 4, .inl (cI, 6, .inl (o.2 4)))]) (va_A [(h0, .inr (5, [.ref (d0 0), .int (s0 1 0), .ref (d0 2), .int (s0 3 0), .ref (d0 4), .int (s0 5 0)])), (d0 0, .inl (cC, 60, .inl (s0 0))), (d0 2, .inl (cI, 60, .inl (s0 2))), (d0 4, .inl (cI, 6, .inl (s0 4)))] sz)) 0 0 (va_A [(h0, .inr (5, [.ref (d0 0), .int (s0 1 0), .ref (d0 2), .int (s0 3 0), .ref (d0 4), .int (s0 5 0)])), (d0 0, .inl (cC, 60, .inl (s0 0))), (d0 2, .inl (cI, 60, .inl (s0 2))), (d0 4, .inl (cI, 6, .inl (s0 4)))] sz) := by
  refine Met.ofW (cc := qc_Src_translate) (maxL := 3) (ret := (some .boolean)) (by decide) rfl ?_
  intro p e s m args below meth c s₁ B hml hv
  obtain ⟨rfl, hsz, hP, hK, hD0, hT⟩ := hv
  have hx := B.exec
  have hb := B.bytes
  have hr := B.returns
  have hts0 := atoms_spec (ws := ql_Src_translate :: qG) B.pre
  have hts := fun (w : Cond) (hw : w ∈ qG) => hts0 w (List.mem_cons_of_mem _ hw)
  have hown : s.vm.findClass "QuietSweep$Source" = some m.cls := findClass_of_methodNamed B.named
  have hlocks := B.notSynchronized
  subst hsz
  have hD := hD0.self (sz := s.heap.size)
  generalize hAe : va_A [(h0, .inr (5, [.ref (d0 0), .int (s0 1 0), .ref (d0 2), .int (s0 3 0), .ref (d0 4), .int (s0 5 0)])), (d0 0, .inl (cC, 60, .inl (s0 0))), (d0 2, .inl (cI, 60, .inl (s0 2))), (d0 4, .inl (cI, 6, .inl (s0 4)))] s.heap.size = A at hD hT ⊢
  have hA : ∀ q : Nat, s.heap.size ≤ q → A q := fun q h => by rw [← hAe]; exact Or.inr h
  have hS : va_S A s.heap s.heap [] := va_S.rf
  have hl := lv_entry ([.ref h0]) (n := 3) (Nat.le_of_ble_eq_true rfl)
  rw [lg_entry_eq]
  generalize (lg_sl ([.ref h0]) ++ List.replicate (3 - (lg_sl ([.ref h0])).length) Slot.unset).toArray = ls at hl ⊢
  have hl : lv_has ls 3 [(0, .ref h0)] := hl
  have L12 : ∀ (n : Nat) (x1 : Int32) (s0 : QS) (H : Heap) (locs : List Loc) (ls : Array Slot), lv_has ls 3 [(0, .ref h0), (1, .int x1)] → va_P (dC, dI) qCl [(h0, .inr (5, [.ref (d0 0), .int (s0 1 0), .ref (d0 2), .int (s0 3 0), .ref (d0 4), .int (s0 5 0)])), (d0 0, .inl (cC, 60, .inl (s0 0))), (d0 2, .inl (cI, 60, .inl (s0 2))), (d0 4, .inl (cI, 6, .inl (s0 4)))] H → va_D A [(h0, .inr (5, [.ref (d0 0), .int (s0 1 0), .ref (d0 2), .int (s0 3 0), .ref (d0 4), .int (s0 5 0)])), (d0 0, .inl (cC, 60, .inl (s0 0))), (d0 2, .inl (cI, 60, .inl (s0 2))), (d0 4, .inl (cI, 6, .inl (s0 4)))] → va_S A s.heap H locs → qfix (qf_Src_translate_F12) n (x1, s0) = some o → W p l e (headSpec (ql_Src_translate :: qG) ({ frames := 6, cells := 0, slots := 0, locals := 134 } : Room)).room s m ([.ref h0] : List Value).toArray below meth c H locs 0 0 (MQ below (va_Qi (fun r (_ : Unit) => r = o.1) (fun _ t => va_P (dC, dI) qCl [(h0, .inr (5, [.ref (d0 0), .int (o.2 1 0), .ref (d0 2), .int (o.2 3 0), .ref (d0 4), .int (o.2 5 0)])), (d0 0, .inl (cC, 60, .inl (o.2 0))), (d0 2, .inl (cI, 60, .inl (o.2 2))), (d0 4, .inl (cI, 6, .inl (o.2 4)))] t.heap ∧ va_D A [(h0, .inr (5, [.ref (d0 0), .int (o.2 1 0), .ref (d0 2), .int (o.2 3 0), .ref (d0 4), .int (o.2 5 0)])), (d0 0, .inl (cC, 60, .inl (o.2 0))), (d0 2, .inl (cI, 60, .inl (o.2 2))), (d0 4, .inl (cI, 6, .inl (o.2 4)))]) A) ([.ref h0] : List Value).toArray s 0 0 A) (F0 m 12 ls []) := by
    intro n
    induction n with
    | zero => intro x1 s0 H locs ls hl hP hD hS h; cases (show (none : Option (Int32 × QS)) = some o from h)
    | succ n12 ih12 =>
      intro x1 s0 H locs ls hl hP hD hS h
      have h : qf_Src_translate_B12 (qfix (qf_Src_translate_F12) n12) x1 s0 = some o := h
      unfold qf_Src_translate_B12 at h
      refine lv_iload_n hx hb qd_Src_translate_12 rfl (lv_at hl 1 rfl) ?_
      refine lv_aload_n hx hb qd_Src_translate_13 rfl (lv_at hl 0 rfl) ?_
      refine va_get (D := (dC, dI)) (ci := 5) (v := .int (s0 1 0)) (C := "QuietSweep$Source") (T := qT_Src) (N := 6) hx hb hts qi_Src hown hK.1 hP 0 rfl rfl 1 (by decide) (hts _ qw_31) (fun _ h9 => h9) rfl qd_Src_translate_14 ?_
      refine lv_icmp_ge hx hb qd_Src_translate_17 (tgt := 40) (by decide) (fun hc => ?_) (fun hc => ?_)
      · have h := qq_t hc h
        refine lv_aload_n hx hb qd_Src_translate_40 rfl (lv_at hl 0 rfl) ?_
        refine va_get (D := (dC, dI)) (ci := 5) (v := .int (s0 5 0)) (C := "QuietSweep$Source") (T := qT_Src) (N := 6) hx hb hts qi_Src hown hK.1 hP 0 rfl rfl 5 (by decide) (hts _ qw_37) (fun _ h9 => h9) rfl qd_Src_translate_41 ?_
        refine lv_if_ne hx hb qd_Src_translate_44 (tgt := 51) (by decide) (fun hc => ?_) (fun hc => ?_)
        · have h := qq_f hc h
          refine lv_iconst (v := 0) hx hb qd_Src_translate_51 rfl ?_
          obtain rfl := Option.some.inj h
          exact W.zret (v := 0) hx hb hr rfl (fun t ht hW => ⟨⟨0, (), rfl, rfl, by rw [ht]; exact hP, hD⟩, hS.F ht⟩) hS.2.2 qd_Src_translate_52
        · have h := qq_t hc h
          refine lv_iconst (v := 1) hx hb qd_Src_translate_47 rfl ?_
          refine lv_goto hx hb qd_Src_translate_48 (tgt := 52) (by decide) ?_
          obtain rfl := Option.some.inj h
          exact W.zret (v := 1) hx hb hr rfl (fun t ht hW => ⟨⟨1, (), rfl, rfl, by rw [ht]; exact hP, hD⟩, hS.F ht⟩) hS.2.2 qd_Src_translate_52
      · have h := qq_f hc h
        refine lv_aload_n hx hb qd_Src_translate_20 rfl (lv_at hl 0 rfl) ?_
        refine lv_iload_n hx hb qd_Src_translate_21 rfl (lv_at hl 1 rfl) ?_
        obtain ⟨q1, hq1, h⟩ := qq_b h
        have hPc := hP.sub (ws' := [(h0, .inr (5, [.ref (d0 0), .int (s0 1 0), .ref (d0 2), .int (s0 3 0), .ref (d0 4), .int (s0 5 0)])), (d0 0, .inl (cC, 60, .inl (s0 0))), (d0 2, .inl (cI, 60, .inl (s0 2))), (d0 4, .inl (cI, 6, .inl (s0 4)))]) [0, 1, 2, 3] rfl
        have hDc := hD.sub (ws' := [(h0, .inr (5, [.ref (d0 0), .int (s0 1 0), .ref (d0 2), .int (s0 3 0), .ref (d0 4), .int (s0 5 0)])), (d0 0, .inl (cC, 60, .inl (s0 0))), (d0 2, .inl (cI, 60, .inl (s0 2))), (d0 4, .inl (cI, 6, .inl (s0 4)))]) [0, 1, 2, 3] (by decide) rfl
        have hFc := va_free (wc := [(h0, .inr (5, [.ref (d0 0), .int (s0 1 0), .ref (d0 2), .int (s0 3 0), .ref (d0 4), .int (s0 5 0)])), (d0 0, .inl (cC, 60, .inl (s0 0))), (d0 2, .inl (cI, 60, .inl (s0 2))), (d0 4, .inl (cI, 6, .inl (s0 4)))]) hD hS hA [0, 1, 2, 3] rfl
        refine va_calli (va_runV (As := [.int x1]) (rest := []) ⟨hx, hb, hml, hown, hts⟩ (qm_Src_translateAt l dC dI cI cC cB cM aK aV h0 d0 s0 x1 _ q1 hq1) (q_CW hts qw_205 qw_207 qv_1 qw_2 qw_208 qh_Src_translateAt rfl rfl ⟨by decide, by decide⟩) (q_preVS [.int x1] 0 rfl rfl hK hPc hDc hT hS hFc) rfl rfl hl.1 rfl (lv_room (Nat.le_of_ble_eq_true rfl)) qd_Src_translate_22 ⟨Nat.zero_le _, Nat.zero_le _⟩) hS (fun q _ h => hFc q h) hFc (fun r u t H1 locs ht hvm hw hB hz1 hk1 hS => ?_)
        have hw : q1.1 = r := Eq.symm hw
        subst hw
        obtain ⟨hP1, hD1⟩ := hB
        rw [ht] at hP1
        obtain ⟨hP, hD⟩ := va_join (wr := []) (w1 := [(h0, .inr (5, [.ref (d0 0), .int (q1.2 1 0), .ref (d0 2), .int (q1.2 3 0), .ref (d0 4), .int (q1.2 5 0)])), (d0 0, .inl (cC, 60, .inl (q1.2 0))), (d0 2, .inl (cI, 60, .inl (q1.2 2))), (d0 4, .inl (cI, 6, .inl (q1.2 4)))]) hP hD [0, 1, 2, 3] [] rfl rfl (by decide) (by decide) hk1 hFc hP1 hD1
        have hP := hP.sub (ws' := [(h0, .inr (5, [.ref (d0 0), .int (q1.2 1 0), .ref (d0 2), .int (q1.2 3 0), .ref (d0 4), .int (q1.2 5 0)])), (d0 0, .inl (cC, 60, .inl (q1.2 0))), (d0 2, .inl (cI, 60, .inl (q1.2 2))), (d0 4, .inl (cI, 6, .inl (q1.2 4)))]) [0, 1, 2, 3] rfl
        have hD := hD.sub (ws' := [(h0, .inr (5, [.ref (d0 0), .int (q1.2 1 0), .ref (d0 2), .int (q1.2 3 0), .ref (d0 4), .int (q1.2 5 0)])), (d0 0, .inl (cC, 60, .inl (q1.2 0))), (d0 2, .inl (cI, 60, .inl (q1.2 2))), (d0 4, .inl (cI, 6, .inl (q1.2 4)))]) [0, 1, 2, 3] (by decide) rfl
        refine lv_istore_n (lv' := [(2, .int q1.1), (0, .ref h0), (1, .int x1)]) hx hb qd_Src_translate_25 rfl hl (by decide) rfl (fun ls hl => ?_)
        refine lv_iload_n hx hb qd_Src_translate_26 rfl (lv_at hl 0 rfl) ?_
        refine lv_iconst (v := 1) hx hb qd_Src_translate_27 rfl ?_
        refine lv_icmp_ge hx hb qd_Src_translate_28 (tgt := 33) (by decide) (fun hc => ?_) (fun hc => ?_)
        · have h := qq_t hc h
          refine lv_iload_n hx hb qd_Src_translate_33 rfl (lv_at hl 2 rfl) ?_
          refine lv_iload_n hx hb qd_Src_translate_34 rfl (lv_at hl 0 rfl) ?_
          refine lv_iadd hx hb qd_Src_translate_35 ?_
          refine lv_istore_n (lv' := [(1, .int (x1 + q1.1)), (2, .int q1.1), (0, .ref h0)]) hx hb qd_Src_translate_36 rfl hl (by decide) rfl (fun ls hl => ?_)
          refine lv_goto hx hb qd_Src_translate_37 (tgt := 12) (by decide) ?_
          exact ih12 (x1 + q1.1) q1.2 _ _ _ (lv_sub (l' := [(0, .ref h0), (1, .int (x1 + q1.1))]) hl [2, 0] rfl) hP hD hS h
        · have h := qq_f hc h
          refine lv_iconst (v := 0) hx hb qd_Src_translate_31 rfl ?_
          obtain rfl := Option.some.inj h
          exact W.zret (v := 0) hx hb hr rfl (fun t ht hW => ⟨⟨0, (), rfl, rfl, by rw [ht]; exact hP, hD⟩, hS.F ht⟩) hS.2.2 qd_Src_translate_32
  unfold qf_Src_translate at h
  refine lv_aload_n hx hb qd_Src_translate_0 rfl (lv_at hl 0 rfl) ?_
  refine lv_iconst (v := 0) hx hb qd_Src_translate_1 rfl ?_
  refine va_put (D := (dC, dI)) (ci := 5) (v := .int 0) (ty := .int) (C := "QuietSweep$Source") (T := qT_Src) (N := 6) hx hb hts qi_Src qt_Src qo_Src qn_Src hown hK.1 hP hD hS 0 rfl rfl 3 (by decide) (hts _ qw_34) (fun _ h9 => h9) rfl (qo_Src 3 (by decide)) rfl rfl (Nat.le_of_ble_eq_true rfl) qd_Src_translate_2 (fun H locs hP hD hS => ?_)
  have hP : va_P (dC, dI) qCl [(h0, .inr (5, [.ref (d0 0), .int (s0 1 0), .ref (d0 2), .int 0, .ref (d0 4), .int (s0 5 0)])), (d0 0, .inl (cC, 60, .inl (s0 0))), (d0 2, .inl (cI, 60, .inl (s0 2))), (d0 4, .inl (cI, 6, .inl (s0 4)))] _ := hP
  have hD : va_D A [(h0, .inr (5, [.ref (d0 0), .int (s0 1 0), .ref (d0 2), .int 0, .ref (d0 4), .int (s0 5 0)])), (d0 0, .inl (cC, 60, .inl (s0 0))), (d0 2, .inl (cI, 60, .inl (s0 2))), (d0 4, .inl (cI, 6, .inl (s0 4)))] := hD
  refine lv_aload_n hx hb qd_Src_translate_5 rfl (lv_at hl 0 rfl) ?_
  refine lv_iconst (v := 0) hx hb qd_Src_translate_6 rfl ?_
  refine va_put (D := (dC, dI)) (ci := 5) (v := .int 0) (ty := .int) (C := "QuietSweep$Source") (T := qT_Src) (N := 6) hx hb hts qi_Src qt_Src qo_Src qn_Src hown hK.1 hP hD hS 0 rfl rfl 5 (by decide) (hts _ qw_37) (fun _ h9 => h9) rfl (qo_Src 5 (by decide)) rfl rfl (Nat.le_of_ble_eq_true rfl) qd_Src_translate_7 (fun H locs hP hD hS => ?_)
  have hP : va_P (dC, dI) qCl [(h0, .inr (5, [.ref (d0 0), .int (s0 1 0), .ref (d0 2), .int 0, .ref (d0 4), .int 0])), (d0 0, .inl (cC, 60, .inl (s0 0))), (d0 2, .inl (cI, 60, .inl (s0 2))), (d0 4, .inl (cI, 6, .inl (s0 4)))] _ := hP
  have hD : va_D A [(h0, .inr (5, [.ref (d0 0), .int (s0 1 0), .ref (d0 2), .int 0, .ref (d0 4), .int 0])), (d0 0, .inl (cC, 60, .inl (s0 0))), (d0 2, .inl (cI, 60, .inl (s0 2))), (d0 4, .inl (cI, 6, .inl (s0 4)))] := hD
  refine lv_iconst (v := 0) hx hb qd_Src_translate_10 rfl ?_
  refine lv_istore_n (lv' := [(1, .int 0), (0, .ref h0)]) hx hb qd_Src_translate_11 rfl hl (by decide) rfl (fun ls hl => ?_)
  exact L12 qN 0 (qp (qp s0 3 (fun _ => 0)) 5 (fun _ => 0)) _ _ _ (lv_sub (l' := [(0, .ref h0), (1, .int 0)]) hl [1, 0] rfl) hP hD hS h
/-! QuietSweep$Mutator.install([II)V -/
def qf_Mut_install (a2 : Int32) (s0 : QS) (s1 : QS) : Option (QS) := (if ((0 : Int32) < 0 ∨ (0 : Int32) < 0 ∨ (a2 : Int32) < 0 ∨ ¬ (Int32.toNatClampNeg 0 + Int32.toNatClampNeg a2 ≤ 60) ∨ ¬ (Int32.toNatClampNeg 0 + Int32.toNatClampNeg a2 ≤ 60)) then none else (some (qp (qp (qp s0 1 (fun _ => a2)) 2 (fun _ => 0)) 0 (va_cpy (s1 0) (s0 0) (Int32.toNatClampNeg 0) (Int32.toNatClampNeg 0) (Int32.toNatClampNeg a2)))))
set_option maxHeartbeats 4000000 in
set_option maxRecDepth 100000 in
theorem qm_Mut_install (l : Launch) (dC : Nat → ClassId) (dI : Nat → Nat → Nat) (cI cC cB cM : ClassId) (h0 : Nat) (h1 : Nat) (d0 : Nat → Nat) (s0 : QS) (s1 : QS) (a2 : Int32) (sz : Nat) (o : QS) (h : qf_Mut_install a2 s0 s1 = some o) : Met l qy_Mut_install (ql_Mut_install :: qG) ({ frames := 1, cells := 0, slots := 0, locals := 40 } : Room) (qPc dC dI cI cC cB cM [.ref h0, .ref h1, .int a2] sz [(h0, .inr (3, [.ref (d0 0), .int (s0 1 0), .int (s0 2 0), .ref (d0 3), .ref (d0 4), .int (s0 5 0), .int (s0 6 0), .ref (d0 7), .ref (d0 8)])), (d0 0, .inl (cI, 60, .inl (s0 0))), (d0 3, .inl (cI, 4, .inl (s0 3))), (d0 4, .inl (cI, 3, .inl (s0 4))), (h1, .inl (cI, 60, .inl (s1 0)))]) (va_Qv (fun _ : Unit => True) (fun _ t => va_P (dC, dI) qCl [(h0, .inr (3, [.ref (d0 0), .int (o 1 0), .int (o 2 0), .ref (d0 3), .ref (d0 4), .int (o 5 0), .int (o 6 0), .ref (d0 7), .ref (d0 8)])), (d0 0, .inl (cI, 60, .inl (o 0))), (d0 3, .inl (cI, 4, .inl (o 3))), (d0 4, .inl (cI, 3, .inl (o 4))), (h1, .inl (cI, 60, .inl (s1 0)))] t.heap ∧ va_D (va_A [(h0, .inr (3, [.ref (d0 0), .int (s0 1 0), .int (s0 2 0), .ref (d0 3), .ref (d0 4), .int (s0 5 0), .int (s0 6 0), .ref (d0 7), .ref (d0 8)])), (d0 0, .inl (cI, 60, .inl (s0 0))), (d0 3, .inl (cI, 4, .inl (s0 3))), (d0 4, .inl (cI, 3, .inl (s0 4))), (h1, .inl (cI, 60, .inl (s1 0)))] sz) [(h0, .inr (3, [.ref (d0 0), .int (o 1 0), .int (o 2 0), .ref (d0 3), .ref (d0 4), .int (o 5 0), .int (o 6 0), .ref (d0 7), .ref (d0 8)])), (d0 0, .inl (cI, 60, .inl (o 0))), (d0 3, .inl (cI, 4, .inl (o 3))), (d0 4, .inl (cI, 3, .inl (o 4))), (h1, .inl (cI, 60, .inl (s1 0)))]) (va_A [(h0, .inr (3, [.ref (d0 0), .int (s0 1 0), .int (s0 2 0), .ref (d0 3), .ref (d0 4), .int (s0 5 0), .int (s0 6 0), .ref (d0 7), .ref (d0 8)])), (d0 0, .inl (cI, 60, .inl (s0 0))), (d0 3, .inl (cI, 4, .inl (s0 3))), (d0 4, .inl (cI, 3, .inl (s0 4))), (h1, .inl (cI, 60, .inl (s1 0)))] sz)) 0 0 (va_A [(h0, .inr (3, [.ref (d0 0), .int (s0 1 0), .int (s0 2 0), .ref (d0 3), .ref (d0 4), .int (s0 5 0), .int (s0 6 0), .ref (d0 7), .ref (d0 8)])), (d0 0, .inl (cI, 60, .inl (s0 0))), (d0 3, .inl (cI, 4, .inl (s0 3))), (d0 4, .inl (cI, 3, .inl (s0 4))), (h1, .inl (cI, 60, .inl (s1 0)))] sz) := by
  refine Met.ofW (cc := qc_Mut_install) (maxL := 3) (ret := none) (by decide) rfl ?_
  intro p e s m args below meth c s₁ B hml hv
  obtain ⟨rfl, hsz, hP, hK, hD0⟩ := hv
  have hx := B.exec
  have hb := B.bytes
  have hr := B.returns
  have hts0 := atoms_spec (ws := ql_Mut_install :: qG) B.pre
  have hts := fun (w : Cond) (hw : w ∈ qG) => hts0 w (List.mem_cons_of_mem _ hw)
  have hown : s.vm.findClass "QuietSweep$Mutator" = some m.cls := findClass_of_methodNamed B.named
  have hlocks := B.notSynchronized
  subst hsz
  have hD := hD0.self (sz := s.heap.size)
  generalize hAe : va_A [(h0, .inr (3, [.ref (d0 0), .int (s0 1 0), .int (s0 2 0), .ref (d0 3), .ref (d0 4), .int (s0 5 0), .int (s0 6 0), .ref (d0 7), .ref (d0 8)])), (d0 0, .inl (cI, 60, .inl (s0 0))), (d0 3, .inl (cI, 4, .inl (s0 3))), (d0 4, .inl (cI, 3, .inl (s0 4))), (h1, .inl (cI, 60, .inl (s1 0)))] s.heap.size = A at hD ⊢
  have hA : ∀ q : Nat, s.heap.size ≤ q → A q := fun q h => by rw [← hAe]; exact Or.inr h
  have hS : va_S A s.heap s.heap [] := va_S.rf
  have hl := lv_entry ([.ref h0, .ref h1, .int a2]) (n := 3) (Nat.le_of_ble_eq_true rfl)
  rw [lg_entry_eq]
  generalize (lg_sl ([.ref h0, .ref h1, .int a2]) ++ List.replicate (3 - (lg_sl ([.ref h0, .ref h1, .int a2])).length) Slot.unset).toArray = ls at hl ⊢
  have hl : lv_has ls 3 [(0, .ref h0), (1, .ref h1), (2, .int a2)] := hl
  unfold qf_Mut_install at h
  refine lv_aload_n hx hb qd_Mut_install_0 rfl (lv_at hl 1 rfl) ?_
  refine lv_iconst (v := 0) hx hb qd_Mut_install_1 rfl ?_
  refine lv_aload_n hx hb qd_Mut_install_2 rfl (lv_at hl 0 rfl) ?_
  refine va_get (D := (dC, dI)) (ci := 3) (v := .ref (d0 0)) (C := "QuietSweep$Mutator") (T := qT_Mut) (N := 9) hx hb hts qi_Mut hown hK.1 hP 0 rfl rfl 0 (by decide) (hts _ qw_121) (fun _ h9 => h9) rfl qd_Mut_install_3 ?_
  refine lv_iconst (v := 0) hx hb qd_Mut_install_6 rfl ?_
  refine lv_iload_n hx hb qd_Mut_install_7 rfl (lv_at hl 2 rfl) ?_
  obtain ⟨hb1, h⟩ := qq_n h
  obtain ⟨g1, g2, g3, g4, g5⟩ := q_cp hb1
  refine va_copyi hx hb (by rw [hml]; exact hl.1.symm) hown (hts _ qw_312) (hts _ qw_314) (hts _ qw_313) (hts _ qw_13) hK.1 hP hD hS 4 1 0 0 rfl rfl rfl rfl rfl g1 g2 g3 g4 g5 (fun _ _ => rfl) (by decide) (by decide) qd_Mut_install_8 (fun H locs hP hD hS => ?_)
  have hP : va_P (dC, dI) qCl [(h0, .inr (3, [.ref (d0 0), .int (s0 1 0), .int (s0 2 0), .ref (d0 3), .ref (d0 4), .int (s0 5 0), .int (s0 6 0), .ref (d0 7), .ref (d0 8)])), (d0 0, .inl (cI, 60, .inl (va_cpy (s1 0) (s0 0) (Int32.toNatClampNeg 0) (Int32.toNatClampNeg 0) (Int32.toNatClampNeg a2)))), (d0 3, .inl (cI, 4, .inl (s0 3))), (d0 4, .inl (cI, 3, .inl (s0 4))), (h1, .inl (cI, 60, .inl (s1 0)))] _ := hP
  have hD : va_D A [(h0, .inr (3, [.ref (d0 0), .int (s0 1 0), .int (s0 2 0), .ref (d0 3), .ref (d0 4), .int (s0 5 0), .int (s0 6 0), .ref (d0 7), .ref (d0 8)])), (d0 0, .inl (cI, 60, .inl (va_cpy (s1 0) (s0 0) (Int32.toNatClampNeg 0) (Int32.toNatClampNeg 0) (Int32.toNatClampNeg a2)))), (d0 3, .inl (cI, 4, .inl (s0 3))), (d0 4, .inl (cI, 3, .inl (s0 4))), (h1, .inl (cI, 60, .inl (s1 0)))] := hD
  refine lv_aload_n hx hb qd_Mut_install_11 rfl (lv_at hl 0 rfl) ?_
  refine lv_iload_n hx hb qd_Mut_install_12 rfl (lv_at hl 2 rfl) ?_
  refine va_put (D := (dC, dI)) (ci := 3) (v := .int a2) (ty := .int) (C := "QuietSweep$Mutator") (T := qT_Mut) (N := 9) hx hb hts qi_Mut qt_Mut qo_Mut qn_Mut hown hK.1 hP hD hS 0 rfl rfl 1 (by decide) (hts _ qw_122) (fun _ h9 => h9) rfl (qo_Mut 1 (by decide)) rfl rfl (Nat.le_of_ble_eq_true rfl) qd_Mut_install_13 (fun H locs hP hD hS => ?_)
  have hP : va_P (dC, dI) qCl [(h0, .inr (3, [.ref (d0 0), .int a2, .int (s0 2 0), .ref (d0 3), .ref (d0 4), .int (s0 5 0), .int (s0 6 0), .ref (d0 7), .ref (d0 8)])), (d0 0, .inl (cI, 60, .inl (va_cpy (s1 0) (s0 0) (Int32.toNatClampNeg 0) (Int32.toNatClampNeg 0) (Int32.toNatClampNeg a2)))), (d0 3, .inl (cI, 4, .inl (s0 3))), (d0 4, .inl (cI, 3, .inl (s0 4))), (h1, .inl (cI, 60, .inl (s1 0)))] _ := hP
  have hD : va_D A [(h0, .inr (3, [.ref (d0 0), .int a2, .int (s0 2 0), .ref (d0 3), .ref (d0 4), .int (s0 5 0), .int (s0 6 0), .ref (d0 7), .ref (d0 8)])), (d0 0, .inl (cI, 60, .inl (va_cpy (s1 0) (s0 0) (Int32.toNatClampNeg 0) (Int32.toNatClampNeg 0) (Int32.toNatClampNeg a2)))), (d0 3, .inl (cI, 4, .inl (s0 3))), (d0 4, .inl (cI, 3, .inl (s0 4))), (h1, .inl (cI, 60, .inl (s1 0)))] := hD
  refine lv_aload_n hx hb qd_Mut_install_16 rfl (lv_at hl 0 rfl) ?_
  refine lv_iconst (v := 0) hx hb qd_Mut_install_17 rfl ?_
  refine va_put (D := (dC, dI)) (ci := 3) (v := .int 0) (ty := .int) (C := "QuietSweep$Mutator") (T := qT_Mut) (N := 9) hx hb hts qi_Mut qt_Mut qo_Mut qn_Mut hown hK.1 hP hD hS 0 rfl rfl 2 (by decide) (hts _ qw_123) (fun _ h9 => h9) rfl (qo_Mut 2 (by decide)) rfl rfl (Nat.le_of_ble_eq_true rfl) qd_Mut_install_18 (fun H locs hP hD hS => ?_)
  have hP : va_P (dC, dI) qCl [(h0, .inr (3, [.ref (d0 0), .int a2, .int 0, .ref (d0 3), .ref (d0 4), .int (s0 5 0), .int (s0 6 0), .ref (d0 7), .ref (d0 8)])), (d0 0, .inl (cI, 60, .inl (va_cpy (s1 0) (s0 0) (Int32.toNatClampNeg 0) (Int32.toNatClampNeg 0) (Int32.toNatClampNeg a2)))), (d0 3, .inl (cI, 4, .inl (s0 3))), (d0 4, .inl (cI, 3, .inl (s0 4))), (h1, .inl (cI, 60, .inl (s1 0)))] _ := hP
  have hD : va_D A [(h0, .inr (3, [.ref (d0 0), .int a2, .int 0, .ref (d0 3), .ref (d0 4), .int (s0 5 0), .int (s0 6 0), .ref (d0 7), .ref (d0 8)])), (d0 0, .inl (cI, 60, .inl (va_cpy (s1 0) (s0 0) (Int32.toNatClampNeg 0) (Int32.toNatClampNeg 0) (Int32.toNatClampNeg a2)))), (d0 3, .inl (cI, 4, .inl (s0 3))), (d0 4, .inl (cI, 3, .inl (s0 4))), (h1, .inl (cI, 60, .inl (s1 0)))] := hD
  obtain rfl := Option.some.inj h
  exact W.vret hx hb hr (fun t ht hW => ⟨⟨(), rfl, trivial, by rw [ht]; exact hP, hD⟩, hS.F ht⟩) hS.2.2 qd_Mut_install_21
/-! QuietSweep.load(I)I -/
def qf_Qs_load (a1 : Int32) (s1 : QS) (s3 : QS) (s4 : QS) : Option (Int32 × QS × QS × QS) := ((qf_Src_translate s1).bind fun q1 => ((qf_Src_empty q1.2).bind fun q2 => ((qf_Qs_isMutator a1).bind fun q3 => (if q3 = 0 then (some ((-1), q2, s3, s4)) else (if q1.1 = 0 then (some ((-2), q2, s3, s4)) else (if a1 = 0 then ((qf_Mut_install (q2 3 0) s3 (fun _ => (q2 2))).bind fun q6 => (some ((q2 3 0), q2, q6, s4))) else (if a1 = 1 then ((qf_Mut_install (q2 3 0) s4 (fun _ => (q2 2))).bind fun q7 => (some ((q2 3 0), q2, s3, q7))) else none)))))))
set_option maxHeartbeats 4000000 in
set_option maxRecDepth 100000 in
theorem qm_Qs_load (l : Launch) (dC : Nat → ClassId) (dI : Nat → Nat → Nat) (cI cC cB cM : ClassId) (aK aV : Nat → Nat) (h0 : Nat) (d0 : Nat → Nat) (d1 : Nat → Nat) (d2 : Nat → Nat) (d3 : Nat → Nat) (d4 : Nat → Nat) (s1 : QS) (s3 : QS) (s4 : QS) (a1 : Int32) (sz : Nat) (o : Int32 × QS × QS × QS) (h : qf_Qs_load a1 s1 s3 s4 = some o) : Met l qy_Qs_load (ql_Qs_load :: qG) ({ frames := 7, cells := 0, slots := 0, locals := 156 } : Room) (qPcS dC dI cI cC cB cM aK aV [.ref h0, .int a1] sz [(h0, .inr (6, [.ref (d0 0), .ref (d0 1), .ref (d0 2), .ref (d0 3)])), ((d0 0), .inr (5, [.ref (d1 0), .int (s1 1 0), .ref (d1 2), .int (s1 3 0), .ref (d1 4), .int (s1 5 0)])), (d1 0, .inl (cC, 60, .inl (s1 0))), (d1 2, .inl (cI, 60, .inl (s1 2))), (d1 4, .inl (cI, 6, .inl (s1 4))), ((d0 2), .inl (cM, 2, .inr (.inr (.inr (.inr (qmf (d2 100) (d2 101))))))), ((d2 100), .inr (3, [.ref (d3 0), .int (s3 1 0), .int (s3 2 0), .ref (d3 3), .ref (d3 4), .int (s3 5 0), .int (s3 6 0), .ref (d3 7), .ref (d3 8)])), (d3 0, .inl (cI, 60, .inl (s3 0))), (d3 3, .inl (cI, 4, .inl (s3 3))), (d3 4, .inl (cI, 3, .inl (s3 4))), ((d2 101), .inr (3, [.ref (d4 0), .int (s4 1 0), .int (s4 2 0), .ref (d4 3), .ref (d4 4), .int (s4 5 0), .int (s4 6 0), .ref (d4 7), .ref (d4 8)])), (d4 0, .inl (cI, 60, .inl (s4 0))), (d4 3, .inl (cI, 4, .inl (s4 3))), (d4 4, .inl (cI, 3, .inl (s4 4)))]) (va_Qi (fun r (_ : Unit) => r = o.1) (fun _ t => va_P (dC, dI) qCl [(h0, .inr (6, [.ref (d0 0), .ref (d0 1), .ref (d0 2), .ref (d0 3)])), ((d0 0), .inr (5, [.ref (d1 0), .int (o.2.1 1 0), .ref (d1 2), .int (o.2.1 3 0), .ref (d1 4), .int (o.2.1 5 0)])), (d1 0, .inl (cC, 60, .inl (o.2.1 0))), (d1 2, .inl (cI, 60, .inl (o.2.1 2))), (d1 4, .inl (cI, 6, .inl (o.2.1 4))), ((d0 2), .inl (cM, 2, .inr (.inr (.inr (.inr (qmf (d2 100) (d2 101))))))), ((d2 100), .inr (3, [.ref (d3 0), .int (o.2.2.1 1 0), .int (o.2.2.1 2 0), .ref (d3 3), .ref (d3 4), .int (o.2.2.1 5 0), .int (o.2.2.1 6 0), .ref (d3 7), .ref (d3 8)])), (d3 0, .inl (cI, 60, .inl (o.2.2.1 0))), (d3 3, .inl (cI, 4, .inl (o.2.2.1 3))), (d3 4, .inl (cI, 3, .inl (o.2.2.1 4))), ((d2 101), .inr (3, [.ref (d4 0), .int (o.2.2.2 1 0), .int (o.2.2.2 2 0), .ref (d4 3), .ref (d4 4), .int (o.2.2.2 5 0), .int (o.2.2.2 6 0), .ref (d4 7), .ref (d4 8)])), (d4 0, .inl (cI, 60, .inl (o.2.2.2 0))), (d4 3, .inl (cI, 4, .inl (o.2.2.2 3))), (d4 4, .inl (cI, 3, .inl (o.2.2.2 4)))] t.heap ∧ va_D (va_A [(h0, .inr (6, [.ref (d0 0), .ref (d0 1), .ref (d0 2), .ref (d0 3)])), ((d0 0), .inr (5, [.ref (d1 0), .int (s1 1 0), .ref (d1 2), .int (s1 3 0), .ref (d1 4), .int (s1 5 0)])), (d1 0, .inl (cC, 60, .inl (s1 0))), (d1 2, .inl (cI, 60, .inl (s1 2))), (d1 4, .inl (cI, 6, .inl (s1 4))), ((d0 2), .inl (cM, 2, .inr (.inr (.inr (.inr (qmf (d2 100) (d2 101))))))), ((d2 100), .inr (3, [.ref (d3 0), .int (s3 1 0), .int (s3 2 0), .ref (d3 3), .ref (d3 4), .int (s3 5 0), .int (s3 6 0), .ref (d3 7), .ref (d3 8)])), (d3 0, .inl (cI, 60, .inl (s3 0))), (d3 3, .inl (cI, 4, .inl (s3 3))), (d3 4, .inl (cI, 3, .inl (s3 4))), ((d2 101), .inr (3, [.ref (d4 0), .int (s4 1 0), .int (s4 2 0), .ref (d4 3), .ref (d4 4), .int (s4 5 0), .int (s4 6 0), .ref (d4 7), .ref (d4 8)])), (d4 0, .inl (cI, 60, .inl (s4 0))), (d4 3, .inl (cI, 4, .inl (s4 3))), (d4 4, .inl (cI, 3, .inl (s4 4)))] sz) [(h0, .inr (6, [.ref (d0 0), .ref (d0 1), .ref (d0 2), .ref (d0 3)])), ((d0 0), .inr (5, [.ref (d1 0), .int (o.2.1 1 0), .ref (d1 2), .int (o.2.1 3 0), .ref (d1 4), .int (o.2.1 5 0)])), (d1 0, .inl (cC, 60, .inl (o.2.1 0))), (d1 2, .inl (cI, 60, .inl (o.2.1 2))), (d1 4, .inl (cI, 6, .inl (o.2.1 4))), ((d0 2), .inl (cM, 2, .inr (.inr (.inr (.inr (qmf (d2 100) (d2 101))))))), ((d2 100), .inr (3, [.ref (d3 0), .int (o.2.2.1 1 0), .int (o.2.2.1 2 0), .ref (d3 3), .ref (d3 4), .int (o.2.2.1 5 0), .int (o.2.2.1 6 0), .ref (d3 7), .ref (d3 8)])), (d3 0, .inl (cI, 60, .inl (o.2.2.1 0))), (d3 3, .inl (cI, 4, .inl (o.2.2.1 3))), (d3 4, .inl (cI, 3, .inl (o.2.2.1 4))), ((d2 101), .inr (3, [.ref (d4 0), .int (o.2.2.2 1 0), .int (o.2.2.2 2 0), .ref (d4 3), .ref (d4 4), .int (o.2.2.2 5 0), .int (o.2.2.2 6 0), .ref (d4 7), .ref (d4 8)])), (d4 0, .inl (cI, 60, .inl (o.2.2.2 0))), (d4 3, .inl (cI, 4, .inl (o.2.2.2 3))), (d4 4, .inl (cI, 3, .inl (o.2.2.2 4)))]) (va_A [(h0, .inr (6, [.ref (d0 0), .ref (d0 1), .ref (d0 2), .ref (d0 3)])), ((d0 0), .inr (5, [.ref (d1 0), .int (s1 1 0), .ref (d1 2), .int (s1 3 0), .ref (d1 4), .int (s1 5 0)])), (d1 0, .inl (cC, 60, .inl (s1 0))), (d1 2, .inl (cI, 60, .inl (s1 2))), (d1 4, .inl (cI, 6, .inl (s1 4))), ((d0 2), .inl (cM, 2, .inr (.inr (.inr (.inr (qmf (d2 100) (d2 101))))))), ((d2 100), .inr (3, [.ref (d3 0), .int (s3 1 0), .int (s3 2 0), .ref (d3 3), .ref (d3 4), .int (s3 5 0), .int (s3 6 0), .ref (d3 7), .ref (d3 8)])), (d3 0, .inl (cI, 60, .inl (s3 0))), (d3 3, .inl (cI, 4, .inl (s3 3))), (d3 4, .inl (cI, 3, .inl (s3 4))), ((d2 101), .inr (3, [.ref (d4 0), .int (s4 1 0), .int (s4 2 0), .ref (d4 3), .ref (d4 4), .int (s4 5 0), .int (s4 6 0), .ref (d4 7), .ref (d4 8)])), (d4 0, .inl (cI, 60, .inl (s4 0))), (d4 3, .inl (cI, 4, .inl (s4 3))), (d4 4, .inl (cI, 3, .inl (s4 4)))] sz)) 0 0 (va_A [(h0, .inr (6, [.ref (d0 0), .ref (d0 1), .ref (d0 2), .ref (d0 3)])), ((d0 0), .inr (5, [.ref (d1 0), .int (s1 1 0), .ref (d1 2), .int (s1 3 0), .ref (d1 4), .int (s1 5 0)])), (d1 0, .inl (cC, 60, .inl (s1 0))), (d1 2, .inl (cI, 60, .inl (s1 2))), (d1 4, .inl (cI, 6, .inl (s1 4))), ((d0 2), .inl (cM, 2, .inr (.inr (.inr (.inr (qmf (d2 100) (d2 101))))))), ((d2 100), .inr (3, [.ref (d3 0), .int (s3 1 0), .int (s3 2 0), .ref (d3 3), .ref (d3 4), .int (s3 5 0), .int (s3 6 0), .ref (d3 7), .ref (d3 8)])), (d3 0, .inl (cI, 60, .inl (s3 0))), (d3 3, .inl (cI, 4, .inl (s3 3))), (d3 4, .inl (cI, 3, .inl (s3 4))), ((d2 101), .inr (3, [.ref (d4 0), .int (s4 1 0), .int (s4 2 0), .ref (d4 3), .ref (d4 4), .int (s4 5 0), .int (s4 6 0), .ref (d4 7), .ref (d4 8)])), (d4 0, .inl (cI, 60, .inl (s4 0))), (d4 3, .inl (cI, 4, .inl (s4 3))), (d4 4, .inl (cI, 3, .inl (s4 4)))] sz) := by
  refine Met.ofW (cc := qc_Qs_load) (maxL := 3) (ret := (some .int)) (by decide) rfl ?_
  intro p e s m args below meth c s₁ B hml hv
  obtain ⟨rfl, hsz, hP, hK, hD0, hT⟩ := hv
  have hx := B.exec
  have hb := B.bytes
  have hr := B.returns
  have hts0 := atoms_spec (ws := ql_Qs_load :: qG) B.pre
  have hts := fun (w : Cond) (hw : w ∈ qG) => hts0 w (List.mem_cons_of_mem _ hw)
  have hown : s.vm.findClass "QuietSweep" = some m.cls := findClass_of_methodNamed B.named
  have hlocks := B.notSynchronized
  subst hsz
  have hD := hD0.self (sz := s.heap.size)
  generalize hAe : va_A [(h0, .inr (6, [.ref (d0 0), .ref (d0 1), .ref (d0 2), .ref (d0 3)])), ((d0 0), .inr (5, [.ref (d1 0), .int (s1 1 0), .ref (d1 2), .int (s1 3 0), .ref (d1 4), .int (s1 5 0)])), (d1 0, .inl (cC, 60, .inl (s1 0))), (d1 2, .inl (cI, 60, .inl (s1 2))), (d1 4, .inl (cI, 6, .inl (s1 4))), ((d0 2), .inl (cM, 2, .inr (.inr (.inr (.inr (qmf (d2 100) (d2 101))))))), ((d2 100), .inr (3, [.ref (d3 0), .int (s3 1 0), .int (s3 2 0), .ref (d3 3), .ref (d3 4), .int (s3 5 0), .int (s3 6 0), .ref (d3 7), .ref (d3 8)])), (d3 0, .inl (cI, 60, .inl (s3 0))), (d3 3, .inl (cI, 4, .inl (s3 3))), (d3 4, .inl (cI, 3, .inl (s3 4))), ((d2 101), .inr (3, [.ref (d4 0), .int (s4 1 0), .int (s4 2 0), .ref (d4 3), .ref (d4 4), .int (s4 5 0), .int (s4 6 0), .ref (d4 7), .ref (d4 8)])), (d4 0, .inl (cI, 60, .inl (s4 0))), (d4 3, .inl (cI, 4, .inl (s4 3))), (d4 4, .inl (cI, 3, .inl (s4 4)))] s.heap.size = A at hD hT ⊢
  have hA : ∀ q : Nat, s.heap.size ≤ q → A q := fun q h => by rw [← hAe]; exact Or.inr h
  have hS : va_S A s.heap s.heap [] := va_S.rf
  have hl := lv_entry ([.ref h0, .int a1]) (n := 3) (Nat.le_of_ble_eq_true rfl)
  rw [lg_entry_eq]
  generalize (lg_sl ([.ref h0, .int a1]) ++ List.replicate (3 - (lg_sl ([.ref h0, .int a1])).length) Slot.unset).toArray = ls at hl ⊢
  have hl : lv_has ls 3 [(0, .ref h0), (1, .int a1)] := hl
  unfold qf_Qs_load at h
  refine lv_aload_n hx hb qd_Qs_load_0 rfl (lv_at hl 0 rfl) ?_
  refine va_get (D := (dC, dI)) (ci := 6) (v := .ref (d0 0)) (C := "QuietSweep") (T := qT_Qs) (N := 4) hx hb hts qi_Qs hown hK.1 hP 0 rfl rfl 0 (by decide) (hts _ qw_176) (fun _ h9 => h9) rfl qd_Qs_load_1 ?_
  obtain ⟨q1, hq1, h⟩ := qq_b h
  have hPc := hP.sub (ws' := [((d0 0), .inr (5, [.ref (d1 0), .int (s1 1 0), .ref (d1 2), .int (s1 3 0), .ref (d1 4), .int (s1 5 0)])), (d1 0, .inl (cC, 60, .inl (s1 0))), (d1 2, .inl (cI, 60, .inl (s1 2))), (d1 4, .inl (cI, 6, .inl (s1 4)))]) [1, 2, 3, 4] rfl
  have hDc := hD.sub (ws' := [((d0 0), .inr (5, [.ref (d1 0), .int (s1 1 0), .ref (d1 2), .int (s1 3 0), .ref (d1 4), .int (s1 5 0)])), (d1 0, .inl (cC, 60, .inl (s1 0))), (d1 2, .inl (cI, 60, .inl (s1 2))), (d1 4, .inl (cI, 6, .inl (s1 4)))]) [1, 2, 3, 4] (by decide) rfl
  have hFc := va_free (wc := [((d0 0), .inr (5, [.ref (d1 0), .int (s1 1 0), .ref (d1 2), .int (s1 3 0), .ref (d1 4), .int (s1 5 0)])), (d1 0, .inl (cC, 60, .inl (s1 0))), (d1 2, .inl (cI, 60, .inl (s1 2))), (d1 4, .inl (cI, 6, .inl (s1 4)))]) hD hS hA [1, 2, 3, 4] rfl
  refine va_calli (va_runV (As := []) (rest := []) ⟨hx, hb, hml, hown, hts⟩ (qm_Src_translate l dC dI cI cC cB cM aK aV (d0 0) d1 s1 _ q1 hq1) (q_CW hts qw_201 qw_202 qw_203 qw_2 qw_204 qh_Src_translate rfl rfl ⟨by decide, by decide⟩) (q_preVS [] 0 rfl rfl hK hPc hDc hT hS hFc) rfl rfl hl.1 rfl (lv_room (Nat.le_of_ble_eq_true rfl)) qd_Qs_load_4 ⟨Nat.zero_le _, Nat.zero_le _⟩) hS (fun q _ h => hFc q h) hFc (fun r u t H1 locs ht hvm hw hB hz1 hk1 hS => ?_)
  have hw : q1.1 = r := Eq.symm hw
  subst hw
  obtain ⟨hP1, hD1⟩ := hB
  rw [ht] at hP1
  obtain ⟨hP, hD⟩ := va_join (wr := [(h0, .inr (6, [.ref (d0 0), .ref (d0 1), .ref (d0 2), .ref (d0 3)])), ((d0 2), .inl (cM, 2, .inr (.inr (.inr (.inr (qmf (d2 100) (d2 101))))))), ((d2 100), .inr (3, [.ref (d3 0), .int (s3 1 0), .int (s3 2 0), .ref (d3 3), .ref (d3 4), .int (s3 5 0), .int (s3 6 0), .ref (d3 7), .ref (d3 8)])), (d3 0, .inl (cI, 60, .inl (s3 0))), (d3 3, .inl (cI, 4, .inl (s3 3))), (d3 4, .inl (cI, 3, .inl (s3 4))), ((d2 101), .inr (3, [.ref (d4 0), .int (s4 1 0), .int (s4 2 0), .ref (d4 3), .ref (d4 4), .int (s4 5 0), .int (s4 6 0), .ref (d4 7), .ref (d4 8)])), (d4 0, .inl (cI, 60, .inl (s4 0))), (d4 3, .inl (cI, 4, .inl (s4 3))), (d4 4, .inl (cI, 3, .inl (s4 4)))]) (w1 := [((d0 0), .inr (5, [.ref (d1 0), .int (q1.2 1 0), .ref (d1 2), .int (q1.2 3 0), .ref (d1 4), .int (q1.2 5 0)])), (d1 0, .inl (cC, 60, .inl (q1.2 0))), (d1 2, .inl (cI, 60, .inl (q1.2 2))), (d1 4, .inl (cI, 6, .inl (q1.2 4)))]) hP hD [1, 2, 3, 4] [0, 5, 6, 7, 8, 9, 10, 11, 12, 13] rfl rfl (by decide) (by decide) hk1 hFc hP1 hD1
  have hP := hP.sub (ws' := [(h0, .inr (6, [.ref (d0 0), .ref (d0 1), .ref (d0 2), .ref (d0 3)])), ((d0 0), .inr (5, [.ref (d1 0), .int (q1.2 1 0), .ref (d1 2), .int (q1.2 3 0), .ref (d1 4), .int (q1.2 5 0)])), (d1 0, .inl (cC, 60, .inl (q1.2 0))), (d1 2, .inl (cI, 60, .inl (q1.2 2))), (d1 4, .inl (cI, 6, .inl (q1.2 4))), ((d0 2), .inl (cM, 2, .inr (.inr (.inr (.inr (qmf (d2 100) (d2 101))))))), ((d2 100), .inr (3, [.ref (d3 0), .int (s3 1 0), .int (s3 2 0), .ref (d3 3), .ref (d3 4), .int (s3 5 0), .int (s3 6 0), .ref (d3 7), .ref (d3 8)])), (d3 0, .inl (cI, 60, .inl (s3 0))), (d3 3, .inl (cI, 4, .inl (s3 3))), (d3 4, .inl (cI, 3, .inl (s3 4))), ((d2 101), .inr (3, [.ref (d4 0), .int (s4 1 0), .int (s4 2 0), .ref (d4 3), .ref (d4 4), .int (s4 5 0), .int (s4 6 0), .ref (d4 7), .ref (d4 8)])), (d4 0, .inl (cI, 60, .inl (s4 0))), (d4 3, .inl (cI, 4, .inl (s4 3))), (d4 4, .inl (cI, 3, .inl (s4 4)))]) [0, 10, 11, 12, 13, 1, 2, 3, 4, 5, 6, 7, 8, 9] rfl
  have hD := hD.sub (ws' := [(h0, .inr (6, [.ref (d0 0), .ref (d0 1), .ref (d0 2), .ref (d0 3)])), ((d0 0), .inr (5, [.ref (d1 0), .int (q1.2 1 0), .ref (d1 2), .int (q1.2 3 0), .ref (d1 4), .int (q1.2 5 0)])), (d1 0, .inl (cC, 60, .inl (q1.2 0))), (d1 2, .inl (cI, 60, .inl (q1.2 2))), (d1 4, .inl (cI, 6, .inl (q1.2 4))), ((d0 2), .inl (cM, 2, .inr (.inr (.inr (.inr (qmf (d2 100) (d2 101))))))), ((d2 100), .inr (3, [.ref (d3 0), .int (s3 1 0), .int (s3 2 0), .ref (d3 3), .ref (d3 4), .int (s3 5 0), .int (s3 6 0), .ref (d3 7), .ref (d3 8)])), (d3 0, .inl (cI, 60, .inl (s3 0))), (d3 3, .inl (cI, 4, .inl (s3 3))), (d3 4, .inl (cI, 3, .inl (s3 4))), ((d2 101), .inr (3, [.ref (d4 0), .int (s4 1 0), .int (s4 2 0), .ref (d4 3), .ref (d4 4), .int (s4 5 0), .int (s4 6 0), .ref (d4 7), .ref (d4 8)])), (d4 0, .inl (cI, 60, .inl (s4 0))), (d4 3, .inl (cI, 4, .inl (s4 3))), (d4 4, .inl (cI, 3, .inl (s4 4)))]) [0, 10, 11, 12, 13, 1, 2, 3, 4, 5, 6, 7, 8, 9] (by decide) rfl
  refine lv_istore_n (lv' := [(2, .int q1.1), (0, .ref h0), (1, .int a1)]) hx hb qd_Qs_load_7 rfl hl (by decide) rfl (fun ls hl => ?_)
  refine lv_aload_n hx hb qd_Qs_load_8 rfl (lv_at hl 1 rfl) ?_
  refine va_get (D := (dC, dI)) (ci := 6) (v := .ref (d0 0)) (C := "QuietSweep") (T := qT_Qs) (N := 4) hx hb hts qi_Qs hown hK.1 hP 0 rfl rfl 0 (by decide) (hts _ qw_176) (fun _ h9 => h9) rfl qd_Qs_load_9 ?_
  obtain ⟨q2, hq2, h⟩ := qq_b h
  have hPc := hP.sub (ws' := [((d0 0), .inr (5, [.ref (d1 0), .int (q1.2 1 0), .ref (d1 2), .int (q1.2 3 0), .ref (d1 4), .int (q1.2 5 0)])), (d1 0, .inl (cC, 60, .inl (q1.2 0))), (d1 2, .inl (cI, 60, .inl (q1.2 2))), (d1 4, .inl (cI, 6, .inl (q1.2 4)))]) [1, 2, 3, 4] rfl
  have hDc := hD.sub (ws' := [((d0 0), .inr (5, [.ref (d1 0), .int (q1.2 1 0), .ref (d1 2), .int (q1.2 3 0), .ref (d1 4), .int (q1.2 5 0)])), (d1 0, .inl (cC, 60, .inl (q1.2 0))), (d1 2, .inl (cI, 60, .inl (q1.2 2))), (d1 4, .inl (cI, 6, .inl (q1.2 4)))]) [1, 2, 3, 4] (by decide) rfl
  have hFc := va_free (wc := [((d0 0), .inr (5, [.ref (d1 0), .int (q1.2 1 0), .ref (d1 2), .int (q1.2 3 0), .ref (d1 4), .int (q1.2 5 0)])), (d1 0, .inl (cC, 60, .inl (q1.2 0))), (d1 2, .inl (cI, 60, .inl (q1.2 2))), (d1 4, .inl (cI, 6, .inl (q1.2 4)))]) hD hS hA [1, 2, 3, 4] rfl
  refine va_callv (va_runV (As := []) (rest := []) ⟨hx, hb, hml, hown, hts⟩ (qm_Src_empty l dC dI cI cC cB cM (d0 0) d1 q1.2 _ q2 hq2) (q_CW hts qw_301 qw_302 qw_303 qw_2 qw_304 qh_Src_empty rfl rfl ⟨by decide, by decide⟩) (q_preV [] 0 rfl rfl hK hPc hDc) rfl rfl hl.1 rfl (lv_room (Nat.le_of_ble_eq_true rfl)) qd_Qs_load_12 ⟨Nat.zero_le _, Nat.zero_le _⟩) hS (fun q _ h => hFc q h) hFc (fun u t H1 locs ht hvm hw hB hz1 hk1 hS => ?_)
  obtain ⟨hP1, hD1⟩ := hB
  rw [ht] at hP1
  obtain ⟨hP, hD⟩ := va_join (wr := [(h0, .inr (6, [.ref (d0 0), .ref (d0 1), .ref (d0 2), .ref (d0 3)])), ((d0 2), .inl (cM, 2, .inr (.inr (.inr (.inr (qmf (d2 100) (d2 101))))))), ((d2 100), .inr (3, [.ref (d3 0), .int (s3 1 0), .int (s3 2 0), .ref (d3 3), .ref (d3 4), .int (s3 5 0), .int (s3 6 0), .ref (d3 7), .ref (d3 8)])), (d3 0, .inl (cI, 60, .inl (s3 0))), (d3 3, .inl (cI, 4, .inl (s3 3))), (d3 4, .inl (cI, 3, .inl (s3 4))), ((d2 101), .inr (3, [.ref (d4 0), .int (s4 1 0), .int (s4 2 0), .ref (d4 3), .ref (d4 4), .int (s4 5 0), .int (s4 6 0), .ref (d4 7), .ref (d4 8)])), (d4 0, .inl (cI, 60, .inl (s4 0))), (d4 3, .inl (cI, 4, .inl (s4 3))), (d4 4, .inl (cI, 3, .inl (s4 4)))]) (w1 := [((d0 0), .inr (5, [.ref (d1 0), .int (q2 1 0), .ref (d1 2), .int (q2 3 0), .ref (d1 4), .int (q2 5 0)])), (d1 0, .inl (cC, 60, .inl (q2 0))), (d1 2, .inl (cI, 60, .inl (q2 2))), (d1 4, .inl (cI, 6, .inl (q2 4)))]) hP hD [1, 2, 3, 4] [0, 5, 6, 7, 8, 9, 10, 11, 12, 13] rfl rfl (by decide) (by decide) hk1 hFc hP1 hD1
  have hP := hP.sub (ws' := [(h0, .inr (6, [.ref (d0 0), .ref (d0 1), .ref (d0 2), .ref (d0 3)])), ((d0 0), .inr (5, [.ref (d1 0), .int (q2 1 0), .ref (d1 2), .int (q2 3 0), .ref (d1 4), .int (q2 5 0)])), (d1 0, .inl (cC, 60, .inl (q2 0))), (d1 2, .inl (cI, 60, .inl (q2 2))), (d1 4, .inl (cI, 6, .inl (q2 4))), ((d0 2), .inl (cM, 2, .inr (.inr (.inr (.inr (qmf (d2 100) (d2 101))))))), ((d2 100), .inr (3, [.ref (d3 0), .int (s3 1 0), .int (s3 2 0), .ref (d3 3), .ref (d3 4), .int (s3 5 0), .int (s3 6 0), .ref (d3 7), .ref (d3 8)])), (d3 0, .inl (cI, 60, .inl (s3 0))), (d3 3, .inl (cI, 4, .inl (s3 3))), (d3 4, .inl (cI, 3, .inl (s3 4))), ((d2 101), .inr (3, [.ref (d4 0), .int (s4 1 0), .int (s4 2 0), .ref (d4 3), .ref (d4 4), .int (s4 5 0), .int (s4 6 0), .ref (d4 7), .ref (d4 8)])), (d4 0, .inl (cI, 60, .inl (s4 0))), (d4 3, .inl (cI, 4, .inl (s4 3))), (d4 4, .inl (cI, 3, .inl (s4 4)))]) [0, 10, 11, 12, 13, 1, 2, 3, 4, 5, 6, 7, 8, 9] rfl
  have hD := hD.sub (ws' := [(h0, .inr (6, [.ref (d0 0), .ref (d0 1), .ref (d0 2), .ref (d0 3)])), ((d0 0), .inr (5, [.ref (d1 0), .int (q2 1 0), .ref (d1 2), .int (q2 3 0), .ref (d1 4), .int (q2 5 0)])), (d1 0, .inl (cC, 60, .inl (q2 0))), (d1 2, .inl (cI, 60, .inl (q2 2))), (d1 4, .inl (cI, 6, .inl (q2 4))), ((d0 2), .inl (cM, 2, .inr (.inr (.inr (.inr (qmf (d2 100) (d2 101))))))), ((d2 100), .inr (3, [.ref (d3 0), .int (s3 1 0), .int (s3 2 0), .ref (d3 3), .ref (d3 4), .int (s3 5 0), .int (s3 6 0), .ref (d3 7), .ref (d3 8)])), (d3 0, .inl (cI, 60, .inl (s3 0))), (d3 3, .inl (cI, 4, .inl (s3 3))), (d3 4, .inl (cI, 3, .inl (s3 4))), ((d2 101), .inr (3, [.ref (d4 0), .int (s4 1 0), .int (s4 2 0), .ref (d4 3), .ref (d4 4), .int (s4 5 0), .int (s4 6 0), .ref (d4 7), .ref (d4 8)])), (d4 0, .inl (cI, 60, .inl (s4 0))), (d4 3, .inl (cI, 4, .inl (s4 3))), (d4 4, .inl (cI, 3, .inl (s4 4)))]) [0, 10, 11, 12, 13, 1, 2, 3, 4, 5, 6, 7, 8, 9] (by decide) rfl
  refine lv_iload_n hx hb qd_Qs_load_15 rfl (lv_at hl 2 rfl) ?_
  obtain ⟨q3, hq3, h⟩ := qq_b h
  have hPc := hP.sub (ws' := []) [] rfl
  have hDc := hD.sub (ws' := []) [] (by decide) rfl
  have hFc := va_free (wc := []) hD hS hA [] rfl
  refine va_calli (va_runS (As := [.int a1]) (rest := []) ⟨hx, hb, hml, hown, hts⟩ (qm_Qs_isMutator l dC dI cI cC cB cM a1 _ q3 hq3) ⟨q_CB hts qw_305 qw_1 qw_307 qh_Qs_isMutator rfl rfl ⟨by decide, by decide⟩, hts _ qw_306⟩ (q_preS [.int a1] hK hPc hDc) rfl rfl hl.1 rfl (lv_room (Nat.le_of_ble_eq_true rfl)) qd_Qs_load_16 ⟨Nat.zero_le _, Nat.zero_le _⟩) hS (fun q _ h => hFc q h) hFc (fun r u t H1 locs ht hvm hw hB hz1 hk1 hS => ?_)
  have hw : q3 = r := Eq.symm hw
  subst hw
  obtain ⟨hP1, hD1⟩ := hB
  rw [ht] at hP1
  obtain ⟨hP, hD⟩ := va_join (wr := [(h0, .inr (6, [.ref (d0 0), .ref (d0 1), .ref (d0 2), .ref (d0 3)])), ((d0 0), .inr (5, [.ref (d1 0), .int (q2 1 0), .ref (d1 2), .int (q2 3 0), .ref (d1 4), .int (q2 5 0)])), (d1 0, .inl (cC, 60, .inl (q2 0))), (d1 2, .inl (cI, 60, .inl (q2 2))), (d1 4, .inl (cI, 6, .inl (q2 4))), ((d0 2), .inl (cM, 2, .inr (.inr (.inr (.inr (qmf (d2 100) (d2 101))))))), ((d2 100), .inr (3, [.ref (d3 0), .int (s3 1 0), .int (s3 2 0), .ref (d3 3), .ref (d3 4), .int (s3 5 0), .int (s3 6 0), .ref (d3 7), .ref (d3 8)])), (d3 0, .inl (cI, 60, .inl (s3 0))), (d3 3, .inl (cI, 4, .inl (s3 3))), (d3 4, .inl (cI, 3, .inl (s3 4))), ((d2 101), .inr (3, [.ref (d4 0), .int (s4 1 0), .int (s4 2 0), .ref (d4 3), .ref (d4 4), .int (s4 5 0), .int (s4 6 0), .ref (d4 7), .ref (d4 8)])), (d4 0, .inl (cI, 60, .inl (s4 0))), (d4 3, .inl (cI, 4, .inl (s4 3))), (d4 4, .inl (cI, 3, .inl (s4 4)))]) (w1 := []) hP hD [] [0, 1, 2, 3, 4, 5, 6, 7, 8, 9, 10, 11, 12, 13] rfl rfl (by decide) (by decide) hk1 hFc hP1 hD1
  have hP := hP.sub (ws' := [(h0, .inr (6, [.ref (d0 0), .ref (d0 1), .ref (d0 2), .ref (d0 3)])), ((d0 0), .inr (5, [.ref (d1 0), .int (q2 1 0), .ref (d1 2), .int (q2 3 0), .ref (d1 4), .int (q2 5 0)])), (d1 0, .inl (cC, 60, .inl (q2 0))), (d1 2, .inl (cI, 60, .inl (q2 2))), (d1 4, .inl (cI, 6, .inl (q2 4))), ((d0 2), .inl (cM, 2, .inr (.inr (.inr (.inr (qmf (d2 100) (d2 101))))))), ((d2 100), .inr (3, [.ref (d3 0), .int (s3 1 0), .int (s3 2 0), .ref (d3 3), .ref (d3 4), .int (s3 5 0), .int (s3 6 0), .ref (d3 7), .ref (d3 8)])), (d3 0, .inl (cI, 60, .inl (s3 0))), (d3 3, .inl (cI, 4, .inl (s3 3))), (d3 4, .inl (cI, 3, .inl (s3 4))), ((d2 101), .inr (3, [.ref (d4 0), .int (s4 1 0), .int (s4 2 0), .ref (d4 3), .ref (d4 4), .int (s4 5 0), .int (s4 6 0), .ref (d4 7), .ref (d4 8)])), (d4 0, .inl (cI, 60, .inl (s4 0))), (d4 3, .inl (cI, 4, .inl (s4 3))), (d4 4, .inl (cI, 3, .inl (s4 4)))]) [0, 1, 2, 3, 4, 5, 6, 7, 8, 9, 10, 11, 12, 13] rfl
  have hD := hD.sub (ws' := [(h0, .inr (6, [.ref (d0 0), .ref (d0 1), .ref (d0 2), .ref (d0 3)])), ((d0 0), .inr (5, [.ref (d1 0), .int (q2 1 0), .ref (d1 2), .int (q2 3 0), .ref (d1 4), .int (q2 5 0)])), (d1 0, .inl (cC, 60, .inl (q2 0))), (d1 2, .inl (cI, 60, .inl (q2 2))), (d1 4, .inl (cI, 6, .inl (q2 4))), ((d0 2), .inl (cM, 2, .inr (.inr (.inr (.inr (qmf (d2 100) (d2 101))))))), ((d2 100), .inr (3, [.ref (d3 0), .int (s3 1 0), .int (s3 2 0), .ref (d3 3), .ref (d3 4), .int (s3 5 0), .int (s3 6 0), .ref (d3 7), .ref (d3 8)])), (d3 0, .inl (cI, 60, .inl (s3 0))), (d3 3, .inl (cI, 4, .inl (s3 3))), (d3 4, .inl (cI, 3, .inl (s3 4))), ((d2 101), .inr (3, [.ref (d4 0), .int (s4 1 0), .int (s4 2 0), .ref (d4 3), .ref (d4 4), .int (s4 5 0), .int (s4 6 0), .ref (d4 7), .ref (d4 8)])), (d4 0, .inl (cI, 60, .inl (s4 0))), (d4 3, .inl (cI, 4, .inl (s4 3))), (d4 4, .inl (cI, 3, .inl (s4 4)))]) [0, 1, 2, 3, 4, 5, 6, 7, 8, 9, 10, 11, 12, 13] (by decide) rfl
  refine lv_if_ne hx hb qd_Qs_load_19 (tgt := 24) (by decide) (fun hc => ?_) (fun hc => ?_)
  · have h := qq_f hc h
    refine lv_iload_n hx hb qd_Qs_load_24 rfl (lv_at hl 0 rfl) ?_
    refine lv_if_ne hx hb qd_Qs_load_25 (tgt := 31) (by decide) (fun hc => ?_) (fun hc => ?_)
    · have h := qq_f hc h
      refine lv_aload_n hx hb qd_Qs_load_31 rfl (lv_at hl 1 rfl) ?_
      refine va_get (D := (dC, dI)) (ci := 6) (v := .ref (d0 2)) (C := "QuietSweep") (T := qT_Qs) (N := 4) hx hb hts qi_Qs hown hK.1 hP 0 rfl rfl 2 (by decide) (hts _ qw_178) (fun _ h9 => h9) rfl qd_Qs_load_32 ?_
      refine lv_iload_n hx hb qd_Qs_load_35 rfl (lv_at hl 2 rfl) ?_
      by_cases hc4 : a1 = 0
      · have h := qq_t hc4 h
        refine va_aldq hx hb hK.1 hP 5 3 rfl rfl (show vp_in _ 2 by rw [hc4]; exact (by decide : ¬ ((0 : Int32) < 0 ∨ 2 ≤ (0 : Int32).toNatClampNeg))) qd_Qs_load_36 ?_
        refine W.eq (g2 := F0 m 37 ls [.ref (d2 100)]) (by rw [hc4]; rfl) ?_
        refine lv_aload_n hx hb qd_Qs_load_37 rfl (lv_at hl 1 rfl) ?_
        refine va_get (D := (dC, dI)) (ci := 6) (v := .ref (d0 0)) (C := "QuietSweep") (T := qT_Qs) (N := 4) hx hb hts qi_Qs hown hK.1 hP 0 rfl rfl 0 (by decide) (hts _ qw_176) (fun _ h9 => h9) rfl qd_Qs_load_38 ?_
        refine va_getN (D := (dC, dI)) (ci := 5) (v := .ref (d1 2)) (C := "QuietSweep$Source") (T := qT_Src) (N := 6) hx hb hts qi_Src hown hK.1 hP 1 rfl rfl 2 (by decide) (qNs_use hK.2 qu_33) (fun _ h9 => h9) rfl qd_Qs_load_41 ?_
        refine lv_aload_n hx hb qd_Qs_load_44 rfl (lv_at hl 1 rfl) ?_
        refine va_get (D := (dC, dI)) (ci := 6) (v := .ref (d0 0)) (C := "QuietSweep") (T := qT_Qs) (N := 4) hx hb hts qi_Qs hown hK.1 hP 0 rfl rfl 0 (by decide) (hts _ qw_176) (fun _ h9 => h9) rfl qd_Qs_load_45 ?_
        refine va_getN (D := (dC, dI)) (ci := 5) (v := .int (q2 3 0)) (C := "QuietSweep$Source") (T := qT_Src) (N := 6) hx hb hts qi_Src hown hK.1 hP 1 rfl rfl 3 (by decide) (qNs_use hK.2 qu_35) (fun _ h9 => h9) rfl qd_Qs_load_48 ?_
        obtain ⟨q6, hq6, h⟩ := qq_b h
        have hPc := hP.sub (ws' := [((d2 100), .inr (3, [.ref (d3 0), .int (s3 1 0), .int (s3 2 0), .ref (d3 3), .ref (d3 4), .int (s3 5 0), .int (s3 6 0), .ref (d3 7), .ref (d3 8)])), (d3 0, .inl (cI, 60, .inl (s3 0))), (d3 3, .inl (cI, 4, .inl (s3 3))), (d3 4, .inl (cI, 3, .inl (s3 4))), ((d1 2), .inl (cI, 60, .inl (q2 2)))]) [6, 7, 8, 9, 3] rfl
        have hDc := hD.sub (ws' := [((d2 100), .inr (3, [.ref (d3 0), .int (s3 1 0), .int (s3 2 0), .ref (d3 3), .ref (d3 4), .int (s3 5 0), .int (s3 6 0), .ref (d3 7), .ref (d3 8)])), (d3 0, .inl (cI, 60, .inl (s3 0))), (d3 3, .inl (cI, 4, .inl (s3 3))), (d3 4, .inl (cI, 3, .inl (s3 4))), ((d1 2), .inl (cI, 60, .inl (q2 2)))]) [6, 7, 8, 9, 3] (by decide) rfl
        have hFc := va_free (wc := [((d2 100), .inr (3, [.ref (d3 0), .int (s3 1 0), .int (s3 2 0), .ref (d3 3), .ref (d3 4), .int (s3 5 0), .int (s3 6 0), .ref (d3 7), .ref (d3 8)])), (d3 0, .inl (cI, 60, .inl (s3 0))), (d3 3, .inl (cI, 4, .inl (s3 3))), (d3 4, .inl (cI, 3, .inl (s3 4))), ((d1 2), .inl (cI, 60, .inl (q2 2)))]) hD hS hA [6, 7, 8, 9, 3] rfl
        refine va_callv (va_runV (As := [.ref (d1 2), .int (q2 3 0)]) (rest := []) ⟨hx, hb, hml, hown, hts⟩ (qm_Mut_install l dC dI cI cC cB cM (d2 100) (d1 2) d3 s3 (fun _ => (q2 2)) (q2 3 0) _ q6 hq6) (q_CW hts qw_308 qw_309 qw_310 qw_4 qw_311 qh_Mut_install rfl rfl ⟨by decide, by decide⟩) (q_preV [.ref (d1 2), .int (q2 3 0)] 0 rfl rfl hK hPc hDc) rfl rfl hl.1 rfl (lv_room (Nat.le_of_ble_eq_true rfl)) qd_Qs_load_51 ⟨Nat.zero_le _, Nat.zero_le _⟩) hS (fun q _ h => hFc q h) hFc (fun u t H1 locs ht hvm hw hB hz1 hk1 hS => ?_)
        obtain ⟨hP1, hD1⟩ := hB
        rw [ht] at hP1
        obtain ⟨hP, hD⟩ := va_join (wr := [(h0, .inr (6, [.ref (d0 0), .ref (d0 1), .ref (d0 2), .ref (d0 3)])), ((d0 0), .inr (5, [.ref (d1 0), .int (q2 1 0), .ref (d1 2), .int (q2 3 0), .ref (d1 4), .int (q2 5 0)])), (d1 0, .inl (cC, 60, .inl (q2 0))), (d1 4, .inl (cI, 6, .inl (q2 4))), ((d0 2), .inl (cM, 2, .inr (.inr (.inr (.inr (qmf (d2 100) (d2 101))))))), ((d2 101), .inr (3, [.ref (d4 0), .int (s4 1 0), .int (s4 2 0), .ref (d4 3), .ref (d4 4), .int (s4 5 0), .int (s4 6 0), .ref (d4 7), .ref (d4 8)])), (d4 0, .inl (cI, 60, .inl (s4 0))), (d4 3, .inl (cI, 4, .inl (s4 3))), (d4 4, .inl (cI, 3, .inl (s4 4)))]) (w1 := [((d2 100), .inr (3, [.ref (d3 0), .int (q6 1 0), .int (q6 2 0), .ref (d3 3), .ref (d3 4), .int (q6 5 0), .int (q6 6 0), .ref (d3 7), .ref (d3 8)])), (d3 0, .inl (cI, 60, .inl (q6 0))), (d3 3, .inl (cI, 4, .inl (q6 3))), (d3 4, .inl (cI, 3, .inl (q6 4))), ((d1 2), .inl (cI, 60, .inl (q2 2)))]) hP hD [6, 7, 8, 9, 3] [0, 1, 2, 4, 5, 10, 11, 12, 13] rfl rfl (by decide) (by decide) hk1 hFc hP1 hD1
        have hP := hP.sub (ws' := [(h0, .inr (6, [.ref (d0 0), .ref (d0 1), .ref (d0 2), .ref (d0 3)])), ((d0 0), .inr (5, [.ref (d1 0), .int (q2 1 0), .ref (d1 2), .int (q2 3 0), .ref (d1 4), .int (q2 5 0)])), (d1 0, .inl (cC, 60, .inl (q2 0))), (d1 2, .inl (cI, 60, .inl (q2 2))), (d1 4, .inl (cI, 6, .inl (q2 4))), ((d0 2), .inl (cM, 2, .inr (.inr (.inr (.inr (qmf (d2 100) (d2 101))))))), ((d2 100), .inr (3, [.ref (d3 0), .int (q6 1 0), .int (q6 2 0), .ref (d3 3), .ref (d3 4), .int (q6 5 0), .int (q6 6 0), .ref (d3 7), .ref (d3 8)])), (d3 0, .inl (cI, 60, .inl (q6 0))), (d3 3, .inl (cI, 4, .inl (q6 3))), (d3 4, .inl (cI, 3, .inl (q6 4))), ((d2 101), .inr (3, [.ref (d4 0), .int (s4 1 0), .int (s4 2 0), .ref (d4 3), .ref (d4 4), .int (s4 5 0), .int (s4 6 0), .ref (d4 7), .ref (d4 8)])), (d4 0, .inl (cI, 60, .inl (s4 0))), (d4 3, .inl (cI, 4, .inl (s4 3))), (d4 4, .inl (cI, 3, .inl (s4 4)))]) [0, 1, 2, 13, 3, 4, 9, 10, 11, 12, 5, 6, 7, 8] rfl
        have hD := hD.sub (ws' := [(h0, .inr (6, [.ref (d0 0), .ref (d0 1), .ref (d0 2), .ref (d0 3)])), ((d0 0), .inr (5, [.ref (d1 0), .int (q2 1 0), .ref (d1 2), .int (q2 3 0), .ref (d1 4), .int (q2 5 0)])), (d1 0, .inl (cC, 60, .inl (q2 0))), (d1 2, .inl (cI, 60, .inl (q2 2))), (d1 4, .inl (cI, 6, .inl (q2 4))), ((d0 2), .inl (cM, 2, .inr (.inr (.inr (.inr (qmf (d2 100) (d2 101))))))), ((d2 100), .inr (3, [.ref (d3 0), .int (q6 1 0), .int (q6 2 0), .ref (d3 3), .ref (d3 4), .int (q6 5 0), .int (q6 6 0), .ref (d3 7), .ref (d3 8)])), (d3 0, .inl (cI, 60, .inl (q6 0))), (d3 3, .inl (cI, 4, .inl (q6 3))), (d3 4, .inl (cI, 3, .inl (q6 4))), ((d2 101), .inr (3, [.ref (d4 0), .int (s4 1 0), .int (s4 2 0), .ref (d4 3), .ref (d4 4), .int (s4 5 0), .int (s4 6 0), .ref (d4 7), .ref (d4 8)])), (d4 0, .inl (cI, 60, .inl (s4 0))), (d4 3, .inl (cI, 4, .inl (s4 3))), (d4 4, .inl (cI, 3, .inl (s4 4)))]) [0, 1, 2, 13, 3, 4, 9, 10, 11, 12, 5, 6, 7, 8] (by decide) rfl
        refine lv_aload_n hx hb qd_Qs_load_54 rfl (lv_at hl 1 rfl) ?_
        refine va_get (D := (dC, dI)) (ci := 6) (v := .ref (d0 0)) (C := "QuietSweep") (T := qT_Qs) (N := 4) hx hb hts qi_Qs hown hK.1 hP 0 rfl rfl 0 (by decide) (hts _ qw_176) (fun _ h9 => h9) rfl qd_Qs_load_55 ?_
        refine va_getN (D := (dC, dI)) (ci := 5) (v := .int (q2 3 0)) (C := "QuietSweep$Source") (T := qT_Src) (N := 6) hx hb hts qi_Src hown hK.1 hP 1 rfl rfl 3 (by decide) (qNs_use hK.2 qu_35) (fun _ h9 => h9) rfl qd_Qs_load_58 ?_
        obtain rfl := Option.some.inj h
        exact W.iret (v := (q2 3 0)) hx hb hr (fun t ht hW => ⟨⟨(q2 3 0), (), rfl, rfl, by rw [ht]; exact hP, hD⟩, hS.F ht⟩) hS.2.2 qd_Qs_load_61
      have h := qq_f hc4 h
      by_cases hc5 : a1 = 1
      · have h := qq_t hc5 h
        refine va_aldq hx hb hK.1 hP 5 3 rfl rfl (show vp_in _ 2 by rw [hc5]; exact (by decide : ¬ ((1 : Int32) < 0 ∨ 2 ≤ (1 : Int32).toNatClampNeg))) qd_Qs_load_36 ?_
        refine W.eq (g2 := F0 m 37 ls [.ref (d2 101)]) (by rw [hc5]; rfl) ?_
        refine lv_aload_n hx hb qd_Qs_load_37 rfl (lv_at hl 1 rfl) ?_
        refine va_get (D := (dC, dI)) (ci := 6) (v := .ref (d0 0)) (C := "QuietSweep") (T := qT_Qs) (N := 4) hx hb hts qi_Qs hown hK.1 hP 0 rfl rfl 0 (by decide) (hts _ qw_176) (fun _ h9 => h9) rfl qd_Qs_load_38 ?_
        refine va_getN (D := (dC, dI)) (ci := 5) (v := .ref (d1 2)) (C := "QuietSweep$Source") (T := qT_Src) (N := 6) hx hb hts qi_Src hown hK.1 hP 1 rfl rfl 2 (by decide) (qNs_use hK.2 qu_33) (fun _ h9 => h9) rfl qd_Qs_load_41 ?_
        refine lv_aload_n hx hb qd_Qs_load_44 rfl (lv_at hl 1 rfl) ?_
        refine va_get (D := (dC, dI)) (ci := 6) (v := .ref (d0 0)) (C := "QuietSweep") (T := qT_Qs) (N := 4) hx hb hts qi_Qs hown hK.1 hP 0 rfl rfl 0 (by decide) (hts _ qw_176) (fun _ h9 => h9) rfl qd_Qs_load_45 ?_
        refine va_getN (D := (dC, dI)) (ci := 5) (v := .int (q2 3 0)) (C := "QuietSweep$Source") (T := qT_Src) (N := 6) hx hb hts qi_Src hown hK.1 hP 1 rfl rfl 3 (by decide) (qNs_use hK.2 qu_35) (fun _ h9 => h9) rfl qd_Qs_load_48 ?_
        obtain ⟨q7, hq7, h⟩ := qq_b h
        have hPc := hP.sub (ws' := [((d2 101), .inr (3, [.ref (d4 0), .int (s4 1 0), .int (s4 2 0), .ref (d4 3), .ref (d4 4), .int (s4 5 0), .int (s4 6 0), .ref (d4 7), .ref (d4 8)])), (d4 0, .inl (cI, 60, .inl (s4 0))), (d4 3, .inl (cI, 4, .inl (s4 3))), (d4 4, .inl (cI, 3, .inl (s4 4))), ((d1 2), .inl (cI, 60, .inl (q2 2)))]) [10, 11, 12, 13, 3] rfl
        have hDc := hD.sub (ws' := [((d2 101), .inr (3, [.ref (d4 0), .int (s4 1 0), .int (s4 2 0), .ref (d4 3), .ref (d4 4), .int (s4 5 0), .int (s4 6 0), .ref (d4 7), .ref (d4 8)])), (d4 0, .inl (cI, 60, .inl (s4 0))), (d4 3, .inl (cI, 4, .inl (s4 3))), (d4 4, .inl (cI, 3, .inl (s4 4))), ((d1 2), .inl (cI, 60, .inl (q2 2)))]) [10, 11, 12, 13, 3] (by decide) rfl
        have hFc := va_free (wc := [((d2 101), .inr (3, [.ref (d4 0), .int (s4 1 0), .int (s4 2 0), .ref (d4 3), .ref (d4 4), .int (s4 5 0), .int (s4 6 0), .ref (d4 7), .ref (d4 8)])), (d4 0, .inl (cI, 60, .inl (s4 0))), (d4 3, .inl (cI, 4, .inl (s4 3))), (d4 4, .inl (cI, 3, .inl (s4 4))), ((d1 2), .inl (cI, 60, .inl (q2 2)))]) hD hS hA [10, 11, 12, 13, 3] rfl
        refine va_callv (va_runV (As := [.ref (d1 2), .int (q2 3 0)]) (rest := []) ⟨hx, hb, hml, hown, hts⟩ (qm_Mut_install l dC dI cI cC cB cM (d2 101) (d1 2) d4 s4 (fun _ => (q2 2)) (q2 3 0) _ q7 hq7) (q_CW hts qw_308 qw_309 qw_310 qw_4 qw_311 qh_Mut_install rfl rfl ⟨by decide, by decide⟩) (q_preV [.ref (d1 2), .int (q2 3 0)] 0 rfl rfl hK hPc hDc) rfl rfl hl.1 rfl (lv_room (Nat.le_of_ble_eq_true rfl)) qd_Qs_load_51 ⟨Nat.zero_le _, Nat.zero_le _⟩) hS (fun q _ h => hFc q h) hFc (fun u t H1 locs ht hvm hw hB hz1 hk1 hS => ?_)
        obtain ⟨hP1, hD1⟩ := hB
        rw [ht] at hP1
        obtain ⟨hP, hD⟩ := va_join (wr := [(h0, .inr (6, [.ref (d0 0), .ref (d0 1), .ref (d0 2), .ref (d0 3)])), ((d0 0), .inr (5, [.ref (d1 0), .int (q2 1 0), .ref (d1 2), .int (q2 3 0), .ref (d1 4), .int (q2 5 0)])), (d1 0, .inl (cC, 60, .inl (q2 0))), (d1 4, .inl (cI, 6, .inl (q2 4))), ((d0 2), .inl (cM, 2, .inr (.inr (.inr (.inr (qmf (d2 100) (d2 101))))))), ((d2 100), .inr (3, [.ref (d3 0), .int (s3 1 0), .int (s3 2 0), .ref (d3 3), .ref (d3 4), .int (s3 5 0), .int (s3 6 0), .ref (d3 7), .ref (d3 8)])), (d3 0, .inl (cI, 60, .inl (s3 0))), (d3 3, .inl (cI, 4, .inl (s3 3))), (d3 4, .inl (cI, 3, .inl (s3 4)))]) (w1 := [((d2 101), .inr (3, [.ref (d4 0), .int (q7 1 0), .int (q7 2 0), .ref (d4 3), .ref (d4 4), .int (q7 5 0), .int (q7 6 0), .ref (d4 7), .ref (d4 8)])), (d4 0, .inl (cI, 60, .inl (q7 0))), (d4 3, .inl (cI, 4, .inl (q7 3))), (d4 4, .inl (cI, 3, .inl (q7 4))), ((d1 2), .inl (cI, 60, .inl (q2 2)))]) hP hD [10, 11, 12, 13, 3] [0, 1, 2, 4, 5, 6, 7, 8, 9] rfl rfl (by decide) (by decide) hk1 hFc hP1 hD1
        have hP := hP.sub (ws' := [(h0, .inr (6, [.ref (d0 0), .ref (d0 1), .ref (d0 2), .ref (d0 3)])), ((d0 0), .inr (5, [.ref (d1 0), .int (q2 1 0), .ref (d1 2), .int (q2 3 0), .ref (d1 4), .int (q2 5 0)])), (d1 0, .inl (cC, 60, .inl (q2 0))), (d1 2, .inl (cI, 60, .inl (q2 2))), (d1 4, .inl (cI, 6, .inl (q2 4))), ((d0 2), .inl (cM, 2, .inr (.inr (.inr (.inr (qmf (d2 100) (d2 101))))))), ((d2 100), .inr (3, [.ref (d3 0), .int (s3 1 0), .int (s3 2 0), .ref (d3 3), .ref (d3 4), .int (s3 5 0), .int (s3 6 0), .ref (d3 7), .ref (d3 8)])), (d3 0, .inl (cI, 60, .inl (s3 0))), (d3 3, .inl (cI, 4, .inl (s3 3))), (d3 4, .inl (cI, 3, .inl (s3 4))), ((d2 101), .inr (3, [.ref (d4 0), .int (q7 1 0), .int (q7 2 0), .ref (d4 3), .ref (d4 4), .int (q7 5 0), .int (q7 6 0), .ref (d4 7), .ref (d4 8)])), (d4 0, .inl (cI, 60, .inl (q7 0))), (d4 3, .inl (cI, 4, .inl (q7 3))), (d4 4, .inl (cI, 3, .inl (q7 4)))]) [0, 1, 2, 13, 3, 4, 5, 6, 7, 8, 9, 10, 11, 12] rfl
        have hD := hD.sub (ws' := [(h0, .inr (6, [.ref (d0 0), .ref (d0 1), .ref (d0 2), .ref (d0 3)])), ((d0 0), .inr (5, [.ref (d1 0), .int (q2 1 0), .ref (d1 2), .int (q2 3 0), .ref (d1 4), .int (q2 5 0)])), (d1 0, .inl (cC, 60, .inl (q2 0))), (d1 2, .inl (cI, 60, .inl (q2 2))), (d1 4, .inl (cI, 6, .inl (q2 4))), ((d0 2), .inl (cM, 2, .inr (.inr (.inr (.inr (qmf (d2 100) (d2 101))))))), ((d2 100), .inr (3, [.ref (d3 0), .int (s3 1 0), .int (s3 2 0), .ref (d3 3), .ref (d3 4), .int (s3 5 0), .int (s3 6 0), .ref (d3 7), .ref (d3 8)])), (d3 0, .inl (cI, 60, .inl (s3 0))), (d3 3, .inl (cI, 4, .inl (s3 3))), (d3 4, .inl (cI, 3, .inl (s3 4))), ((d2 101), .inr (3, [.ref (d4 0), .int (q7 1 0), .int (q7 2 0), .ref (d4 3), .ref (d4 4), .int (q7 5 0), .int (q7 6 0), .ref (d4 7), .ref (d4 8)])), (d4 0, .inl (cI, 60, .inl (q7 0))), (d4 3, .inl (cI, 4, .inl (q7 3))), (d4 4, .inl (cI, 3, .inl (q7 4)))]) [0, 1, 2, 13, 3, 4, 5, 6, 7, 8, 9, 10, 11, 12] (by decide) rfl
        refine lv_aload_n hx hb qd_Qs_load_54 rfl (lv_at hl 1 rfl) ?_
        refine va_get (D := (dC, dI)) (ci := 6) (v := .ref (d0 0)) (C := "QuietSweep") (T := qT_Qs) (N := 4) hx hb hts qi_Qs hown hK.1 hP 0 rfl rfl 0 (by decide) (hts _ qw_176) (fun _ h9 => h9) rfl qd_Qs_load_55 ?_
        refine va_getN (D := (dC, dI)) (ci := 5) (v := .int (q2 3 0)) (C := "QuietSweep$Source") (T := qT_Src) (N := 6) hx hb hts qi_Src hown hK.1 hP 1 rfl rfl 3 (by decide) (qNs_use hK.2 qu_35) (fun _ h9 => h9) rfl qd_Qs_load_58 ?_
        obtain rfl := Option.some.inj h
        exact W.iret (v := (q2 3 0)) hx hb hr (fun t ht hW => ⟨⟨(q2 3 0), (), rfl, rfl, by rw [ht]; exact hP, hD⟩, hS.F ht⟩) hS.2.2 qd_Qs_load_61
      have h := qq_f hc5 h
      cases h
    · have h := qq_t hc h
      refine lv_bipush (v := (-2)) hx hb qd_Qs_load_28 (by decide) ?_
      obtain rfl := Option.some.inj h
      exact W.iret (v := (-2)) hx hb hr (fun t ht hW => ⟨⟨(-2), (), rfl, rfl, by rw [ht]; exact hP, hD⟩, hS.F ht⟩) hS.2.2 qd_Qs_load_30
  · have h := qq_t hc h
    refine lv_iconst (v := (-1)) hx hb qd_Qs_load_22 rfl ?_
    obtain rfl := Option.some.inj h
    exact W.iret (v := (-1)) hx hb hr (fun t ht hW => ⟨⟨(-1), (), rfl, rfl, by rw [ht]; exact hP, hD⟩, hS.F ht⟩) hS.2.2 qd_Qs_load_23
