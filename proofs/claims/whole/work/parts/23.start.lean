abbrev qc_Law_cell : ByteArray := method_2_code
abbrev qy_Law_cell : MethodName := ⟨"QuietSweepLaw", "cell", "([II)I"⟩
abbrev ql_Law_cell : Cond := .code qy_Law_cell qc_Law_cell 2 (some .int)
theorem qd_Law_cell_0 : decode qc_Law_cell 0 = .ok (.iload_n 1, 1) := by decide +kernel
theorem qd_Law_cell_1 : decode qc_Law_cell 1 = .ok (.aload_n 0, 1) := by decide +kernel
theorem qd_Law_cell_2 : decode qc_Law_cell 2 = .ok (.arraylength, 1) := by decide +kernel
theorem qd_Law_cell_3 : decode qc_Law_cell 3 = .ok (.if_icmp .ge 9, 3) := by decide +kernel
theorem qd_Law_cell_6 : decode qc_Law_cell 6 = .ok (.aload_n 0, 1) := by decide +kernel
theorem qd_Law_cell_7 : decode qc_Law_cell 7 = .ok (.iload_n 1, 1) := by decide +kernel
theorem qd_Law_cell_8 : decode qc_Law_cell 8 = .ok (.iaload, 1) := by decide +kernel
theorem qd_Law_cell_9 : decode qc_Law_cell 9 = .ok (.goto 4, 3) := by decide +kernel
theorem qd_Law_cell_12 : decode qc_Law_cell 12 = .ok (.iconst 0, 1) := by decide +kernel
theorem qd_Law_cell_13 : decode qc_Law_cell 13 = .ok (.ireturn, 1) := by decide +kernel
theorem qh_Law_cell : "QuietSweepLaw" ≠ "java/lang/invoke/MethodHandle" ∧ "QuietSweepLaw" ≠ "java/lang/invoke/VarHandle" ∧ (parseMethodDescriptor "([II)I").map (fun d => d.parameters.length) = some 2 := by decide +kernel
def qcell (L : Nat) (xs : Nat → Int32) (k : Int32) : Option Int32 := if Int32.ofNat L ≤ k then some 0 else if (k < 0 ∨ L ≤ k.toNatClampNeg) then none else some (xs k.toNatClampNeg)
abbrev qPx (av : List Value) (b L : Nat) (xs : Nat → Int32) (sz : Nat) : Array Value → State → Prop := va_Pc av (fun U => U.heap.size = sz ∧ va_X b L xs U U.heap ∧ b < sz)
theorem q_preX {s : State} {H : Heap} {b L : Nat} {xs : Nat → Int32} (av : List Value) (hX : va_X b L xs s H) (hb : b < H.size) : PreS s H (qPx av b L xs H.size) av :=
  ⟨fun a U g mk q => by obtain ⟨q0, q1, qX, qb⟩ := q; exact ⟨q0, q1, va_X.moved (u := U) (U := U.calling g mk a) (Vm.Alike.refl U.vm) qX, qb⟩, fun U hU hW => ⟨rfl, by rw [hU], by rw [hU]; exact va_X.moved hW.alike hX, hb⟩⟩
set_option maxHeartbeats 4000000 in
set_option maxRecDepth 100000 in
theorem qm_Law_cell (l : Launch) (b L : Nat) (xs : Nat → Int32) (k : Int32) (sz : Nat) (o : Int32) (h : qcell L xs k = some o) : Met l qy_Law_cell (ql_Law_cell :: qG) ({ frames := 0, cells := 0, slots := 0, locals := 0 } : Room) (qPx [.ref b, .int k] b L xs sz) (va_Qi (fun r (_ : Unit) => r = o) (fun _ t => True) (va_A [] sz)) 0 0 (va_A [] sz) := by
  refine Met.ofW (cc := qc_Law_cell) (maxL := 2) (ret := (some .int)) (by decide) rfl ?_
  intro p e s m args below meth c s₁ B hml hv
  obtain ⟨rfl, hsz, hX, hbz⟩ := hv
  have hx := B.exec
  have hb := B.bytes
  have hr := B.returns
  have hlocks := B.notSynchronized
  subst hsz
  generalize hAe : va_A [] s.heap.size = A
  have hbA : ¬ A b := by
    rw [← hAe]
    rintro (⟨k, e, he⟩ | h9)
    · simp at he
    · omega
  have hS : va_S A s.heap s.heap [] := va_S.rf
  have hl := lv_entry ([.ref b, .int k]) (n := 2) (Nat.le_of_ble_eq_true rfl)
  rw [lg_entry_eq]
  generalize (lg_sl ([.ref b, .int k]) ++ List.replicate (2 - (lg_sl ([.ref b, .int k])).length) Slot.unset).toArray = ls at hl ⊢
  have hl : lv_has ls 2 [(0, .ref b), (1, .int k)] := hl
  unfold qcell at h
  refine lv_iload_n hx hb qd_Law_cell_0 rfl (lv_at hl 1 rfl) ?_
  refine lv_aload_n hx hb qd_Law_cell_1 rfl (lv_at hl 0 rfl) ?_
  refine va_slen hx hb hX hbz hbA hS qd_Law_cell_2 ?_
  refine lv_icmp_ge hx hb qd_Law_cell_3 (tgt := 12) (by decide) (fun hc => ?_) (fun hc => ?_)
  · have h := qq_t hc h
    refine lv_iconst (v := 0) hx hb qd_Law_cell_12 rfl ?_
    obtain rfl := Option.some.inj h
    exact W.iret (v := 0) hx hb hr (fun t ht hW => ⟨⟨0, (), rfl, rfl, trivial⟩, hS.F ht⟩) hS.2.2 qd_Law_cell_13
  · have h := qq_f hc h
    obtain ⟨hb1, h⟩ := qq_n h
    refine lv_aload_n hx hb qd_Law_cell_6 rfl (lv_at hl 0 rfl) ?_
    refine lv_iload_n hx hb qd_Law_cell_7 rfl (lv_at hl 1 rfl) ?_
    refine va_sld hx hb hX hbz hbA hS hb1 qd_Law_cell_8 ?_
    refine lv_goto hx hb qd_Law_cell_9 (tgt := 13) (by decide) ?_
    obtain rfl := Option.some.inj h
    exact W.iret (v := (xs k.toNatClampNeg)) hx hb hr (fun t ht hW => ⟨⟨_, (), rfl, rfl, trivial⟩, hS.F ht⟩) hS.2.2 qd_Law_cell_13
theorem q_arr {args : Array Value} {s : State} {ty : FieldType} (hnr : ∀ C, ty ≠ .object C) (h : (Cond.arrayClass ty).before args s = true) : ∃ cA : ClassId, ArrOfT s cA ty ∧ va_RA s cA ty := by
  obtain ⟨c, k, comp, h1, h2, h3⟩ := Cond.arrayClass_spec h
  refine ⟨c, fun n z => ⟨fun k h => (by cases h), k, h2, comp, h3⟩, ?_⟩
  cases ty with
  | object C => exact absurd rfl (hnr C)
  | _ => exact h1
theorem q_arrO {s : State} {C : String} (h : va_AO C s) : ∃ cA : ClassId, ArrOfT s cA (.object C) ∧ va_RA s cA (.object C) := by
  obtain ⟨comp, c, k, h1, h2, h3, h4, h5⟩ := Cond.arrayOver_spec h
  exact ⟨c, fun n z => ⟨fun k h => (by cases h), k, h3, comp, h4⟩, k, comp, h3, h4, h1, h5⟩
def qTm (i : Nat) : Term := .string "QuietSweep$Source" (qIdx i)
def qIsNot : Cond → Bool
  | .not _ => true
  | _ => false
abbrev qFl : List Cond := flatC (Jvm.Cond.and given_1 narrow_1)
set_option maxRecDepth 100000 in
theorem q_f1 : ∀ i, i < 15 → Cond.exactly (qTm i) "java/lang/String" ∈ qFl := by decide +kernel
set_option maxRecDepth 100000 in
theorem q_f2 : ∀ i, i < 15 → Cond.eq (.field (qTm i) "java/lang/String" "coder" "B") (.int 0) ∈ qFl := by decide +kernel
set_option maxRecDepth 100000 in
theorem q_f3 : ∀ i, i < 15 → Cond.arrayOf (.field (qTm i) "java/lang/String" "value" "[B") .byte ∈ qFl := by decide +kernel
set_option maxRecDepth 100000 in
theorem q_f4 : ∀ i, i < 15 → Cond.eq (.length (.field (qTm i) "java/lang/String" "value" "[B")) (.int (Int32.ofNat (qLen.getD i 0))) ∈ qFl := by decide +kernel
set_option maxRecDepth 100000 in
theorem q_f5 : ∀ i, i < 15 → ∀ j, j < qLen.getD i 0 → Cond.eq (.elem (.field (qTm i) "java/lang/String" "value" "[B") (.int (Int32.ofNat j))) (.int ((qByt.getD i []).getD j 0)) ∈ qFl := by decide +kernel
set_option maxRecDepth 100000 in
theorem q_f6a : qFl.filter qIsNot = (List.range 15).flatMap (fun j => (List.range j).map (fun i => Cond.not (Cond.eq (qTm i) (qTm j)))) := by decide +kernel
theorem q_f6b {i j : Nat} (h : i < j) (hj : j < 15) : Cond.not (Cond.eq (qTm i) (qTm j)) ∈ qFl := by
  have h1 : Cond.not (Cond.eq (qTm i) (qTm j)) ∈ qFl.filter qIsNot := by
    rw [q_f6a]
    exact List.mem_flatMap.mpr ⟨j, List.mem_range.mpr hj, List.mem_map.mpr ⟨i, List.mem_range.mpr h, rfl⟩⟩
  exact (List.mem_filter.mp h1).1
theorem q_f6 : ∀ i, i < 15 → ∀ j, j < 15 → i ≠ j → Cond.not (Cond.eq (qTm i) (qTm j)) ∈ qFl ∨ Cond.not (Cond.eq (qTm j) (qTm i)) ∈ qFl := fun i hi j hj hne => by
  rcases Nat.lt_or_gt_of_ne hne with h | h
  · exact Or.inl (q_f6b h hj)
  · exact Or.inr (q_f6b h hi)
set_option maxRecDepth 100000 in
theorem q_f7 : Cond.eq (.static "java/lang/String" "COMPACT_STRINGS" "Z") (.int 1) ∈ qFl := by decide +kernel
set_option maxRecDepth 100000 in
theorem q_f8 : Cond.isRef (.static "jdk/internal/util/Preconditions" "SIOOBE_FORMATTER" "Ljava/util/function/BiFunction;") ∈ qFl := by decide +kernel
theorem qx_258 : (Cond.laysStatic "java/lang/String" "COMPACT_STRINGS" "Z") ∈ lw_tbl := List.mem_append_right _ (List.mem_of_getElem? (i := 258) (by decide +kernel))
theorem qx_274 : (Cond.laysStatic "jdk/internal/util/Preconditions" "SIOOBE_FORMATTER" "Ljava/util/function/BiFunction;") ∈ lw_tbl := List.mem_append_right _ (List.mem_of_getElem? (i := 274) (by decide +kernel))
theorem qx_292 : (Cond.laysStatic "java/lang/StringUTF16" "$assertionsDisabled" "Z") ∈ lw_tbl := List.mem_append_right _ (List.mem_of_getElem? (i := 292) (by decide +kernel))
theorem qx_294 : (Cond.laysStatic "java/lang/StringUTF16" "HI_BYTE_SHIFT" "I") ∈ lw_tbl := List.mem_append_right _ (List.mem_of_getElem? (i := 294) (by decide +kernel))
theorem qx_296 : (Cond.laysStatic "java/lang/StringUTF16" "LO_BYTE_SHIFT" "I") ∈ lw_tbl := List.mem_append_right _ (List.mem_of_getElem? (i := 296) (by decide +kernel))
theorem q_f9 : ∀ i, i < 15 → Cond.stringRef "QuietSweep$Source" (qIdx i) (qTxt i) ∈ lw_tbl := by
  intro i hi
  rcases (show i = 0 ∨ i = 1 ∨ i = 2 ∨ i = 3 ∨ i = 4 ∨ i = 5 ∨ i = 6 ∨ i = 7 ∨ i = 8 ∨ i = 9 ∨ i = 10 ∨ i = 11 ∨ i = 12 ∨ i = 13 ∨ i = 14 by omega) with rfl | rfl | rfl | rfl | rfl | rfl | rfl | rfl | rfl | rfl | rfl | rfl | rfl | rfl | rfl
  · exact qx_230
  · exact qx_231
  · exact qx_232
  · exact qx_233
  · exact qx_234
  · exact qx_235
  · exact qx_236
  · exact qx_237
  · exact qx_238
  · exact qx_239
  · exact qx_240
  · exact qx_241
  · exact qx_242
  · exact qx_243
  · exact qx_244
theorem q_stat {args : Array Value} {s : State} {C n d : String} {v : Int32} (h : (Cond.eq (.static C n d) (.int v)).before args s = true) : (Term.static C n d).eval args s none [] s = some (.int v) := by
  obtain ⟨w, h1, h2⟩ := Cond.eq_one (show (Cond.eq (.static C n d) (.int v)).holds args s none s [] = true from h)
  cases h2
  exact h1
/-- what the law's entry gives -/
theorem q_start {s : State} {b : Nat} (hts : ∀ w ∈ lw_tbl, w.before #[Value.ref b] s = true) (hgv : (Jvm.Cond.and given_1 narrow_1).before #[Value.ref b] s = true) : ∃ (dC : Nat → ClassId) (dI : Nat → Nat → Nat) (cI cC cB cM : ClassId) (aK aV : Nat → Nat), qK dC dI cI cC cB cM s ∧ va_AO "QuietSweep$Mutator" s ∧ qSt aK aV (fun q => s.heap.size ≤ q) s s.heap := by
  have hG : ∀ w ∈ qG, w.before #[Value.ref b] s = true := fun w h => hts w (qG_tbl w h)
  have hF := flat_of_before _ hgv
  have hAO : va_AO "QuietSweep$Mutator" s := hts _ qx_81
  obtain ⟨c0, i0, k0⟩ := u_known hG qi_Buf (hG _ qw_88)
  obtain ⟨c1, i1, k1⟩ := u_known hG qi_Col (hG _ qw_156)
  obtain ⟨c2, i2, k2⟩ := u_known hG qi_Mem (hG _ qw_54)
  obtain ⟨c3, i3, k3⟩ := u_known hG qi_Mut (hG _ qw_82)
  obtain ⟨c4, i4, k4⟩ := u_known hG qi_Out (hG _ qw_108)
  obtain ⟨c5, i5, k5⟩ := u_known hG qi_Src (hG _ qw_25)
  obtain ⟨c6, i6, k6⟩ := u_known hG qi_Qs (hG _ qw_17)
  obtain ⟨c7, i7, k7⟩ := u_known hG qi_Ref (hG _ qw_556)
  obtain ⟨cI, a1, a2⟩ := q_arr (ty := .int) (fun _ h => by cases h) (hG _ qw_52)
  obtain ⟨cC, a3, a4⟩ := q_arr (ty := .char) (fun _ h => by cases h) (hG _ qw_51)
  obtain ⟨cB, a5, a6⟩ := q_arr (ty := .boolean) (fun _ h => by cases h) (hG _ qw_658)
  obtain ⟨cM, a7, a8⟩ := q_arrO hAO
  have hA : ∀ a : Nat, a < s.heap.size → ¬ (fun q : Nat => s.heap.size ≤ q) a := fun a h1 h2 => by
    have h2 : s.heap.size ≤ a := h2
    omega
  obtain ⟨aK, aV, hS, hR⟩ := vk_Sof (N := 15) (tm := qTm) (len := qLen) (byt := qByt) (A := fun q => s.heap.size ≤ q) (args := #[Value.ref b]) (s := s) (fun i hi => Nat.lt_of_le_of_lt (qLen_le i hi) (by decide)) (fun i hi => hF _ (q_f1 i hi)) (fun i hi => hF _ (q_f2 i hi)) (fun i hi => hF _ (q_f3 i hi)) (fun i hi => hF _ (q_f4 i hi)) (fun i hi j hj => hF _ (q_f5 i hi j hj)) (fun i j hi hj hne => (q_f6 i hi j hj hne).elim (fun h => Or.inl (hF _ h)) (fun h => Or.inr (hF _ h))) hA
  refine ⟨fun k => ([c0, c1, c2, c3, c4, c5, c6, c7] : List Nat).getD k 0, fun k => ([i0, i1, i2, i3, i4, i5, i6, i7] : List (Nat → Nat)).getD k (fun _ => 0), cI, cC, cB, cM, aK, aV, ⟨⟨?_, ?_⟩, ?_⟩, hAO, hS, ?_, ?_, ?_⟩
  · intro c q hq
    have hc : c < 8 := (List.getElem?_eq_some_iff.mp hq).1
    rcases (show c = 0 ∨ c = 1 ∨ c = 2 ∨ c = 3 ∨ c = 4 ∨ c = 5 ∨ c = 6 ∨ c = 7 by omega) with rfl | rfl | rfl | rfl | rfl | rfl | rfl | rfl
    all_goals (obtain rfl := Option.some.inj hq)
    · exact k0
    · exact k1
    · exact k2
    · exact k3
    · exact k4
    · exact k5
    · exact k6
    · exact k7
  · intro k q hq
    have hc : k < 4 := (List.getElem?_eq_some_iff.mp hq).1
    rcases (show k = 0 ∨ k = 1 ∨ k = 2 ∨ k = 3 by omega) with rfl | rfl | rfl | rfl
    all_goals (obtain rfl := Option.some.inj hq)
    · exact ⟨a1, a2⟩
    · exact ⟨a3, a4⟩
    · exact ⟨a5, a6⟩
    · exact ⟨a7, a8⟩
  · show ∀ w ∈ [Cond.methodLinkNest "QuietSweep" 9 ⟨"QuietSweep$Source", "<init>", "()V"⟩ "QuietSweep", Cond.fieldLinkNest "QuietSweep" 54 "QuietSweep$Source" "made" "[I" "QuietSweep", Cond.fieldLinkNest "QuietSweep" 58 "QuietSweep$Source" "madeCount" "I" "QuietSweep", Cond.fieldLinkNest "QuietSweep$Collector" 65 "QuietSweep$Memory" "size" "I" "QuietSweep", Cond.fieldLinkNest "QuietSweep$Collector" 57 "QuietSweep$Memory" "colours" "[I" "QuietSweep", Cond.fieldLinkNest "QuietSweep" 107 "QuietSweep$Memory" "colours" "[I" "QuietSweep", Cond.methodLinkNest "QuietSweep" 31 ⟨"QuietSweep$Mutator", "<init>", "()V"⟩ "QuietSweep", Cond.methodLinkNest "QuietSweep$Mutator" 38 ⟨"QuietSweep$Buffer", "<init>", "()V"⟩ "QuietSweep", Cond.fieldLinkNest "QuietSweep" 86 "QuietSweep$Buffer" "count" "I" "QuietSweep", Cond.methodLinkNest "QuietSweep$Mutator" 45 ⟨"QuietSweep$Outs", "<init>", "()V"⟩ "QuietSweep", Cond.fieldLinkNest "QuietSweep" 98 "QuietSweep$Outs" "count" "I" "QuietSweep", Cond.fieldLinkNest "QuietSweep" 73 "QuietSweep$Mutator" "at" "I" "QuietSweep", Cond.fieldLinkNest "QuietSweep$Collector" 40 "QuietSweep$Mutator" "standing" "I" "QuietSweep", Cond.fieldLinkNest "QuietSweep" 79 "QuietSweep$Mutator" "standing" "I" "QuietSweep", Cond.fieldLinkNest "QuietSweep" 91 "QuietSweep$Mutator" "stallCount" "I" "QuietSweep", Cond.fieldLinkNest "QuietSweep" 82 "QuietSweep$Mutator" "buffer" "LQuietSweep$Buffer;" "QuietSweep", Cond.fieldLinkNest "QuietSweep" 94 "QuietSweep$Mutator" "outs" "LQuietSweep$Outs;" "QuietSweep", Cond.methodLinkNest "QuietSweep" 34 ⟨"QuietSweep$Collector", "<init>", "()V"⟩ "QuietSweep", Cond.fieldLinkNest "QuietSweep" 121 "QuietSweep$Collector" "stage" "I" "QuietSweep", Cond.fieldLinkNest "QuietSweep" 124 "QuietSweep$Collector" "cycleCount" "I" "QuietSweep", Cond.methodLinkNest "QuietSweep$Buffer" 35 ⟨"QuietSweep", "setOf", "(I)I"⟩ "QuietSweep", Cond.methodLinkNest "QuietSweep$Mutator" 111 ⟨"QuietSweep", "setOf", "(I)I"⟩ "QuietSweep", Cond.methodLinkNest "QuietSweep$Memory" 34 ⟨"QuietSweep", "setOf", "(I)I"⟩ "QuietSweep"], va_Nw w s
    exact List.forall_mem_cons.mpr ⟨va_Nw.of rfl (hts _ qx_26), List.forall_mem_cons.mpr ⟨va_Nw.of rfl (hts _ qx_33), List.forall_mem_cons.mpr ⟨va_Nw.of rfl (hts _ qx_35), List.forall_mem_cons.mpr ⟨va_Nw.of rfl (hts _ qx_68), List.forall_mem_cons.mpr ⟨va_Nw.of rfl (hts _ qx_70), List.forall_mem_cons.mpr ⟨va_Nw.of rfl (hts _ qx_71), List.forall_mem_cons.mpr ⟨va_Nw.of rfl (hts _ qx_83), List.forall_mem_cons.mpr ⟨va_Nw.of rfl (hts _ qx_89), List.forall_mem_cons.mpr ⟨va_Nw.of rfl (hts _ qx_97), List.forall_mem_cons.mpr ⟨va_Nw.of rfl (hts _ qx_109), List.forall_mem_cons.mpr ⟨va_Nw.of rfl (hts _ qx_115), List.forall_mem_cons.mpr ⟨va_Nw.of rfl (hts _ qx_124), List.forall_mem_cons.mpr ⟨va_Nw.of rfl (hts _ qx_128), List.forall_mem_cons.mpr ⟨va_Nw.of rfl (hts _ qx_129), List.forall_mem_cons.mpr ⟨va_Nw.of rfl (hts _ qx_131), List.forall_mem_cons.mpr ⟨va_Nw.of rfl (hts _ qx_133), List.forall_mem_cons.mpr ⟨va_Nw.of rfl (hts _ qx_135), List.forall_mem_cons.mpr ⟨va_Nw.of rfl (hts _ qx_157), List.forall_mem_cons.mpr ⟨va_Nw.of rfl (hts _ qx_162), List.forall_mem_cons.mpr ⟨va_Nw.of rfl (hts _ qx_164), List.forall_mem_cons.mpr ⟨va_Nw.of rfl (hts _ qx_532), List.forall_mem_cons.mpr ⟨va_Nw.of rfl (hts _ qx_535), List.forall_mem_cons.mpr ⟨va_Nw.of rfl (hts _ qx_541), fun _ h => absurd h List.not_mem_nil⟩⟩⟩⟩⟩⟩⟩⟩⟩⟩⟩⟩⟩⟩⟩⟩⟩⟩⟩⟩⟩⟩⟩
  · exact va_Zof (hts _ qx_258) (hG _ qw_9) (q_stat (hF _ q_f7)) hA
  · exact va_Zqof (hts _ qx_274) (hG _ qw_11) (hF _ q_f8) hA
  · intro i hi
    exact vk_R.of (hts _ (q_f9 i hi)) (hR i hi)
