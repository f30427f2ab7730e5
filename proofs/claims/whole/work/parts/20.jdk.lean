def qLen : List Nat := [4, 4, 4, 6, 6, 6, 6, 6, 6, 6, 4, 4, 6, 6, 3]
def qByt : List (List Int32) := [[82, 61, 42, 59], [82, 61, 45, 59], [82, 61, 82, 59], [82, 61, 82, 46, 108, 59], [82, 61, 82, 46, 114, 59], [82, 46, 108, 61, 82, 59], [82, 46, 114, 61, 82, 59], [82, 46, 108, 61, 45, 59], [82, 46, 114, 61, 45, 59], [82, 46, 110, 61, 73, 59], [73, 61, 48, 59], [73, 61, 73, 59], [73, 61, 73, 43, 73, 59], [73, 61, 82, 46, 110, 59], [33, 73, 59]]
def qIdx (i : Nat) : Nat := ([71, 73, 75, 77, 79, 81, 83, 85, 87, 89, 91, 93, 95, 97, 99] : List Nat).getD i 0
def qTxt (i : Nat) : String := (["R=*;", "R=-;", "R=R;", "R=R.l;", "R=R.r;", "R.l=R;", "R.r=R;", "R.l=-;", "R.r=-;", "R.n=I;", "I=0;", "I=I;", "I=I+I;", "I=R.n;", "!I;"] : List String).getD i ""
/-- the literals and the statics that text needs, outside A -/
def qSt (aK aV : Nat → Nat) (A : Nat → Prop) (U : State) (H : Heap) : Prop := vk_S 15 qLen qByt aK aV A U H ∧ va_Z "java/lang/String" "COMPACT_STRINGS" "Z" (.int 1) A U H ∧ va_Zq "jdk/internal/util/Preconditions" "SIOOBE_FORMATTER" "Ljava/util/function/BiFunction;" A U H ∧ ∀ i, i < 15 → vk_R "QuietSweep$Source" (qIdx i) (qTxt i) (aK i) U
theorem qSt_sub {aK aV : Nat → Nat} {A B : Nat → Prop} {s U : State} {H : Heap} {locs : List Loc} (hW : s.WarmedH U.vm) (hU : U.heap = H) (hS : va_S A s.heap H locs) (hB : ∀ q, B q → A q) (h : qSt aK aV A s s.heap) : qSt aK aV B U U.heap := by
  have hq : ∀ a : Nat, a < s.heap.size → ¬ A a → H[a]? = s.heap[a]? := hS.2.1
  rw [hU]
  exact ⟨vk_S.narrow (vk_S.kept (vk_S.moved hW.alike h.1) hq) hB, va_Z.narrow (va_Z.kept (va_Z.moved hW.alike h.2.1) hq) hB, va_Zq.narrow (va_Zq.kept (va_Zq.moved hW.alike h.2.2.1) hq) hB, fun i hi => vk_R.warm hW (h.2.2.2 i hi)⟩
theorem qSt_call {aK aV : Nat → Nat} {A : Nat → Prop} {U : State} {g : JFrame} {mk : MethodId} {a : Array Value} (h : qSt aK aV A U U.heap) : qSt aK aV A (U.calling g mk a) (U.calling g mk a).heap :=
  ⟨vk_S.moved (u := U) (U := U.calling g mk a) (Vm.Alike.refl U.vm) h.1, va_Z.moved (u := U) (U := U.calling g mk a) (Vm.Alike.refl U.vm) h.2.1, va_Zq.moved (u := U) (U := U.calling g mk a) (Vm.Alike.refl U.vm) h.2.2.1, fun i hi => vk_R.same (u := U) (U := U.calling g mk a) rfl (h.2.2.2 i hi)⟩
abbrev qPcS (dC : Nat → ClassId) (dI : Nat → Nat → Nat) (cI cC cB cM : ClassId) (aK aV : Nat → Nat) (av : List Value) (sz : Nat) (ws : va_W) : Array Value → State → Prop := va_Pc av (fun U => U.heap.size = sz ∧ va_P (dC, dI) qCl ws U.heap ∧ qK dC dI cI cC cB cM U ∧ va_D (fun _ => True) ws ∧ qSt aK aV (va_A ws sz) U U.heap)
theorem q_preSS {dC : Nat → ClassId} {dI : Nat → Nat → Nat} {cI cC cB cM : ClassId} {aK aV : Nat → Nat} {s : State} {H : Heap} {locs : List Loc} {ws : va_W} {A A0 : Nat → Prop} (av : List Value) (hK : qK dC dI cI cC cB cM s) (hP : va_P (dC, dI) qCl ws H) (hD : va_D A0 ws) (hT : qSt aK aV A s s.heap) (hS : va_S A s.heap H locs) (hF : ∀ q, va_A ws H.size q → A q) : PreS s H (qPcS dC dI cI cC cB cM aK aV av H.size ws) av :=
  ⟨fun a U g mk q => by obtain ⟨q0, q1, qP, qK, qD, qT⟩ := q; exact ⟨q0, q1, qP, qK_call qK, qD, qSt_call qT⟩, fun U hU hW => ⟨rfl, by rw [hU], by rw [hU]; exact hP, qK_warm hW hK, hD.weaken (fun _ _ _ _ => trivial), qSt_sub hW hU hS hF hT⟩⟩
theorem q_preVS {dC : Nat → ClassId} {dI : Nat → Nat → Nat} {cI cC cB cM : ClassId} {aK aV : Nat → Nat} {s : State} {H : Heap} {locs : List Loc} {ws : va_W} {A A0 : Nat → Prop} {b ci : Nat} {q : vw_C} {fs : List Value} (As : List Value) (q0 : Nat) (he : ws[q0]? = some (b, .inr (ci, fs))) (hc : qCl[ci]? = some q) (hK : qK dC dI cI cC cB cM s) (hP : va_P (dC, dI) qCl ws H) (hD : va_D A0 ws) (hT : qSt aK aV A s s.heap) (hS : va_S A s.heap H locs) (hF : ∀ q, va_A ws H.size q → A q) : PreV s H q.1 b (qPcS dC dI cI cC cB cM aK aV (.ref b :: As) H.size ws) As :=
  ⟨(q_preSS _ hK hP hD hT hS hF).1, va_recv hK.1 hP hc he, (q_preSS _ hK hP hD hT hS hF).2⟩
theorem q_preVT {dC : Nat → ClassId} {dI : Nat → Nat → Nat} {cI cC cB cM : ClassId} {aK aV : Nat → Nat} {s : State} {H : Heap} {locs : List Loc} {A : Nat → Prop} (As : List Value) (i : Nat) (hi : i < 15) (hK : qK dC dI cI cC cB cM s) (hP : va_P (dC, dI) qCl [] H) (hD : va_D A []) (hT : qSt aK aV A s s.heap) (hS : va_S A s.heap H locs) (hF : ∀ q, va_A [] H.size q → A q) : PreV s H "java/lang/String" (aK i) (qPcS dC dI cI cC cB cM aK aV (.ref (aK i) :: As) H.size []) As :=
  ⟨(q_preSS _ hK hP hD hT hS hF).1, vk_recv hT.1 hi hS, (q_preSS _ hK hP hD hT hS hF).2⟩
theorem qLen_le : ∀ t, t < 15 → qLen.getD t 0 ≤ 6 := by decide +kernel
theorem q_klt {k : Int32} {n : Nat} (hn : n < 2 ^ 31) (h : ¬ (k < 0 ∨ n ≤ k.toNatClampNeg)) : ¬ k < 0 ∧ k < Int32.ofNat n := by
  obtain ⟨j, hj, rfl⟩ := vp_in_of (show vp_in k n from h) hn
  exact ⟨nI_pos (by omega), nI_lt hj hn⟩
def qch (t k : Nat) : Int32 := (((qByt.getD t []).getD k 0 &&& 255).toUInt32 % 65536).toInt32
def qf_Jstr_length (a : Nat) : Option Int32 := if 15 ≤ a then none else some ((Int32.ofNat (qLen.getD a 0)) >>> ((0 : Int32) &&& 31))
def qf_Jstr_charAt (k : Int32) (a : Nat) : Option Int32 := if 15 ≤ a then none else if (k < 0 ∨ qLen.getD a 0 ≤ k.toNatClampNeg) then none else some (qch a k.toNatClampNeg)
theorem q_lt_len {a : Nat} {o : Int32} (h : qf_Jstr_length a = some o) : a < 15 := Nat.lt_of_not_le (qq_n h).1
theorem q_lt_ch {a : Nat} {k o : Int32} (h : qf_Jstr_charAt k a = some o) : a < 15 := Nat.lt_of_not_le (qq_n h).1
theorem q_cp {a b c d e : Prop} (h : ¬ (a ∨ b ∨ c ∨ ¬ d ∨ ¬ e)) : ¬ a ∧ ¬ b ∧ ¬ c ∧ d ∧ e := ⟨fun x => h (Or.inl x), fun x => h (Or.inr (Or.inl x)), fun x => h (Or.inr (Or.inr (Or.inl x))), Classical.byContradiction (fun x => h (Or.inr (Or.inr (Or.inr (Or.inl x))))), Classical.byContradiction (fun x => h (Or.inr (Or.inr (Or.inr (Or.inr x)))))⟩
set_option maxHeartbeats 4000000 in
set_option maxRecDepth 100000 in
theorem qm_Jpre_checkIndex_n (l : Launch) (dC : Nat → ClassId) (dI : Nat → Nat → Nat) (cI cC cB cM : ClassId) (a1 a2 : Int32) (h1 : ¬ a1 < 0) (h2 : a1 < a2) (sz : Nat) : Met l qy_Jpre_checkIndex (ql_Jpre_checkIndex :: qG) ({ frames := 0, cells := 0, slots := 0, locals := 0 } : Room) (qPc dC dI cI cC cB cM [.int a1, .int a2, .null] sz []) (va_Qi (fun r (_ : Unit) => r = a1) (fun _ t => va_P (dC, dI) qCl [] t.heap ∧ va_D (va_A [] sz) []) (va_A [] sz)) 0 0 (va_A [] sz) := by
  refine Met.ofW (cc := qc_Jpre_checkIndex) (maxL := 3) (ret := (some .int)) (by decide) rfl ?_
  intro p e s m args below meth c s₁ B hml hv
  obtain ⟨rfl, hsz, hP, hK, hD0⟩ := hv
  have hx := B.exec
  have hb := B.bytes
  have hr := B.returns
  have hts0 := atoms_spec (ws := ql_Jpre_checkIndex :: qG) B.pre
  have hts := fun (w : Cond) (hw : w ∈ qG) => hts0 w (List.mem_cons_of_mem _ hw)
  have hown : s.vm.findClass "jdk/internal/util/Preconditions" = some m.cls := findClass_of_methodNamed B.named
  have hlocks := B.notSynchronized
  subst hsz
  have hD := hD0.self (sz := s.heap.size)
  generalize hAe : va_A [] s.heap.size = A at hD ⊢
  have hA : ∀ q : Nat, s.heap.size ≤ q → A q := fun q h => by rw [← hAe]; exact Or.inr h
  have hS : va_S A s.heap s.heap [] := va_S.rf
  have hl := lv_entry ([.int a1, .int a2, .null]) (n := 3) (Nat.le_of_ble_eq_true rfl)
  rw [lg_entry_eq]
  generalize (lg_sl ([.int a1, .int a2, .null]) ++ List.replicate (3 - (lg_sl ([.int a1, .int a2, .null])).length) Slot.unset).toArray = ls at hl ⊢
  have hl : lv_has ls 3 [(0, .int a1), (1, .int a2), (2, .null)] := hl
  refine lv_iload_n hx hb qd_Jpre_checkIndex_0 rfl (lv_at hl 0 rfl) ?_
  refine lv_if_lt hx hb qd_Jpre_checkIndex_1 (tgt := 9) (by decide) (fun hc => absurd hc h1) (fun hc => ?_)
  refine lv_iload_n hx hb qd_Jpre_checkIndex_4 rfl (lv_at hl 0 rfl) ?_
  refine lv_iload_n hx hb qd_Jpre_checkIndex_5 rfl (lv_at hl 1 rfl) ?_
  refine lv_icmp_lt hx hb qd_Jpre_checkIndex_6 (tgt := 16) (by decide) (fun hc => ?_) (fun hc => absurd h2 hc)
  refine lv_iload_n hx hb qd_Jpre_checkIndex_16 rfl (lv_at hl 0 rfl) ?_
  exact W.iret (v := a1) hx hb hr (fun t ht hW => ⟨⟨a1, (), rfl, rfl, by rw [ht]; exact hP, hD⟩, hS.F ht⟩) hS.2.2 qd_Jpre_checkIndex_17
set_option maxHeartbeats 4000000 in
set_option maxRecDepth 100000 in
theorem qm_Jpre_checkIndex_r (l : Launch) (dC : Nat → ClassId) (dI : Nat → Nat → Nat) (cI cC cB cM : ClassId) (a1 a2 : Int32) (b : Nat) (h1 : ¬ a1 < 0) (h2 : a1 < a2) (sz : Nat) : Met l qy_Jpre_checkIndex (ql_Jpre_checkIndex :: qG) ({ frames := 0, cells := 0, slots := 0, locals := 0 } : Room) (qPc dC dI cI cC cB cM [.int a1, .int a2, .ref b] sz []) (va_Qi (fun r (_ : Unit) => r = a1) (fun _ t => va_P (dC, dI) qCl [] t.heap ∧ va_D (va_A [] sz) []) (va_A [] sz)) 0 0 (va_A [] sz) := by
  refine Met.ofW (cc := qc_Jpre_checkIndex) (maxL := 3) (ret := (some .int)) (by decide) rfl ?_
  intro p e s m args below meth c s₁ B hml hv
  obtain ⟨rfl, hsz, hP, hK, hD0⟩ := hv
  have hx := B.exec
  have hb := B.bytes
  have hr := B.returns
  have hts0 := atoms_spec (ws := ql_Jpre_checkIndex :: qG) B.pre
  have hts := fun (w : Cond) (hw : w ∈ qG) => hts0 w (List.mem_cons_of_mem _ hw)
  have hown : s.vm.findClass "jdk/internal/util/Preconditions" = some m.cls := findClass_of_methodNamed B.named
  have hlocks := B.notSynchronized
  subst hsz
  have hD := hD0.self (sz := s.heap.size)
  generalize hAe : va_A [] s.heap.size = A at hD ⊢
  have hA : ∀ q : Nat, s.heap.size ≤ q → A q := fun q h => by rw [← hAe]; exact Or.inr h
  have hS : va_S A s.heap s.heap [] := va_S.rf
  have hl := lv_entry ([.int a1, .int a2, .ref b]) (n := 3) (Nat.le_of_ble_eq_true rfl)
  rw [lg_entry_eq]
  generalize (lg_sl ([.int a1, .int a2, .ref b]) ++ List.replicate (3 - (lg_sl ([.int a1, .int a2, .ref b])).length) Slot.unset).toArray = ls at hl ⊢
  have hl : lv_has ls 3 [(0, .int a1), (1, .int a2), (2, .ref b)] := hl
  refine lv_iload_n hx hb qd_Jpre_checkIndex_0 rfl (lv_at hl 0 rfl) ?_
  refine lv_if_lt hx hb qd_Jpre_checkIndex_1 (tgt := 9) (by decide) (fun hc => absurd hc h1) (fun hc => ?_)
  refine lv_iload_n hx hb qd_Jpre_checkIndex_4 rfl (lv_at hl 0 rfl) ?_
  refine lv_iload_n hx hb qd_Jpre_checkIndex_5 rfl (lv_at hl 1 rfl) ?_
  refine lv_icmp_lt hx hb qd_Jpre_checkIndex_6 (tgt := 16) (by decide) (fun hc => ?_) (fun hc => absurd h2 hc)
  refine lv_iload_n hx hb qd_Jpre_checkIndex_16 rfl (lv_at hl 0 rfl) ?_
  exact W.iret (v := a1) hx hb hr (fun t ht hW => ⟨⟨a1, (), rfl, rfl, by rw [ht]; exact hP, hD⟩, hS.F ht⟩) hS.2.2 qd_Jpre_checkIndex_17
set_option maxHeartbeats 4000000 in
set_option maxRecDepth 100000 in
theorem qm_Jstr_checkIndex (l : Launch) (dC : Nat → ClassId) (dI : Nat → Nat → Nat) (cI cC cB cM : ClassId) (aK aV : Nat → Nat) (a1 a2 : Int32) (h1 : ¬ a1 < 0) (h2 : a1 < a2) (sz : Nat) : Met l qy_Jstr_checkIndex (ql_Jstr_checkIndex :: qG) ({ frames := 1, cells := 0, slots := 0, locals := 22 } : Room) (qPcS dC dI cI cC cB cM aK aV [.int a1, .int a2] sz []) (va_Qv (fun _ : Unit => True) (fun _ t => va_P (dC, dI) qCl [] t.heap ∧ va_D (va_A [] sz) []) (va_A [] sz)) 0 0 (va_A [] sz) := by
  refine Met.ofW (cc := qc_Jstr_checkIndex) (maxL := 2) (ret := none) (by decide) rfl ?_
  intro p e s m args below meth c s₁ B hml hv
  obtain ⟨rfl, hsz, hP, hK, hD0, hT⟩ := hv
  have hx := B.exec
  have hb := B.bytes
  have hr := B.returns
  have hts0 := atoms_spec (ws := ql_Jstr_checkIndex :: qG) B.pre
  have hts := fun (w : Cond) (hw : w ∈ qG) => hts0 w (List.mem_cons_of_mem _ hw)
  have hown : s.vm.findClass "java/lang/String" = some m.cls := findClass_of_methodNamed B.named
  have hlocks := B.notSynchronized
  subst hsz
  have hD := hD0.self (sz := s.heap.size)
  generalize hAe : va_A [] s.heap.size = A at hD hT ⊢
  have hA : ∀ q : Nat, s.heap.size ≤ q → A q := fun q h => by rw [← hAe]; exact Or.inr h
  have hS : va_S A s.heap s.heap [] := va_S.rf
  have hl := lv_entry ([.int a1, .int a2]) (n := 2) (Nat.le_of_ble_eq_true rfl)
  rw [lg_entry_eq]
  generalize (lg_sl ([.int a1, .int a2]) ++ List.replicate (2 - (lg_sl ([.int a1, .int a2])).length) Slot.unset).toArray = ls at hl ⊢
  have hl : lv_has ls 2 [(0, .int a1), (1, .int a2)] := hl
  rcases hT.2.2.1 with hz | ⟨b, hz⟩
  · refine lv_iload_n hx hb qd_Jstr_checkIndex_0 rfl (lv_at hl 0 rfl) ?_
    refine lv_iload_n hx hb qd_Jstr_checkIndex_1 rfl (lv_at hl 1 rfl) ?_
    refine va_gets (v := .null) hx hb hz hS hown (hts _ qw_273) (fun _ h9 => h9) qd_Jstr_checkIndex_2 ?_
    have hPc := hP.sub (ws' := []) [] rfl
    have hDc := hD.sub (ws' := []) [] (by decide) rfl
    have hFc := va_free (wc := []) hD hS hA [] rfl
    refine va_calli (va_runS (As := [.int a1, .int a2, .null]) (rest := []) ⟨hx, hb, hml, hown, hts⟩ (qm_Jpre_checkIndex_n l dC dI cI cC cB cM a1 a2 h1 h2 _) ⟨q_CB hts qw_275 qw_11 qw_277 qh_Jpre_checkIndex rfl rfl ⟨by decide, by decide⟩, hts _ qw_276⟩ (q_preS [.int a1, .int a2, .null] hK hPc hDc) rfl rfl hl.1 rfl (lv_room (Nat.le_of_ble_eq_true rfl)) qd_Jstr_checkIndex_5 ⟨Nat.zero_le _, Nat.zero_le _⟩) hS (fun q _ h => hFc q h) hFc (fun r u t H1 locs ht hvm hw hB hz1 hk1 hS => ?_)
    obtain ⟨hP, hD1⟩ := hB
    rw [ht] at hP
    refine lv_pop hx hb qd_Jstr_checkIndex_8 rfl ?_
    exact W.vret hx hb hr (fun t ht hW => ⟨⟨(), rfl, trivial, by rw [ht]; exact hP, hD⟩, hS.F ht⟩) hS.2.2 qd_Jstr_checkIndex_9
  · refine lv_iload_n hx hb qd_Jstr_checkIndex_0 rfl (lv_at hl 0 rfl) ?_
    refine lv_iload_n hx hb qd_Jstr_checkIndex_1 rfl (lv_at hl 1 rfl) ?_
    refine va_gets (v := .ref b) hx hb hz hS hown (hts _ qw_273) (fun _ h9 => h9) qd_Jstr_checkIndex_2 ?_
    have hPc := hP.sub (ws' := []) [] rfl
    have hDc := hD.sub (ws' := []) [] (by decide) rfl
    have hFc := va_free (wc := []) hD hS hA [] rfl
    refine va_calli (va_runS (As := [.int a1, .int a2, .ref b]) (rest := []) ⟨hx, hb, hml, hown, hts⟩ (qm_Jpre_checkIndex_r l dC dI cI cC cB cM a1 a2 b h1 h2 _) ⟨q_CB hts qw_275 qw_11 qw_277 qh_Jpre_checkIndex rfl rfl ⟨by decide, by decide⟩, hts _ qw_276⟩ (q_preS [.int a1, .int a2, .ref b] hK hPc hDc) rfl rfl hl.1 rfl (lv_room (Nat.le_of_ble_eq_true rfl)) qd_Jstr_checkIndex_5 ⟨Nat.zero_le _, Nat.zero_le _⟩) hS (fun q _ h => hFc q h) hFc (fun r u t H1 locs ht hvm hw hB hz1 hk1 hS => ?_)
    obtain ⟨hP, hD1⟩ := hB
    rw [ht] at hP
    refine lv_pop hx hb qd_Jstr_checkIndex_8 rfl ?_
    exact W.vret hx hb hr (fun t ht hW => ⟨⟨(), rfl, trivial, by rw [ht]; exact hP, hD⟩, hS.F ht⟩) hS.2.2 qd_Jstr_checkIndex_9
set_option maxHeartbeats 4000000 in
set_option maxRecDepth 100000 in
theorem qm_Jlat_charAt (l : Launch) (dC : Nat → ClassId) (dI : Nat → Nat → Nat) (cI cC cB cM : ClassId) (aK aV : Nat → Nat) (ti : Nat) (a2 : Int32) (ht0 : ti < 15) (hk : ¬ (a2 < 0 ∨ qLen.getD ti 0 ≤ a2.toNatClampNeg)) (sz : Nat) : Met l qy_Jlat_charAt (ql_Jlat_charAt :: qG) ({ frames := 2, cells := 0, slots := 0, locals := 43 } : Room) (qPcS dC dI cI cC cB cM aK aV [.ref (aV ti), .int a2] sz []) (va_Qi (fun r (_ : Unit) => r = qch ti a2.toNatClampNeg) (fun _ t => va_P (dC, dI) qCl [] t.heap ∧ va_D (va_A [] sz) []) (va_A [] sz)) 0 0 (va_A [] sz) := by
  refine Met.ofW (cc := qc_Jlat_charAt) (maxL := 2) (ret := (some .char)) (by decide) rfl ?_
  intro p e s m args below meth c s₁ B hml hv
  obtain ⟨rfl, hsz, hP, hK, hD0, hT⟩ := hv
  have hx := B.exec
  have hb := B.bytes
  have hr := B.returns
  have hts0 := atoms_spec (ws := ql_Jlat_charAt :: qG) B.pre
  have hts := fun (w : Cond) (hw : w ∈ qG) => hts0 w (List.mem_cons_of_mem _ hw)
  have hown : s.vm.findClass "java/lang/StringLatin1" = some m.cls := findClass_of_methodNamed B.named
  have hlocks := B.notSynchronized
  subst hsz
  have hD := hD0.self (sz := s.heap.size)
  generalize hAe : va_A [] s.heap.size = A at hD hT ⊢
  have hA : ∀ q : Nat, s.heap.size ≤ q → A q := fun q h => by rw [← hAe]; exact Or.inr h
  have hS : va_S A s.heap s.heap [] := va_S.rf
  have hl := lv_entry ([.ref (aV ti), .int a2]) (n := 2) (Nat.le_of_ble_eq_true rfl)
  rw [lg_entry_eq]
  generalize (lg_sl ([.ref (aV ti), .int a2]) ++ List.replicate (2 - (lg_sl ([.ref (aV ti), .int a2])).length) Slot.unset).toArray = ls at hl ⊢
  have hl : lv_has ls 2 [(0, .ref (aV ti)), (1, .int a2)] := hl
  have h1 := q_klt (Nat.lt_of_le_of_lt (qLen_le ti ht0) (by decide)) hk
  refine lv_iload_n hx hb qd_Jlat_charAt_0 rfl (lv_at hl 1 rfl) ?_
  refine lv_aload_n hx hb qd_Jlat_charAt_1 rfl (lv_at hl 0 rfl) ?_
  refine va_tlen (v := (Int32.ofNat (qLen.getD ti 0))) hx hb (hT.1.1 ti ht0).2.2.2 hS rfl qd_Jlat_charAt_2 ?_
  have hPc := hP.sub (ws' := []) [] rfl
  have hDc := hD.sub (ws' := []) [] (by decide) rfl
  have hFc := va_free (wc := []) hD hS hA [] rfl
  refine va_callv (va_runS (As := [.int a2, .int (Int32.ofNat (qLen.getD ti 0))]) (rest := []) ⟨hx, hb, hml, hown, hts⟩ (qm_Jstr_checkIndex l dC dI cI cC cB cM aK aV a2 (Int32.ofNat (qLen.getD ti 0)) h1.1 h1.2 _) ⟨q_CB hts qw_270 qw_9 qw_272 qh_Jstr_checkIndex rfl rfl ⟨by decide, by decide⟩, hts _ qw_271⟩ (q_preSS [.int a2, .int (Int32.ofNat (qLen.getD ti 0))] hK hPc hDc hT hS hFc) rfl rfl hl.1 rfl (lv_room (Nat.le_of_ble_eq_true rfl)) qd_Jlat_charAt_3 ⟨Nat.zero_le _, Nat.zero_le _⟩) hS (fun q _ h => hFc q h) hFc (fun u t H1 locs ht hvm hw hB hz1 hk1 hS => ?_)
  obtain ⟨hP, hD1⟩ := hB
  rw [ht] at hP
  refine lv_aload_n hx hb qd_Jlat_charAt_6 rfl (lv_at hl 0 rfl) ?_
  refine lv_iload_n hx hb qd_Jlat_charAt_7 rfl (lv_at hl 1 rfl) ?_
  refine va_tb (v := .int ((qByt.getD ti []).getD a2.toNatClampNeg 0)) hx hb (hT.1.1 ti ht0).2.2.2 hS hk rfl qd_Jlat_charAt_8 ?_
  refine lv_sipush (v := 255) hx hb qd_Jlat_charAt_9 (by decide) ?_
  refine lv_iand hx hb qd_Jlat_charAt_12 ?_
  refine lv_i2c (v := qch ti a2.toNatClampNeg) hx hb qd_Jlat_charAt_13 rfl ?_
  exact W.zret (v := (qch ti a2.toNatClampNeg)) hx hb hr (pk_nc _) (fun t ht hW => ⟨⟨(qch ti a2.toNatClampNeg), (), rfl, rfl, by rw [ht]; exact hP, hD⟩, hS.F ht⟩) hS.2.2 qd_Jlat_charAt_14
set_option maxHeartbeats 4000000 in
set_option maxRecDepth 100000 in
theorem qm_Jstr_isLatin1 (l : Launch) (dC : Nat → ClassId) (dI : Nat → Nat → Nat) (cI cC cB cM : ClassId) (aK aV : Nat → Nat) (ti : Nat) (ht0 : ti < 15) (sz : Nat) : Met l qy_Jstr_isLatin1 (ql_Jstr_isLatin1 :: qG) ({ frames := 0, cells := 0, slots := 0, locals := 0 } : Room) (qPcS dC dI cI cC cB cM aK aV [.ref (aK ti)] sz []) (va_Qi (fun r (_ : Unit) => r = 1) (fun _ t => va_P (dC, dI) qCl [] t.heap ∧ va_D (va_A [] sz) []) (va_A [] sz)) 0 0 (va_A [] sz) := by
  refine Met.ofW (cc := qc_Jstr_isLatin1) (maxL := 1) (ret := (some .boolean)) (by decide) rfl ?_
  intro p e s m args below meth c s₁ B hml hv
  obtain ⟨rfl, hsz, hP, hK, hD0, hT⟩ := hv
  have hx := B.exec
  have hb := B.bytes
  have hr := B.returns
  have hts0 := atoms_spec (ws := ql_Jstr_isLatin1 :: qG) B.pre
  have hts := fun (w : Cond) (hw : w ∈ qG) => hts0 w (List.mem_cons_of_mem _ hw)
  have hown : s.vm.findClass "java/lang/String" = some m.cls := findClass_of_methodNamed B.named
  have hlocks := B.notSynchronized
  subst hsz
  have hD := hD0.self (sz := s.heap.size)
  generalize hAe : va_A [] s.heap.size = A at hD hT ⊢
  have hA : ∀ q : Nat, s.heap.size ≤ q → A q := fun q h => by rw [← hAe]; exact Or.inr h
  have hS : va_S A s.heap s.heap [] := va_S.rf
  have hl := lv_entry ([.ref (aK ti)]) (n := 1) (Nat.le_of_ble_eq_true rfl)
  rw [lg_entry_eq]
  generalize (lg_sl ([.ref (aK ti)]) ++ List.replicate (1 - (lg_sl ([.ref (aK ti)])).length) Slot.unset).toArray = ls at hl ⊢
  have hl : lv_has ls 1 [(0, .ref (aK ti))] := hl
  refine va_gets (v := .int 1) hx hb hT.2.1 hS hown (hts _ qw_257) (fun _ h9 => h9) qd_Jstr_isLatin1_0 ?_
  refine lv_if_eq hx hb qd_Jstr_isLatin1_3 (tgt := 17) (by decide) (fun hc => absurd hc (by decide)) (fun hc => ?_)
  refine lv_aload_n hx hb qd_Jstr_isLatin1_6 rfl (lv_at hl 0 rfl) ?_
  refine vk_getf (v := .int 0) hx hb (hT.1.1 ti ht0).2.1 hS hown (hts _ qw_843) (fun _ h9 => h9) qd_Jstr_isLatin1_7 ?_
  refine lv_if_ne hx hb qd_Jstr_isLatin1_10 (tgt := 17) (by decide) (fun hc => absurd rfl hc) (fun hc => ?_)
  refine lv_iconst (v := 1) hx hb qd_Jstr_isLatin1_13 rfl ?_
  refine lv_goto hx hb qd_Jstr_isLatin1_14 (tgt := 18) (by decide) ?_
  exact W.zret (v := 1) hx hb hr rfl (fun t ht hW => ⟨⟨1, (), rfl, rfl, by rw [ht]; exact hP, hD⟩, hS.F ht⟩) hS.2.2 qd_Jstr_isLatin1_18
set_option maxHeartbeats 4000000 in
set_option maxRecDepth 100000 in
theorem qm_Jstr_coder (l : Launch) (dC : Nat → ClassId) (dI : Nat → Nat → Nat) (cI cC cB cM : ClassId) (aK aV : Nat → Nat) (ti : Nat) (ht0 : ti < 15) (sz : Nat) : Met l qy_Jstr_coder (ql_Jstr_coder :: qG) ({ frames := 0, cells := 0, slots := 0, locals := 0 } : Room) (qPcS dC dI cI cC cB cM aK aV [.ref (aK ti)] sz []) (va_Qi (fun r (_ : Unit) => r = 0) (fun _ t => va_P (dC, dI) qCl [] t.heap ∧ va_D (va_A [] sz) []) (va_A [] sz)) 0 0 (va_A [] sz) := by
  refine Met.ofW (cc := qc_Jstr_coder) (maxL := 1) (ret := (some .byte)) (by decide) rfl ?_
  intro p e s m args below meth c s₁ B hml hv
  obtain ⟨rfl, hsz, hP, hK, hD0, hT⟩ := hv
  have hx := B.exec
  have hb := B.bytes
  have hr := B.returns
  have hts0 := atoms_spec (ws := ql_Jstr_coder :: qG) B.pre
  have hts := fun (w : Cond) (hw : w ∈ qG) => hts0 w (List.mem_cons_of_mem _ hw)
  have hown : s.vm.findClass "java/lang/String" = some m.cls := findClass_of_methodNamed B.named
  have hlocks := B.notSynchronized
  subst hsz
  have hD := hD0.self (sz := s.heap.size)
  generalize hAe : va_A [] s.heap.size = A at hD hT ⊢
  have hA : ∀ q : Nat, s.heap.size ≤ q → A q := fun q h => by rw [← hAe]; exact Or.inr h
  have hS : va_S A s.heap s.heap [] := va_S.rf
  have hl := lv_entry ([.ref (aK ti)]) (n := 1) (Nat.le_of_ble_eq_true rfl)
  rw [lg_entry_eq]
  generalize (lg_sl ([.ref (aK ti)]) ++ List.replicate (1 - (lg_sl ([.ref (aK ti)])).length) Slot.unset).toArray = ls at hl ⊢
  have hl : lv_has ls 1 [(0, .ref (aK ti))] := hl
  refine va_gets (v := .int 1) hx hb hT.2.1 hS hown (hts _ qw_257) (fun _ h9 => h9) qd_Jstr_coder_0 ?_
  refine lv_if_eq hx hb qd_Jstr_coder_3 (tgt := 13) (by decide) (fun hc => absurd hc (by decide)) (fun hc => ?_)
  refine lv_aload_n hx hb qd_Jstr_coder_6 rfl (lv_at hl 0 rfl) ?_
  refine vk_getf (v := .int 0) hx hb (hT.1.1 ti ht0).2.1 hS hown (hts _ qw_843) (fun _ h9 => h9) qd_Jstr_coder_7 ?_
  refine lv_goto hx hb qd_Jstr_coder_10 (tgt := 14) (by decide) ?_
  exact W.zret (v := 0) hx hb hr rfl (fun t ht hW => ⟨⟨0, (), rfl, rfl, by rw [ht]; exact hP, hD⟩, hS.F ht⟩) hS.2.2 qd_Jstr_coder_14
set_option maxHeartbeats 4000000 in
set_option maxRecDepth 100000 in
theorem qm_Jstr_length (l : Launch) (dC : Nat → ClassId) (dI : Nat → Nat → Nat) (cI cC cB cM : ClassId) (aK aV : Nat → Nat) (ti : Nat) (o : Int32) (h : qf_Jstr_length ti = some o) (sz : Nat) : Met l qy_Jstr_length (ql_Jstr_length :: qG) ({ frames := 1, cells := 0, slots := 0, locals := 20 } : Room) (qPcS dC dI cI cC cB cM aK aV [.ref (aK ti)] sz []) (va_Qi (fun r (_ : Unit) => r = o) (fun _ t => va_P (dC, dI) qCl [] t.heap ∧ va_D (va_A [] sz) []) (va_A [] sz)) 0 0 (va_A [] sz) := by
  refine Met.ofW (cc := qc_Jstr_length) (maxL := 1) (ret := (some .int)) (by decide) rfl ?_
  intro p e s m args below meth c s₁ B hml hv
  obtain ⟨rfl, hsz, hP, hK, hD0, hT⟩ := hv
  have hx := B.exec
  have hb := B.bytes
  have hr := B.returns
  have hts0 := atoms_spec (ws := ql_Jstr_length :: qG) B.pre
  have hts := fun (w : Cond) (hw : w ∈ qG) => hts0 w (List.mem_cons_of_mem _ hw)
  have hown : s.vm.findClass "java/lang/String" = some m.cls := findClass_of_methodNamed B.named
  have hlocks := B.notSynchronized
  subst hsz
  have hD := hD0.self (sz := s.heap.size)
  generalize hAe : va_A [] s.heap.size = A at hD hT ⊢
  have hA : ∀ q : Nat, s.heap.size ≤ q → A q := fun q h => by rw [← hAe]; exact Or.inr h
  have hS : va_S A s.heap s.heap [] := va_S.rf
  have hl := lv_entry ([.ref (aK ti)]) (n := 1) (Nat.le_of_ble_eq_true rfl)
  rw [lg_entry_eq]
  generalize (lg_sl ([.ref (aK ti)]) ++ List.replicate (1 - (lg_sl ([.ref (aK ti)])).length) Slot.unset).toArray = ls at hl ⊢
  have hl : lv_has ls 1 [(0, .ref (aK ti))] := hl
  obtain ⟨ht0, h⟩ := qq_n h
  have ht0 := Nat.lt_of_not_le ht0
  obtain rfl := Option.some.inj h
  refine lv_aload_n hx hb qd_Jstr_length_0 rfl (lv_at hl 0 rfl) ?_
  refine vk_getf (v := .ref (aV ti)) hx hb (hT.1.1 ti ht0).2.2.1 hS hown (hts _ qw_842) (fun _ h9 => h9) qd_Jstr_length_1 ?_
  refine va_tlen (v := (Int32.ofNat (qLen.getD ti 0))) hx hb (hT.1.1 ti ht0).2.2.2 hS rfl qd_Jstr_length_4 ?_
  refine lv_aload_n hx hb qd_Jstr_length_5 rfl (lv_at hl 0 rfl) ?_
  have hPc := hP.sub (ws' := []) [] rfl
  have hDc := hD.sub (ws' := []) [] (by decide) rfl
  have hFc := va_free (wc := []) hD hS hA [] rfl
  refine va_calli (va_runV (As := []) (rest := [.int (Int32.ofNat (qLen.getD ti 0))]) ⟨hx, hb, hml, hown, hts⟩ (qm_Jstr_coder l dC dI cI cC cB cM aK aV ti ht0 _) (q_CW hts qw_253 qw_254 qw_255 qw_9 qw_256 qh_Jstr_coder rfl rfl ⟨by decide, by decide⟩) (q_preVT [] ti ht0 hK hPc hDc hT hS hFc) rfl rfl hl.1 rfl (lv_room (Nat.le_of_ble_eq_true rfl)) qd_Jstr_length_6 ⟨Nat.zero_le _, Nat.zero_le _⟩) hS (fun q _ h => hFc q h) hFc (fun r u t H1 locs ht hvm hw hB hz1 hk1 hS => ?_)
  subst hw
  obtain ⟨hP, hD1⟩ := hB
  rw [ht] at hP
  refine lv_ishr hx hb qd_Jstr_length_9 ?_
  exact W.iret (v := ((Int32.ofNat (qLen.getD ti 0)) >>> ((0 : Int32) &&& 31))) hx hb hr (fun t ht hW => ⟨⟨((Int32.ofNat (qLen.getD ti 0)) >>> ((0 : Int32) &&& 31)), (), rfl, rfl, by rw [ht]; exact hP, hD⟩, hS.F ht⟩) hS.2.2 qd_Jstr_length_10
set_option maxHeartbeats 4000000 in
set_option maxRecDepth 100000 in
theorem qm_Jstr_charAt (l : Launch) (dC : Nat → ClassId) (dI : Nat → Nat → Nat) (cI cC cB cM : ClassId) (aK aV : Nat → Nat) (ti : Nat) (a1 : Int32) (o : Int32) (h : qf_Jstr_charAt a1 ti = some o) (sz : Nat) : Met l qy_Jstr_charAt (ql_Jstr_charAt :: qG) ({ frames := 3, cells := 0, slots := 0, locals := 64 } : Room) (qPcS dC dI cI cC cB cM aK aV [.ref (aK ti), .int a1] sz []) (va_Qi (fun r (_ : Unit) => r = o) (fun _ t => va_P (dC, dI) qCl [] t.heap ∧ va_D (va_A [] sz) []) (va_A [] sz)) 0 0 (va_A [] sz) := by
  refine Met.ofW (cc := qc_Jstr_charAt) (maxL := 2) (ret := (some .char)) (by decide) rfl ?_
  intro p e s m args below meth c s₁ B hml hv
  obtain ⟨rfl, hsz, hP, hK, hD0, hT⟩ := hv
  have hx := B.exec
  have hb := B.bytes
  have hr := B.returns
  have hts0 := atoms_spec (ws := ql_Jstr_charAt :: qG) B.pre
  have hts := fun (w : Cond) (hw : w ∈ qG) => hts0 w (List.mem_cons_of_mem _ hw)
  have hown : s.vm.findClass "java/lang/String" = some m.cls := findClass_of_methodNamed B.named
  have hlocks := B.notSynchronized
  subst hsz
  have hD := hD0.self (sz := s.heap.size)
  generalize hAe : va_A [] s.heap.size = A at hD hT ⊢
  have hA : ∀ q : Nat, s.heap.size ≤ q → A q := fun q h => by rw [← hAe]; exact Or.inr h
  have hS : va_S A s.heap s.heap [] := va_S.rf
  have hl := lv_entry ([.ref (aK ti), .int a1]) (n := 2) (Nat.le_of_ble_eq_true rfl)
  rw [lg_entry_eq]
  generalize (lg_sl ([.ref (aK ti), .int a1]) ++ List.replicate (2 - (lg_sl ([.ref (aK ti), .int a1])).length) Slot.unset).toArray = ls at hl ⊢
  have hl : lv_has ls 2 [(0, .ref (aK ti)), (1, .int a1)] := hl
  obtain ⟨ht0, h⟩ := qq_n h
  obtain ⟨hk, h⟩ := qq_n h
  have ht0 := Nat.lt_of_not_le ht0
  obtain rfl := Option.some.inj h
  refine lv_aload_n hx hb qd_Jstr_charAt_0 rfl (lv_at hl 0 rfl) ?_
  have hPc := hP.sub (ws' := []) [] rfl
  have hDc := hD.sub (ws' := []) [] (by decide) rfl
  have hFc := va_free (wc := []) hD hS hA [] rfl
  refine va_calli (va_runV (As := []) (rest := []) ⟨hx, hb, hml, hown, hts⟩ (qm_Jstr_isLatin1 l dC dI cI cC cB cM aK aV ti ht0 _) (q_CW hts qw_263 qw_264 qw_265 qw_9 qw_266 qh_Jstr_isLatin1 rfl rfl ⟨by decide, by decide⟩) (q_preVT [] ti ht0 hK hPc hDc hT hS hFc) rfl rfl hl.1 rfl (lv_room (Nat.le_of_ble_eq_true rfl)) qd_Jstr_charAt_1 ⟨Nat.zero_le _, Nat.zero_le _⟩) hS (fun q _ h => hFc q h) hFc (fun r u t H1 locs ht hvm hw hB hz1 hk1 hS => ?_)
  subst hw
  obtain ⟨hP, hD1⟩ := hB
  rw [ht] at hP
  refine lv_if_eq hx hb qd_Jstr_charAt_4 (tgt := 16) (by decide) (fun hc => absurd hc (by decide)) (fun hc => ?_)
  refine lv_aload_n hx hb qd_Jstr_charAt_7 rfl (lv_at hl 0 rfl) ?_
  refine vk_getf (v := .ref (aV ti)) hx hb (hT.1.1 ti ht0).2.2.1 hS hown (hts _ qw_842) (fun _ h9 => h9) qd_Jstr_charAt_8 ?_
  refine lv_iload_n hx hb qd_Jstr_charAt_11 rfl (lv_at hl 1 rfl) ?_
  have hPc := hP.sub (ws' := []) [] rfl
  have hDc := hD.sub (ws' := []) [] (by decide) rfl
  have hFc := va_free (wc := []) hD hS hA [] rfl
  refine va_calli (va_runS (As := [.ref (aV ti), .int a1]) (rest := []) ⟨hx, hb, hml, hown, hts⟩ (qm_Jlat_charAt l dC dI cI cC cB cM aK aV ti a1 ht0 hk _) ⟨q_CB hts qw_267 qw_10 qw_269 qh_Jlat_charAt rfl rfl ⟨by decide, by decide⟩, hts _ qw_268⟩ (q_preSS [.ref (aV ti), .int a1] hK hPc hDc hT hS hFc) rfl rfl hl.1 rfl (lv_room (Nat.le_of_ble_eq_true rfl)) qd_Jstr_charAt_12 ⟨Nat.zero_le _, Nat.zero_le _⟩) hS (fun q _ h => hFc q h) hFc (fun r u t H1 locs ht hvm hw hB hz1 hk1 hS => ?_)
  subst hw
  obtain ⟨hP, hD1⟩ := hB
  rw [ht] at hP
  exact W.zret (v := (qch ti a1.toNatClampNeg)) hx hb hr (pk_nc _) (fun t ht hW => ⟨⟨(qch ti a1.toNatClampNeg), (), rfl, rfl, by rw [ht]; exact hP, hD⟩, hS.F ht⟩) hS.2.2 qd_Jstr_charAt_15
