/-! THE LAW'S OWN fault -/
def sx_LF : MethodName := ⟨"StructureMapLaw", "fault", "(LStructureMap;II[J)I"⟩
def sx_ml : av_Mt := (sx_LF, method_3_code, 5, some .int, fun _ => none)
def sx_hh : List (Nat × Nat × Nat × Nat) := [(0, 10, 13, 13)]
def sx_mt : Nat → Option av_Mt := fun y => if y = 0 then some sx_mf else none
theorem sx_e0 : decode method_3_code 0 = .ok (.aload_n 3, 1) := by decide +kernel
theorem sx_e1 : decode method_3_code 1 = .ok (.iconst 0, 1) := by decide +kernel
theorem sx_e2 : decode method_3_code 2 = .ok (.aload_n 0, 1) := by decide +kernel
theorem sx_e3 : decode method_3_code 3 = .ok (.iload_n 1, 1) := by decide +kernel
theorem sx_e4 : decode method_3_code 4 = .ok (.iload_n 2, 1) := by decide +kernel
theorem sx_e5 : decode method_3_code 5 = .ok (.invokevirtual 7, 3) := by decide +kernel
theorem sx_e8 : decode method_3_code 8 = .ok (.i2l, 1) := by decide +kernel
theorem sx_e9 : decode method_3_code 9 = .ok (.lastore, 1) := by decide +kernel
theorem sx_e10 : decode method_3_code 10 = .ok (.goto 7, 3) := by decide +kernel
theorem sx_e13 : decode method_3_code 13 = .ok (.astore 4, 2) := by decide +kernel
theorem sx_e15 : decode method_3_code 15 = .ok (.iconst 1, 1) := by decide +kernel
theorem sx_e16 : decode method_3_code 16 = .ok (.ireturn, 1) := by decide +kernel
theorem sx_e17 : decode method_3_code 17 = .ok (.iconst 0, 1) := by decide +kernel
theorem sx_e18 : decode method_3_code 18 = .ok (.ireturn, 1) := by decide +kernel
theorem sx_cc : av_chk sm_Ts sm_cl sm_fT sm_aT sm_ao sx_mt sx_ml 5 (40, 3, 0, 3, 0, [1, 0, 7]) = true := by decide +kernel
theorem sx_w1 : Cond.codeWith sx_LF method_3_code 5 (some .int) sx_hh ∈ sm_Ts := by decide +kernel
theorem sx_w2 : Cond.classLink "StructureMapLaw" 13 sx_X ∈ sm_Ts := by decide +kernel
theorem sx_w3 : Cond.methodLink "StructureMapLaw" 7 sx_N ∈ sm_Ts := by decide +kernel
theorem sx_w4 : Cond.instanceMethod sx_N ∈ sm_Ts := by decide +kernel
theorem sx_w5 : Cond.selects "StructureMap" sx_N sx_N ∈ sm_Ts := by decide +kernel
theorem sx_w6 : Cond.code sx_N prog_1_method_13_code 3 (some .int) ∈ sm_Ts := by decide +kernel
theorem sx_w7 : Cond.initialized "StructureMap" ∈ sm_Ts := by decide +kernel
theorem sx_w8 : Cond.initialized "StructureMapLaw" ∈ sm_Ts := by decide +kernel
theorem sx_w9 : Cond.static sx_LF ∈ sm_Ts := by decide +kernel
theorem sx_w10 : Cond.methodLink "StructureMapLaw" 65 sx_LF ∈ sm_Ts := by decide +kernel
theorem sx_inv {S S1 : av_St} {x o : Nat} {i w : Int32} {r : Option Value} (h : sm_ext [.ref x, .int i, .int w, .ref o] S = some (r, S1)) : S.1 x = some (.inl 0) ∧ S.1 o = some (.inr (4, 1)) ∧ ∃ f n, S.2.1 x 9 = .ref f ∧ S.1 f = some (.inl 4) ∧ S.2.1 f 2 = .int n ∧
    (((i < 0 ∨ n ≤ i ∨ w < 0 ∨ 1 < w) ∧ r = some (.int 1) ∧ S1 = sm_x S) ∨ (¬ (i < 0 ∨ n ≤ i ∨ w < 0 ∨ 1 < w) ∧ ∃ g v, S.2.1 f (if w = 0 then 0 else 1) = .ref g ∧ S.1 g = some (.inr (0, 300)) ∧ av_inb i 300 = true ∧ S.2.1 g i.toNatClampNeg = .int v ∧ r = some (.int 0) ∧ S1 = av_set S o 0 (.long v.toInt64))) := by
  unfold sm_ext at h
  dsimp only at h
  split at h
  · rename_i h1
    refine ⟨h1.1, h1.2, ?_⟩
    split at h
    · rename_i f hf
      split at h
      · rename_i h4
        split at h
        · rename_i n hn
          refine ⟨f, n, hf, h4, hn, ?_⟩
          split at h
          · rename_i hc
            cases h
            exact Or.inl ⟨hc, rfl, rfl⟩
          · rename_i hc
            split at h
            · rename_i g hg
              split at h
              · rename_i hk
                split at h
                · rename_i v hv
                  cases h
                  exact Or.inr ⟨hc, g, v, hg, hk.1, hk.2, hv, rfl, rfl⟩
                · cases h
              · cases h
            · cases h
        · cases h
      · cases h
    · cases h
  · cases h
/-- what is not of the small machine is new -/
theorem av_R.x {cl : List vw_C} {aT : Nat → FieldType} {D : va_G} {base : Nat} {U : State} {H H1 : Heap} {S : av_St} (h : av_R cl aT D base U H S) (z : H1.size = H.size + 1) (oq : ∀ q, q < H.size → H1[q]? = H[q]?) : av_R cl aT D base U H1 (sm_x S) := by
  obtain ⟨h1, h2, h3, h4⟩ := h
  refine ⟨by show S.2.2.1 + 1 = H1.size; omega, by omega, fun a ci q => ?_, fun a j n q => ?_⟩
  · have q1 := h3 a ci q
    exact ⟨q1.1, q1.2.kept (oq a q1.2.lt)⟩
  · have q1 := h4 a j n q
    exact ⟨fun z => ⟨(q1.1 z).1, (q1.1 z).2.kept (oq a q1.2.lt)⟩, q1.2.kept (oq a q1.2.lt)⟩
section SX6
variable {l : Launch} {D : va_G} {base : Nat} {S S1 : av_St} {x o : Nat} {i w : Int32} {r : Option Value}
def sx_rl (S S1 : av_St) : Room := { frames := 7, cells := S1.2.2.1 - S.2.2.1, slots := S1.2.2.2 - S.2.2.2, locals := 231 }
theorem sx_law (htr : l.stackTraces = false) (hext : sm_ext [.ref x, .int i, .int w, .ref o] S = some (r, S1)) :
    Met l sx_LF (Cond.codeWith sx_LF method_3_code 5 (some .int) sx_hh :: sm_Ts) (sx_rl S S1) (va_Pc [.ref x, .int i, .int w, .ref o] (fun U => (base ≤ U.heap.size ∧ av_K sm_cl D sm_ao U ∧ av_R sm_cl sm_aT D base U U.heap S) ∧ sx_Z base U)) (fun _ st oc t => oc = .returned r ∧ av_R sm_cl sm_aT D base t t.heap S1 ∧ va_F (fun q => base ≤ q) st t) (S1.2.2.1 - S.2.2.1) (S1.2.2.2 - S.2.2.2) (fun q => base ≤ q) := by
  obtain ⟨hx, ho, f, n, h9, hf, h2, hcase⟩ := sx_inv hext
  refine va_MetW (cc := method_3_code) (maxL := 5) (ret := some .int) (hh := sx_hh) (by decide) rfl ?_
  intro p e s m args below meth c s₁ B hml hP
  obtain ⟨rfl, ⟨hbase, hK, hR⟩, hZ⟩ := hP
  have hts := atoms_spec (ws := Cond.codeWith sx_LF method_3_code 5 (some .int) sx_hh :: sm_Ts) B.pre
  have hts' : ∀ w' ∈ sm_Ts, w'.before [.ref x, .int i, .int w, .ref o].toArray s = true := fun w' hw => hts w' (List.mem_cons_of_mem _ hw)
  have hown : s.vm.findClass sx_LF.cls = some m.cls := findClass_of_methodNamed B.named
  have hX : av_Cx sm_Ts sm_cl D sm_ao base sx_ml p s m [.ref x, .int i, .int w, .ref o].toArray meth c := ⟨B.exec, B.bytes, hml, hown, hts', hK, fun h => (name_of_methodNamed B.named B.method).1.trans h, hbase⟩
  have hb : c.code = method_3_code := B.bytes
  have hlocks := B.notSynchronized
  have htab : ∃ y : ExceptionTableEntry, c.exceptionTable.toList = [y] ∧ y.startPc = 0 ∧ y.endPc = 10 ∧ y.handlerPc = 13 ∧ y.catchType = 13 := by
    obtain ⟨m9, meth9, c9, hn9, hm9, hc9, -, -, ht9, -⟩ := Cond.codeWith_spec (hts _ List.mem_cons_self)
    cases B.named.symm.trans hn9
    cases B.method.symm.trans hm9
    cases (Stand.of_body B).code.symm.trans hc9
    match hq : c.exceptionTable.toList with
    | [] => rw [hq] at ht9; cases ht9
    | [y] =>
      rw [hq] at ht9
      have e1 : (y.startPc, y.endPc, y.handlerPc, y.catchType) = (0, 10, 13, 13) := List.head_eq_of_cons_eq ht9
      exact ⟨y, rfl, congrArg (·.1) e1, congrArg (·.2.1) e1, congrArg (·.2.2.1) e1, congrArg (·.2.2.2) e1⟩
    | y :: z :: t => rw [hq] at ht9; cases (List.cons.inj ht9).2
  rw [lg_entry_eq]
  have hl : av_lv (lg_sl [.ref x, .int i, .int w, .ref o] ++ List.replicate (5 - (lg_sl [.ref x, .int i, .int w, .ref o]).length) Slot.unset).toArray 5 (av_ent [.ref x, .int i, .int w, .ref o] 5) := av_ent_lv (fun v hv => by
    simp only [List.mem_cons, List.not_mem_nil, or_false] at hv
    rcases hv with rfl | rfl | rfl | rfl <;> rfl) (by show 4 ≤ 5; decide)
  generalize (lg_sl [.ref x, .int i, .int w, .ref o] ++ List.replicate (5 - (lg_sl [.ref x, .int i, .int w, .ref o]).length) Slot.unset).toArray = ls at hl ⊢
  refine lv_aload_n B.exec hb sx_e0 rfl (hl.at (i := 3) rfl) ?_
  refine lv_iconst B.exec hb (v := 0) sx_e1 rfl ?_
  refine lv_aload_n B.exec hb sx_e2 rfl (hl.at (i := 0) rfl) ?_
  refine lv_iload_n B.exec hb sx_e3 rfl (hl.at (i := 1) rfl) ?_
  refine lv_iload_n B.exec hb sx_e4 rfl (hl.at (i := 2) rfl) ?_
  rcases hcase with ⟨hc, rfl, rfl⟩ | ⟨hc, g, v, hg, hk, hin, hv, rfl, rfl⟩
  · -- thrown, caught
    have ec : (sm_x S).2.2.1 - S.2.2.1 = 1 := by show S.2.2.1 + 1 - S.2.2.1 = 1; omega
    have es : (sm_x S).2.2.2 - S.2.2.2 = 6 := by show S.2.2.2 + 6 - S.2.2.2 = 6; omega
    intro T hT X
    obtain ⟨-, r', hr', cell, q1, q2, q3, q4⟩ := hR.2.2.1 x 0 hx
    have hcl : s.vm.findClass "StructureMap" = some cell.cls := by
      have := (hK.1 0 r' hr').2.1
      cases hr'
      rw [q2]
      exact this
    obtain ⟨y, t1, t2, t3, t4, t5⟩ := htab
    obtain ⟨T', ce, X', z1, z2, z3, z4, z5, st1⟩ := sx_threw X B.exec (own := "StructureMapLaw") (C := "StructureMap") (name := sx_X) (index := 7) (y := sx_N) (bytes := prog_1_method_13_code) (maxL := 3) (ret := some .int) hown (hts' _ sx_w3) (hts' _ sx_w4) (hts' _ sx_w5) (hts' _ sx_w6) (hts' _ sx_w7) ⟨by decide, by decide⟩
      (sx_throw (D := D) (base := base) htr hx h9 hf h2 hc) (fun w' hw' a' U hW => word_at hW (by
        rcases List.mem_cons.mp hw' with rfl | hw'
        · exact Or.inl rfl
        · exact good_of_word (sm_good w' hw')) (by
        rcases List.mem_cons.mp hw' with rfl | hw'
        · exact hts' _ sx_w6
        · exact hts' _ hw'))
      (by show 6 + 1 ≤ 7; decide) (by show 8 + (3 + 11) + 100 ≤ 231; decide) (by show 0 + 1 ≤ (sm_x S).2.2.1 - S.2.2.1; omega) (by show 0 + 6 ≤ (sm_x S).2.2.2 - S.2.2.2; omega) (by rw [hT]; exact q1) (by rw [q3]; rfl) hcl
      (g := F0 m 5 ls [.int w, .int i, .ref x, .int 0, .ref o]) rfl (hl.2.2.1.trans hml.symm) (argsL := [.int i, .int w]) (rest := [.int 0, .ref o]) (fun sig h => by
        have : parseMethodDescriptor sx_N.desc = some sig := h
        cases this
        rfl) rfl (by show 2 * 0 + (1 + (1 + 0)) ≤ 8; decide) (by rw [hb]; exact sx_e5)
      (fun vm₁ hW g' mk => ⟨rfl, by show base ≤ T.heap.size; rw [hT]; exact hbase, av_K.moved (u := s) (U := (T.setVm vm₁).calling g' mk _) hW.alike hK, by show av_R sm_cl sm_aT D base _ T.heap S; rw [hT]; exact av_R.moved (u := s) hW.alike hR, sx_Z.mv (u := s) (U := (T.setVm vm₁).calling g' mk _) hW.alike (fun a _ => by show T.heap[a]? = _; rw [hT]) hZ⟩)
    rw [hT] at z1 z2 z3 st1
    have hks : ∃ ks, s.vm.classes[ce.cls]? = some ks := Vm.classAt_of_findClass z5
    obtain ⟨ks, hks⟩ := hks
    have hasg : s.vm.assignable ce.cls ce.cls = true := by
      obtain ⟨c3, c4, hc3, hc4, hasg⟩ := Cond.castable_spec (hZ.1 (.castable sx_X sx_X) (by decide +kernel))
      cases hc3.symm.trans z5
      cases hc4.symm.trans z5
      exact hasg
    obtain ⟨vm', X'', st2⟩ := sx_catch X' (own := "StructureMapLaw") (name := sx_X) (index := 13) hown (hts' _ sx_w2) z3 (fun k hk => by rw [z4] at hk; cases hk) hks z5 hasg (g := F0 m 5 ls [.int 0, .ref o]) rfl t1 (by unfold covers; rw [t2, t3]; rfl) t5 (by decide)
    have fin : W p l e (sx_rl S (sm_x S)) s m [.ref x, .int i, .int w, .ref o].toArray below meth c T'.heap [] 1 6 (MQ below (fun _ st oc t => oc = .returned (some (.int 1)) ∧ av_R sm_cl sm_aT D base t t.heap (sm_x S) ∧ va_F (fun q => base ≤ q) st t) [.ref x, .int i, .int w, .ref o].toArray s ((sm_x S).2.2.1 - S.2.2.1) ((sm_x S).2.2.2 - S.2.2.2) (fun q => base ≤ q)) (F0 m 13 ls [.ref s.heap.size]) := by
      rw [ec, es]
      refine lv_astore B.exec hb sx_e13 hl.2.2 (by decide) rfl (fun ls' _ => ?_)
      refine lv_iconst B.exec hb (v := 1) sx_e15 rfl ?_
      exact W.zret B.exec hb B.returns rfl (fun t ht hW => ⟨rfl, by rw [ht]; exact (hR.x z1 z2).moved hW.alike, by rw [ht]; omega, fun q hq _ => by rw [ht]; exact z2 q hq⟩) (fun q hq => by cases hq) sx_e16
    obtain ⟨t, a1, b1⟩ := fin (T'.setVm vm') rfl X''
    refine ⟨t, st1 t (st2 t ?_), b1⟩
    rw [t4]
    exact a1
  · -- answered
    have ec : (av_set S o 0 (.long v.toInt64)).2.2.1 - S.2.2.1 = 0 := Nat.sub_self _
    have es : (av_set S o 0 (.long v.toInt64)).2.2.2 - S.2.2.2 = 0 := Nat.sub_self _
    have hM := sx_ret (l := l) (D := D) (base := base) hx h9 hf h2 hc hg hk hin hv
    refine av_call (mt := sx_mt) (y := 0) (N := sx_mf) (na := 3) (ln := 3) (d := 6) (q := [1, 0, 7]) (v0 := 0) (S1 := S) (r := some (.int v)) sm_tk sm_good hX rfl sx_cc (by show 3 ≤ 5; decide) (by show 5 ≤ 7; decide) (by show decide (S.1 x = some (.inl 0)) = true; exact decide_eq_true hx) (fun _ _ => hM) (by show 6 + 1 ≤ 7; decide) (by show 33 * (6 + 1) ≤ 231; decide) (by rw [Nat.sub_self]; exact Nat.zero_le _) (by rw [Nat.sub_self]; exact Nat.zero_le _) hR va_S.rf hl.2.2.1 (fun H1 locs1 hR1 hS1 => ?_)
    rw [Nat.sub_self, Nat.sub_self]
    refine lv_i2l B.exec hb sx_e8 rfl ?_
    obtain ⟨hzb, cA, k1, k2, k3⟩ := (hR1.2.2.2 o 4 1 ho).1 (by decide)
    refine W.last B.exec hb k1 (k2 1 (S.2.1 o)) (fun h => by cases h) (by rw [arrV_size]; decide) rfl rfl sx_e9 (fun H' e1 e2 e3 => ?_)
    rw [arrV_store] at e1
    have hR' : av_R sm_cl sm_aT D base s H' (av_set S o 0 (.long v.toInt64)) := hR1.seta ho ⟨cA, e1, k2, k3⟩ e2 e3
    have hS' := hS1.put (k := (0 : Int32).toNatClampNeg) e2 e3 hzb
    refine lv_goto B.exec hb sx_e10 rfl ?_
    refine lv_iconst B.exec hb (v := 0) sx_e17 rfl ?_
    rw [ec, es]
    exact W.zret B.exec hb B.returns rfl (fun t ht hW => ⟨rfl, by rw [ht]; exact hR'.moved hW.alike, hS'.F ht⟩) hS'.2.2 sx_e18
end SX6
