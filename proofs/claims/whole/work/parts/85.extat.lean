/-! THE LAW'S CALL OF ITS fault, in the law's frame -/
theorem sx_45 : sm_c98.all (fun r => (r.2.1 != 45) || (r.2.2.2.2.1 == 4 && r.2.2.2.2.2.2 == [65])) = true := by decide +kernel
theorem sx_row {pc ln a na : Nat} {v0 : Int32} {q : List Nat} (h : sm_m98.2.2.2.2 pc = some (45, ln, a, na, v0, q)) : na = 4 ∧ q = [65] := by
  have h1 := List.all_eq_true.mp sx_45 (pc, (45, ln, a, na, v0, q)) (sm_find_mem sm_c98 pc _ h)
  simp only [bne_self_eq_false, Bool.false_or, Bool.and_eq_true, beq_iff_eq] at h1
  exact h1
theorem sx_shape {as : List Value} {S : av_St} {r : Option Value × av_St} (h : sm_ext as S = some r) : ∃ x i w o, as = [.ref x, .int i, .int w, .ref o] := by
  unfold sm_ext at h
  split at h
  · exact ⟨_, _, _, _, rfl⟩
  · cases h
section SX7
variable {p : Program} {l : Launch} {e : Env} {R : Room} {s : State} {m : MethodId} {args : Array Value} {below : List Frame} {meth : Method} {c : Code} {H : Heap} {locs : List Loc} {cells slots : Nat} {Q : State → Prop}
/-- a static method whose code has a table of exceptions -/
theorem sx_runS (hexec : p.tables.exec = Jvm.exec) {cc : ByteArray} {nL : Nat} (hb : c.code = cc) (hml : c.maxLocals = nL) {own : String} {index maxL mc ms : Nat} {y : MethodName} {bytes : ByteArray} {ret : Option FieldType} {hh : List (Nat × Nat × Nat × Nat)} {ws : List Cond} {rm : Room} {Pc : Array Value → State → Prop} {Qc : Array Value → State → Outcome → State → Prop} {free : Addr → Prop}
    (hown : s.vm.findClass own = some m.cls) (hM : Met l y ws rm Pc Qc mc ms free) (hblind : FrameBlind Pc) (hrc : rm.cells = mc) (hrs : rm.slots = ms) (hfr : rm.frames + 1 ≤ R.frames) (hlo : 8 + (maxL + 11) + rm.locals ≤ R.locals) (hws : ∀ w ∈ ws, ∀ (a' : Array Value) (U : State), s.WarmedH U.vm → w.before a' U = true) (hcw : Cond.codeWith y bytes maxL ret hh ∈ ws)
    (hlink : (Cond.methodLink own index y).before args s = true) (hstat : (Cond.static y).before args s = true) (hini : (Cond.initialized y.cls).before args s = true) (hcode : (Cond.codeWith y bytes maxL ret hh).before args s = true) (hy : y.cls ≠ "java/lang/invoke/MethodHandle" ∧ y.cls ≠ "java/lang/invoke/VarHandle")
    {As rest : List Value} (hlen : ∀ sig, parseMethodDescriptor y.desc = some sig → As.length = sig.parameters.length) (hPc : ∀ U : State, U.heap = H → s.WarmedH U.vm → Pc As.toArray U)
    {g : JFrame} (hg : g.method = m) (hsize : g.locals.size = nL) (hstack : g.stack = As.reverse ++ rest) (hW : 2 * g.monitorRoom + (rest.map fun v => v.category).sum ≤ 8) (hdg : decode cc g.pc = .ok (.invokestatic index, 3)) (hf : cells + mc ≤ R.cells ∧ slots + ms ≤ R.slots) :
    va_Run p l e R s m args below meth c H locs cells slots mc ms g rest (Qc As.toArray) free := by
  have hK : Back l R p e below s args y 3 8 (PreOf R mc ms Pc) (PostOf Qc mc ms free) := va_backW (hh := hh) (bytes := bytes) (maxL := maxL) (ret := ret) hM hblind hrc hrs hfr hlo hws hcw (fun a' U hW => word_at hW (Or.inl (by first | rfl | simp [Cond.onTables, Cond.keeps, Cond.steady])) hini)
  intro T hT X
  obtain ⟨mk, methM, cM, hnamed, hmethM, -, -, -, -, -, -, hsigM⟩ := Cond.codeWith_spec hcode
  have hstatic : methM.isStatic = true := Cond.static_spec hnamed hmethM hstat
  obtain ⟨kP, hkP, -⟩ := className_of_methodNamed hnamed
  have hinitP : kP.init = .initialized := Cond.initialized_spec (findClass_of_methodNamed hnamed) hkP hini
  obtain ⟨vm₁, X₁, hstep₁⟩ := X.invokestatic hexec hown hlink hnamed hmethM hstatic hkP hinitP hy (g := g) hg (argsL := As) (rest := rest) (hlen _ hsigM) hstack (by rw [hb]; exact hdg)
  obtain ⟨v, ⟨U', l2, c2, s2⟩, X', ⟨g', mk', t, L, e1, e2, hq, h1, hL, h2, h3⟩, hsteps⟩ := hK m meth c ⟨T.setVm vm₁, locs, cells, slots⟩ { g with stack := rest } (.invokestatic index) mk As.toArray X₁ hg (hsize.trans hml.symm) (by rw [hb]; exact hdg) hW (X₁.named hnamed) ⟨hf.1, hf.2, hPc (T.setVm vm₁) hT X₁.warmed⟩
  dsimp only [Pt.U, Pt.locs, Pt.cells, Pt.slots] at X' e1 e2 h1 h2 h3 hsteps
  subst h1; subst h2; subst h3
  exact ⟨v, (T.setVm vm₁).calling g' mk' As.toArray, t, U', L, hT, X', hL, e1, e2, hq, fun target h => hstep₁ _ fun acts => by rw [doInvoke_state]; exact hsteps.trans h⟩
variable {D : va_G} {base : Nat}
theorem sx_blind {as : List Value} {S : av_St} : FrameBlind (va_Pc as (fun U => (base ≤ U.heap.size ∧ av_K sm_cl D sm_ao U ∧ av_R sm_cl sm_aT D base U U.heap S) ∧ sx_Z base U)) := by
  intro a U g mk h
  obtain ⟨h1, ⟨h2, h3, h4⟩, h5⟩ := h
  exact ⟨h1, ⟨h2, av_K.moved (u := U) (U := U.calling g mk a) (Vm.Alike.refl U.vm) h3, av_R.moved (u := U) (U := U.calling g mk a) (Vm.Alike.refl U.vm) h4⟩, sx_Z.mv (u := U) (U := U.calling g mk a) (Vm.Alike.refl U.vm) (fun _ _ => rfl) h5⟩
theorem sx_extAt (htr : l.stackTraces = false) (X : av_Cx sm_Ts sm_cl D sm_ao base sm_m98 p s m args meth c) (hbase : base = s.heap.size) (hZ : sx_Z base s) (hRf : 8 ≤ R.frames) (hRl : 255 ≤ R.locals) : av_ExtAt p l e R s m args below meth c Q sm_cl sm_aT D base sm_m98 sm_ext := by
  rintro pc na q K S S1 r ⟨ln, a, v0, hI⟩ hd hlen hrest hext H locs cells slots ls hR hS hls hRc hRs kk
  obtain ⟨rfl, rfl⟩ := sx_row hI
  obtain ⟨x, i, w, o, hsh⟩ := sx_shape hext
  rw [hsh] at hext
  have hts := X.2.2.2.2.1
  have hK : K = [.ref x, .int i, .int w, .ref o].reverse ++ K.drop 4 := by
    rw [← hsh, List.reverse_reverse, List.take_append_drop]
  have hsum : ((K.drop 4).map fun v => v.category).sum ≤ 8 := Nat.le_trans (av_catsum _) (by rw [List.length_drop]; omega)
  have run := sx_runS (H := H) (locs := locs) (cells := cells) (slots := slots) (below := below) (meth := meth) (e := e) (R := R) (g := F0 m pc ls K) (rest := K.drop 4) (As := [.ref x, .int i, .int w, .ref o]) (index := 65) X.1 X.2.1 X.2.2.1 X.2.2.2.1 (sx_law (D := D) (base := base) htr hext) sx_blind rfl rfl (by show 7 + 1 ≤ R.frames; exact hRf) (by show 8 + (5 + 11) + 231 ≤ R.locals; omega)
    (fun w' hw' a' U hW => word_at hW (by
        rcases List.mem_cons.mp hw' with rfl | hw'
        · exact good_of_word (sm_good _ sx_w1)
        · exact good_of_word (sm_good w' hw')) (by
        rcases List.mem_cons.mp hw' with rfl | hw'
        · exact hts _ sx_w1
        · exact hts _ hw'))
    List.mem_cons_self (hts _ sx_w10) (hts _ sx_w9) (hts _ sx_w8) (hts _ sx_w1) ⟨by decide, by decide⟩ (fun sig h => by
        have : parseMethodDescriptor sx_LF.desc = some sig := h
        cases this
        rfl)
    (fun U hU hW => ⟨rfl, ⟨by rw [hU]; exact hR.2.1, av_K.moved hW.alike X.2.2.2.2.2.1, by rw [hU]; exact hR.moved hW.alike⟩, hZ.mv hW.alike (fun a ha => by rw [hU]; exact hS.2.1 a (by omega) (by omega))⟩)
    rfl hls hK (lv_room hsum) (av_dec_ok hd) ⟨hRc, hRs⟩
  exact av_behind run hS kk
end SX7
