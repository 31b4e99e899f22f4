/-! THE CLASS'S fault -/
def sx_N : MethodName := ⟨"StructureMap", "fault", "(II)I"⟩
def sx_X : String := "java/lang/IndexOutOfBoundsException"
def sx_up : List String := ["java/lang/RuntimeException", "java/lang/Exception"]
def sx_mf : av_Mt := (sx_N, prog_1_method_13_code, 3, some .int, fun _ => none)
/-- a static of references that stands in a cell below base -/
def sx_L (C n d : String) (base : Nat) (U : State) : Prop := ∃ (c : ClassId) (k : Class) (i : Nat) (f : Field) (a : Nat) (cell : Cell) (v : Value), U.vm.findClass C = some c ∧ U.fieldFound? C n d = some (c, k, i, f) ∧ f.isStatic = true ∧ k.statics = some a ∧ a < base ∧ U.heap[a]? = some cell ∧ cell.vm.isStatics = true ∧ cell.cls = c ∧ f.slot < cell.slots.size ∧ k.staticTypes[f.slot]? = some f.type ∧ cell.slots[f.slot]? = some v ∧ (v = .null ∨ ∃ t, v = .ref t)
theorem sx_L.of {C n d : String} {s : State} {args : Array Value} (hl : (Cond.laysStatic C n d).before args s = true) (h : (Cond.isRef (.static C n d)).before args s = true) : sx_L C n d s.heap.size s := by
  obtain ⟨c, k, i, f, a, cell, hc, hi, hst, ha, hcell, hs, hcls, hlt, hty⟩ := Cond.laysStatic_spec hl
  obtain ⟨u, hu⟩ := Cond.staticRefV hi hst ha hcell hs h
  refine ⟨c, k, i, f, a, cell, u.v, hc, hi, hst, ha, (Array.getElem?_eq_some_iff.mp hcell).1, hcell, hs, hcls, hlt, hty, hu, ?_⟩
  obtain ⟨v, hv⟩ := u
  cases v <;> first | exact Or.inl rfl | exact Or.inr ⟨_, rfl⟩ | cases hv
theorem sx_L.mv {C n d : String} {base : Nat} {u U : State} (hvm : u.vm.Alike U.vm) (hq : ∀ a, a < base → U.heap[a]? = u.heap[a]?) (h : sx_L C n d base u) : sx_L C n d base U := by
  obtain ⟨c, k, i, f, a, cell, v, hc, hi, hst, ha, hb, hcell, hs, hcls, hlt, hty, hv⟩ := h
  obtain ⟨k', hi', he⟩ := State.fieldFound?_setVm hvm hi
  have hi2 : U.fieldFound? C n d = some (c, k', i, f) := hi'
  exact ⟨c, k', i, f, a, cell, v, by rw [hvm.findClass]; exact hc, hi2, hst, by rw [he]; exact ha, hb, by rw [hq a hb]; exact hcell, hs, hcls, hlt, by rw [he]; exact hty, hv⟩
theorem sx_L.lays {C n d : String} {base : Nat} {U : State} (h : sx_L C n d base U) (args : Array Value) : (Cond.laysStatic C n d).before args U = true ∧ (Cond.isRef (.static C n d)).before args U = true := by
  obtain ⟨c, k, i, f, a, cell, v, hc, hi, hst, ha, hb, hcell, hs, hcls, hlt, hty, hv, hr⟩ := h
  refine ⟨Cond.laysStatic_of hc hi hst ha hcell hs hcls hlt hty, ?_⟩
  have he : (Term.static C n d).eval args U none [] U = some v := by simp [Term.eval, State.fieldNamed?, hi, hst, ha, hcell, hs, hv]
  rcases hr with rfl | ⟨t, rfl⟩ <;> simp [Cond.before, Cond.holds, Cond.value, he]
def sx_sp : List Jvm.Cond := [.declares (Bundle.init0 "java/lang/RuntimeException"), .declares (Bundle.init0 "java/lang/Exception"), .declares (Bundle.init0 Bundle.tN), .castable sx_X sx_X]
def sx_st : List Jvm.Cond := [.laysStatic Bundle.tN "UNASSIGNED_STACK" Bundle.steD, .laysStatic Bundle.tN "SUPPRESSED_SENTINEL" Bundle.listD, .isRef (.static Bundle.tN "UNASSIGNED_STACK" Bundle.steD), .isRef (.static Bundle.tN "SUPPRESSED_SENTINEL" Bundle.listD)]
theorem sx_atoms : (Bundle.ownAtoms0 "StructureMap" 180 sx_X sx_up).all (fun w => decide (w ∈ sm_Ts) || decide (w ∈ sx_sp ++ sx_st)) = true := by decide +kernel
/-- what the tables and the statics say, and the small machine's words don't -/
def sx_Z (base : Nat) (U : State) : Prop := (∀ w ∈ sx_sp, w.before #[] U = true) ∧ sx_L Bundle.tN "UNASSIGNED_STACK" Bundle.steD base U ∧ sx_L Bundle.tN "SUPPRESSED_SENTINEL" Bundle.listD base U
theorem sx_Z.mv {base : Nat} {u U : State} (hvm : u.vm.Alike U.vm) (hq : ∀ a, a < base → U.heap[a]? = u.heap[a]?) (h : sx_Z base u) : sx_Z base U := by
  refine ⟨fun w hw => ?_, h.2.1.mv hvm hq, h.2.2.mv hvm hq⟩
  have h0 := h.1 w hw
  have tr : w.onTables = true → w.before #[] (u.setVm U.vm) = true → w.before #[] U = true := by
    intro hc h
    have e := Cond.onTables_vm (A := #[]) (A' := #[]) (U := u) (U' := U) U.vm w hc
    have hU : U.setVm U.vm = U := rfl
    rw [hU] at e
    rw [← e]
    exact h
  simp only [sx_sp, List.mem_cons, List.not_mem_nil, or_false] at hw
  rcases hw with rfl | rfl | rfl | rfl
  · exact tr rfl (by rw [Cond.declares_setVm hvm]; exact h0)
  · exact tr rfl (by rw [Cond.declares_setVm hvm]; exact h0)
  · exact tr rfl (by rw [Cond.declares_setVm hvm]; exact h0)
  · exact tr rfl (by rw [Cond.castable_setVm hvm]; exact h0)
theorem sx_own {base : Nat} {U : State} {args : Array Value} (hts : ∀ w ∈ sm_Ts, w.before args U = true) (hz : sx_Z base U) : ∀ w ∈ Bundle.ownAtoms0 "StructureMap" 180 sx_X sx_up, w.before args U = true := by
  intro w hw
  have h := List.all_eq_true.mp sx_atoms w hw
  rw [Bool.or_eq_true, decide_eq_true_eq, decide_eq_true_eq] at h
  rcases h with h | h
  · exact hts w h
  · rcases List.mem_append.mp h with h | h
    · have h0 := hz.1 w h
      have ht : w.onTables = true := by
        simp only [sx_sp, List.mem_cons, List.not_mem_nil, or_false] at h
        rcases h with rfl | rfl | rfl | rfl <;> rfl
      exact va_any ht h0
    · simp only [sx_st, List.mem_cons, List.not_mem_nil, or_false] at h
      rcases h with rfl | rfl | rfl | rfl
      · exact (hz.2.1.lays args).1
      · exact (hz.2.2.lays args).1
      · exact (hz.2.1.lays args).2
      · exact (hz.2.2.lays args).2
theorem cI_lt_of {x y : Int32} (h : ¬ x ≤ y) : y < x := by
  rw [Int32.le_iff_toInt_le] at h
  rw [Int32.lt_iff_toInt_lt]
  omega
theorem sx_d0 : decode prog_1_method_13_code 0 = .ok (.iload_n 1, 1) := by decide +kernel
theorem sx_d1 : decode prog_1_method_13_code 1 = .ok (.ifCond .lt 23, 3) := by decide +kernel
theorem sx_d4 : decode prog_1_method_13_code 4 = .ok (.iload_n 1, 1) := by decide +kernel
theorem sx_d5 : decode prog_1_method_13_code 5 = .ok (.aload_n 0, 1) := by decide +kernel
theorem sx_d12 : decode prog_1_method_13_code 12 = .ok (.if_icmp .ge 12, 3) := by decide +kernel
theorem sx_d15 : decode prog_1_method_13_code 15 = .ok (.iload_n 2, 1) := by decide +kernel
theorem sx_d16 : decode prog_1_method_13_code 16 = .ok (.ifCond .lt 8, 3) := by decide +kernel
theorem sx_d19 : decode prog_1_method_13_code 19 = .ok (.iload_n 2, 1) := by decide +kernel
theorem sx_d20 : decode prog_1_method_13_code 20 = .ok (.iconst 1, 1) := by decide +kernel
theorem sx_d21 : decode prog_1_method_13_code 21 = .ok (.if_icmp .le 11, 3) := by decide +kernel
theorem sx_d24 : decode prog_1_method_13_code 24 = .ok (.new 178, 3) := by decide +kernel
theorem sx_d27 : decode prog_1_method_13_code 27 = .ok (.dup, 1) := by decide +kernel
theorem sx_d28 : decode prog_1_method_13_code 28 = .ok (.invokespecial 180, 3) := by decide +kernel
theorem sx_d31 : decode prog_1_method_13_code 31 = .ok (.athrow, 1) := by decide +kernel
theorem sx_d32 : decode prog_1_method_13_code 32 = .ok (.iload_n 2, 1) := by decide +kernel
theorem sx_d33 : decode prog_1_method_13_code 33 = .ok (.ifCond .ne 15, 3) := by decide +kernel
theorem sx_d36 : decode prog_1_method_13_code 36 = .ok (.aload_n 0, 1) := by decide +kernel
theorem sx_d43 : decode prog_1_method_13_code 43 = .ok (.iload_n 1, 1) := by decide +kernel
theorem sx_d44 : decode prog_1_method_13_code 44 = .ok (.iaload, 1) := by decide +kernel
theorem sx_d45 : decode prog_1_method_13_code 45 = .ok (.goto 12, 3) := by decide +kernel
theorem sx_d48 : decode prog_1_method_13_code 48 = .ok (.aload_n 0, 1) := by decide +kernel
theorem sx_d55 : decode prog_1_method_13_code 55 = .ok (.iload_n 1, 1) := by decide +kernel
theorem sx_d56 : decode prog_1_method_13_code 56 = .ok (.iaload, 1) := by decide +kernel
theorem sx_d57 : decode prog_1_method_13_code 57 = .ok (.ireturn, 1) := by decide +kernel
theorem sx_g : [(6, 0, 9, 61), (9, 4, 2, 167), (37, 0, 9, 61), (40, 4, 0, 181), (49, 0, 9, 61), (52, 4, 1, 185)].all (fun q : Nat × Nat × Nat × Nat => av_chk sm_Ts sm_cl sm_fT sm_aT sm_ao sm_mt sx_mf q.1 (30, 3, q.2.1, q.2.2.1, 0, [q.2.2.2])) = true := by decide +kernel
section SX3
variable {p : Program} {l : Launch} {e : Env} {R : Room} {s : State} {m : MethodId} {args : Array Value} {below : List Frame} {meth : Method} {c : Code} {H : Heap} {locs : List Loc} {cells slots : Nat} {Q : State → Prop}
variable {D : va_G} {base : Nat} {M : av_Mt} {S : av_St}
theorem sx_get (X : av_Cx sm_Ts sm_cl D sm_ao base M p s m args meth c) (hR : av_R sm_cl sm_aT D base s H S) {ci k index z pc : Nat} {ls : Array Slot} {K : List Value} (hz : S.1 z = some (.inl ci)) (hc : av_chk sm_Ts sm_cl sm_fT sm_aT sm_ao sm_mt M pc (30, 3, ci, k, 0, [index]) = true)
    (kk : W p l e R s m args below meth c H locs cells slots Q (F0 m (pc + 3) ls (S.2.1 z k :: K))) : W p l e R s m args below meth c H locs cells slots Q (F0 m pc ls (.ref z :: K)) := by
  simp only [av_chk] at hc
  split at hc
  · rename_i r hr
    simp only [Bool.and_eq_true, decide_eq_true_eq] at hc
    obtain ⟨⟨⟨-, hc⟩, hk⟩, hw⟩ := hc
    obtain ⟨-, r', hr', cell, q1, q2, q3, q4⟩ := hR.2.2.1 z ci hz
    have e1 : r' = r := Option.some.inj (hr'.symm.trans hr)
    subst e1
    obtain ⟨hSl, hfc, kC, hkC, hkind⟩ := X.2.2.2.2.2.1.1 ci _ hr
    obtain ⟨cf, kf, fi, f, hi, hsl⟩ := hSl k hk
    refine W.getf X.1 X.2.1 X.2.2.2.1 (X.2.2.2.2.1 _ (av_mem_ok hw)) hi (u_facts hfc hkC (u_lays X.2.2.2.2.1 (sm_tk ci _ hr).1 hk) hi).1 q1 (by rw [q3]; exact fun h => by cases h) (v := S.2.1 z k) ?_ rfl rfl (av_dec_ok hc) kk
    rw [hsl]
    exact q4 k hk
  · cases hc
/-- its tests: out of the range, or on -/
theorem sx_pre (X : av_Cx sm_Ts sm_cl D sm_ao base sx_mf p s m args meth c) (hR : av_R sm_cl sm_aT D base s H S) {x f : Nat} {i w n : Int32} {ls : Array Slot} (hl : av_lv ls 3 [some (.ref x), some (.int i), some (.int w)]) (hx : S.1 x = some (.inl 0)) (h9 : S.2.1 x 9 = .ref f) (hf : S.1 f = some (.inl 4)) (h2 : S.2.1 f 2 = .int n)
    (k1 : (i < 0 ∨ n ≤ i ∨ w < 0 ∨ 1 < w) → W p l e R s m args below meth c H locs cells slots Q (F0 m 24 ls [])) (k2 : ¬ (i < 0 ∨ n ≤ i ∨ w < 0 ∨ 1 < w) → W p l e R s m args below meth c H locs cells slots Q (F0 m 32 ls [])) : W p l e R s m args below meth c H locs cells slots Q (F0 m 0 ls []) := by
  have hg := List.all_eq_true.mp sx_g
  have hb : c.code = prog_1_method_13_code := X.2.1
  refine lv_iload_n X.1 hb sx_d0 rfl (hl.at (i := 1) rfl) ?_
  refine lv_if_lt X.1 hb sx_d1 rfl (fun q => k1 (Or.inl q)) (fun q1 => ?_)
  refine lv_iload_n X.1 hb sx_d4 rfl (hl.at (i := 1) rfl) ?_
  refine lv_aload_n X.1 hb sx_d5 rfl (hl.at (i := 0) rfl) ?_
  refine sx_get X hR hx (hg (6, 0, 9, 61) (by decide)) ?_
  rw [h9]
  refine sx_get X hR hf (hg (9, 4, 2, 167) (by decide)) ?_
  rw [h2]
  refine lv_icmp_ge X.1 hb sx_d12 rfl (fun q => k1 (Or.inr (Or.inl q))) (fun q2 => ?_)
  refine lv_iload_n X.1 hb sx_d15 rfl (hl.at (i := 2) rfl) ?_
  refine lv_if_lt X.1 hb sx_d16 rfl (fun q => k1 (Or.inr (Or.inr (Or.inl q)))) (fun q3 => ?_)
  refine lv_iload_n X.1 hb sx_d19 rfl (hl.at (i := 2) rfl) ?_
  refine lv_iconst X.1 hb (v := 1) sx_d20 rfl ?_
  refine lv_icmp_le X.1 hb sx_d21 rfl (fun q4 => k2 ?_) (fun q4 => k1 (Or.inr (Or.inr (Or.inr (cI_lt_of q4)))))
  rintro (q | q | q | q)
  · exact q1 q
  · exact q2 q
  · exact q3 q
  · exact cI_nlt.mpr q4 q
end SX3
section SX4
variable {l : Launch} {D : va_G} {base : Nat} {S : av_St} {x f : Nat} {i w n : Int32}
def sx_rm : Room := { frames := 6, cells := 1, slots := 6, locals := 100 }
theorem sx_throw (htr : l.stackTraces = false) (hx : S.1 x = some (.inl 0)) (h9 : S.2.1 x 9 = .ref f) (hf : S.1 f = some (.inl 4)) (h2 : S.2.1 f 2 = .int n) (hc : i < 0 ∨ n ≤ i ∨ w < 0 ∨ 1 < w) :
    MetFree l sx_N (headSpec (Cond.code sx_N prog_1_method_13_code 3 (some .int) :: sm_Ts) sx_rm) (fun args s => args = [.ref x, .int i, .int w].toArray ∧ base ≤ s.heap.size ∧ av_K sm_cl D sm_ao s ∧ av_R sm_cl sm_aT D base s s.heap S ∧ sx_Z base s) (fun _ _ _ _ _ => True) (sx_Q sx_X) := by
  refine MetFree.of_bodyS (code := prog_1_method_13_code) (maxLocals := 3) (ret := some .int) (by decide) ?_ ?_
  · intro args s m h hn
    obtain ⟨meth, c, h1, h2, h3, h4, h5, h6, -, -⟩ := Cond.code_spec hn (atoms_spec (ws := Cond.code sx_N prog_1_method_13_code 3 (some .int) :: sm_Ts) h _ List.mem_cons_self)
    exact ⟨meth, c, h1, h2, h3, h4, h5, h6⟩
  · intro p e s m args below meth c s₁ B hml hP _
    obtain ⟨rfl, hbase, hK, hR, hZ⟩ := hP
    have hts := atoms_spec (ws := Cond.code sx_N prog_1_method_13_code 3 (some .int) :: sm_Ts) B.pre
    have hts' : ∀ w' ∈ sm_Ts, w'.before [.ref x, .int i, .int w].toArray s = true := fun w' hw => hts w' (List.mem_cons_of_mem _ hw)
    have hcodeV := hts _ List.mem_cons_self
    have hown : s.vm.findClass sx_N.cls = some m.cls := findClass_of_methodNamed B.named
    have hX : av_Cx sm_Ts sm_cl D sm_ao base sx_mf p s m [.ref x, .int i, .int w].toArray meth c := ⟨B.exec, B.bytes, hml, hown, hts', hK, fun h => (name_of_methodNamed B.named B.method).1.trans h, hbase⟩
    have X₀ := Stand.of_body B
    have hh0 : s₁.heap = s.heap := by rw [B.state]; rfl
    have htr' : e.platform.stackTraces = false := by rw [Example.NoTraceControls.admits_follows X₀.admits]; exact htr
    have hhand := B.noHandlers hcodeV
    have hlocks := B.notSynchronized
    have Wk : W p l e sx_rm s m [.ref x, .int i, .int w].toArray below meth c s.heap [] 0 0 (fun t => ∃ o, t.status = .running ∧ Ended t below o ∧ sx_Q sx_X [.ref x, .int i, .int w].toArray s o t) (entryFrame m [.ref x, .int i, .int w].toArray 3) := by
      rw [lg_entry_eq]
      have hl : av_lv (lg_sl [.ref x, .int i, .int w] ++ List.replicate (3 - (lg_sl [.ref x, .int i, .int w]).length) Slot.unset).toArray 3 (av_ent [.ref x, .int i, .int w] 3) := av_ent_lv (fun v hv => by
        simp only [List.mem_cons, List.not_mem_nil, or_false] at hv
        rcases hv with rfl | rfl | rfl <;> rfl) (Nat.le_refl 3)
      generalize (lg_sl [.ref x, .int i, .int w] ++ List.replicate (3 - (lg_sl [.ref x, .int i, .int w]).length) Slot.unset).toArray = ls at hl ⊢
      refine sx_pre hX hR hl hx h9 hf h2 (fun _ => ?_) (fun q => absurd hc q)
      refine W.newc B.exec B.bytes hown (C := sx_X) (index := 178) (n := 6) (hts' _ (by decide +kernel)) (hts' _ (by decide +kernel)) (hts' _ (by decide +kernel)) rfl sx_d24 (by decide) (by decide) (fun cC kC q1 q2 q3 q4 => ?_)
      refine lv_dup B.exec B.bytes sx_d27 rfl ?_
      intro T hT X
      have hcell : T.heap[s.heap.size]? = some (freshCell cC kC) := by
        rw [hT]
        exact Array.getElem?_push_size
      obtain ⟨U, hsteps, hrun, hend, hW, hsame, ce, hce, K⟩ := X.ctorThrow0 B.exec htr' (own := "StructureMap") (cls := sx_X) (names := sx_up) (ic := 180) hown (by decide +kernel) (by decide +kernel) (sx_own hts' hZ) (fun y hy => by cases hy) q1 q2 hcell (Nat.le_refl _) (g := F0 m 28 ls [.ref s.heap.size, .ref s.heap.size]) rfl (by rw [hml]; exact hl.2.2.1) rfl rfl (rest := []) rfl
        (by rw [B.bytes]; exact sx_d28) (by rw [B.bytes]; exact sx_d31) (covers_of_empty hhand _) (by decide) (by show 2 * 0 + (1 + 0) + (13 * 3 + 41) ≤ 100; decide)
      exact ⟨U, hsteps, .threw s.heap.size, hrun, hend, rfl, hW, hsame, ce, hce, K.vm, K.cls⟩
    obtain ⟨t, a1, o, b1, b2, b3⟩ := Wk s₁ hh0 X₀
    exact ⟨t, o, a1, b1, b2, b3⟩
end SX4
section SX5
variable {l : Launch} {D : va_G} {base : Nat} {S : av_St} {x f g : Nat} {i w n v : Int32}
theorem sx_ret (hx : S.1 x = some (.inl 0)) (h9 : S.2.1 x 9 = .ref f) (hf : S.1 f = some (.inl 4)) (h2 : S.2.1 f 2 = .int n) (hc : ¬ (i < 0 ∨ n ≤ i ∨ w < 0 ∨ 1 < w)) (hg : S.2.1 f (if w = 0 then 0 else 1) = .ref g) (hk : S.1 g = some (.inr (0, 300))) (hin : av_inb i 300 = true) (hv : S.2.1 g i.toNatClampNeg = .int v) :
    av_Met sm_Ts sm_cl sm_aT D sm_ao base l 6 sx_mf [.ref x, .int i, .int w] S S (some (.int v)) := by
  unfold av_Met
  rw [Nat.sub_self, Nat.sub_self]
  refine va_MetF (cc := prog_1_method_13_code) (maxL := 3) (ret := some .int) (by decide) rfl ?_
  intro p e s m args below meth c s₁ B hml hP
  obtain ⟨rfl, hbase, hK, hR⟩ := hP
  have hts := atoms_spec (ws := Cond.code sx_N prog_1_method_13_code 3 (some .int) :: sm_Ts) B.pre
  have hts' : ∀ w' ∈ sm_Ts, w'.before [.ref x, .int i, .int w].toArray s = true := fun w' hw => hts w' (List.mem_cons_of_mem _ hw)
  have hown : s.vm.findClass sx_N.cls = some m.cls := findClass_of_methodNamed B.named
  have hX : av_Cx sm_Ts sm_cl D sm_ao base sx_mf p s m [.ref x, .int i, .int w].toArray meth c := ⟨B.exec, B.bytes, hml, hown, hts', hK, fun h => (name_of_methodNamed B.named B.method).1.trans h, hbase⟩
  have hb : c.code = prog_1_method_13_code := B.bytes
  have hlocks := B.notSynchronized
  rw [lg_entry_eq]
  have hl : av_lv (lg_sl [.ref x, .int i, .int w] ++ List.replicate (3 - (lg_sl [.ref x, .int i, .int w]).length) Slot.unset).toArray 3 (av_ent [.ref x, .int i, .int w] 3) := av_ent_lv (fun v hv => by
    simp only [List.mem_cons, List.not_mem_nil, or_false] at hv
    rcases hv with rfl | rfl | rfl <;> rfl) (Nat.le_refl 3)
  generalize (lg_sl [.ref x, .int i, .int w] ++ List.replicate (3 - (lg_sl [.ref x, .int i, .int w]).length) Slot.unset).toArray = ls at hl ⊢
  have hgc := List.all_eq_true.mp sx_g
  obtain ⟨-, cell, r1, r2, r3, r4, r5⟩ := hR.2.2.2 g 0 300 hk
  have hin' := av_inb_ok hin
  have hlt : i.toNatClampNeg < 300 := Nat.not_le.mp fun q => hin' (Or.inr q)
  have hin2 : ¬ (i < 0 ∨ cell.slots.size ≤ i.toNatClampNeg) := by rw [r4]; exact hin'
  have hv' : cell.slots[i.toNatClampNeg]? = some (.int v) := by rw [← hv]; exact r5 _ hlt
  have fin : W p l e (headSpec (Cond.code sx_N prog_1_method_13_code 3 (some .int) :: sm_Ts) { frames := 6, cells := 0, slots := 0, locals := 33 * 6 }).room s m [.ref x, .int i, .int w].toArray below meth c s.heap [] 0 0 (MQ below (fun _ st oc t => oc = .returned (some (.int v)) ∧ av_R sm_cl sm_aT D base t t.heap S ∧ va_F (fun q => base ≤ q) st t) [.ref x, .int i, .int w].toArray s 0 0 (fun q => base ≤ q)) (F0 m 57 ls [.int v]) :=
    W.zret B.exec hb B.returns rfl (fun t ht hW => ⟨rfl, by rw [ht]; exact hR.moved hW.alike, (va_S.rf (A := fun q => base ≤ q) (H0 := s.heap)).F ht⟩) (fun q hq => by cases hq) sx_d57
  refine sx_pre hX hR hl hx h9 hf h2 (fun q => absurd q hc) (fun _ => ?_)
  refine lv_iload_n B.exec hb sx_d32 rfl (hl.at (i := 2) rfl) ?_
  refine lv_if_ne B.exec hb sx_d33 rfl (fun q => ?_) (fun q => ?_)
  · rw [if_neg q] at hg
    refine lv_aload_n B.exec hb sx_d48 rfl (hl.at (i := 0) rfl) ?_
    refine sx_get hX hR hx (hgc (49, 0, 9, 61) (by decide)) ?_
    rw [h9]
    refine sx_get hX hR hf (hgc (52, 4, 1, 185) (by decide)) ?_
    rw [hg]
    refine lv_iload_n B.exec hb sx_d55 rfl (hl.at (i := 1) rfl) ?_
    exact W.iald B.exec hb r1 r2 r3 hin2 hv' rfl rfl sx_d56 fin
  · have q0 : w = 0 := by first | exact q | exact Classical.byContradiction q
    rw [if_pos q0] at hg
    refine lv_aload_n B.exec hb sx_d36 rfl (hl.at (i := 0) rfl) ?_
    refine sx_get hX hR hx (hgc (37, 0, 9, 61) (by decide)) ?_
    rw [h9]
    refine sx_get hX hR hf (hgc (40, 4, 0, 181) (by decide)) ?_
    rw [hg]
    refine lv_iload_n B.exec hb sx_d43 rfl (hl.at (i := 1) rfl) ?_
    refine W.iald B.exec hb r1 r2 r3 hin2 hv' rfl rfl sx_d44 ?_
    exact lv_goto B.exec hb sx_d45 rfl fin
end SX5
