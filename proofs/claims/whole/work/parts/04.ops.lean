/-! ONE INSTRUCTION OF THE SMALL MACHINE IS ONE OF THE MACHINE -/
def av_dec (M : av_Mt) (pc : Nat) (i : Instr) (ln : Nat) : Bool := decide (decode M.2.1 pc = .ok (i, ln))
theorem av_dec_ok {M : av_Mt} {pc : Nat} {i : Instr} {ln : Nat} (h : av_dec M pc i ln = true) : decode M.2.1 pc = .ok (i, ln) := of_decide_eq_true h
def av_fin (a : Nat) : Fin 4 := match a with
  | 0 => 0
  | 1 => 1
  | 2 => 2
  | _ => 3
theorem av_fin_ok {a : Nat} (h : a < 4) : (av_fin a : Nat) = a := by
  match a, h with
  | 0, _ => rfl
  | 1, _ => rfl
  | 2, _ => rfl
  | 3, _ => rfl
def av_mem (Ts : List Jvm.Cond) (w : Jvm.Cond) : Bool := decide (w ∈ Ts)
theorem av_mem_ok {Ts : List Jvm.Cond} {w : Jvm.Cond} (h : av_mem Ts w = true) : w ∈ Ts := of_decide_eq_true h
def av_off (pc t : Nat) : Int := (t : Int) - (pc : Int)
theorem av_off_ok (pc t : Nat) : (pc : Int) + av_off pc t = (t : Int) := by unfold av_off; omega
/-- is this row the instruction at this place, and do the tables know what it names -/
def av_chk (Ts : List Jvm.Cond) (cl : List vw_C) (fT : Nat → Nat → FieldType) (aT : Nat → FieldType) (ao : List String) (mt : Nat → Option av_Mt) (M : av_Mt) (pc : Nat) (I : av_I) : Bool := match I with
  | (0, ln, a, _, _, _) => if ln = 1 then decide (a < 4) && av_dec M pc (.iload_n (av_fin a)) 1 else decide (ln = 2) && av_dec M pc (.iload a) 2
  | (1, ln, a, _, _, _) => if ln = 1 then decide (a < 4) && av_dec M pc (.aload_n (av_fin a)) 1 else decide (ln = 2) && av_dec M pc (.aload a) 2
  | (2, ln, a, _, _, _) => if ln = 1 then decide (a < 4) && av_dec M pc (.istore_n (av_fin a)) 1 else decide (ln = 2) && av_dec M pc (.istore a) 2
  | (3, ln, a, _, _, _) => if ln = 1 then decide (a < 4) && av_dec M pc (.astore_n (av_fin a)) 1 else decide (ln = 2) && av_dec M pc (.astore a) 2
  | (4, ln, k, idx, v, _) => match k with
    | 0 => decide (ln = 1) && av_dec M pc (.iconst v.toInt) 1
    | 1 => decide (ln = 2) && av_dec M pc (.bipush v.toInt) 2 && decide ((Int8.ofInt v.toInt).toInt32 = v)
    | 2 => decide (ln = 3) && av_dec M pc (.sipush v.toInt) 3 && decide ((Int16.ofInt v.toInt).toInt32 = v)
    | _ => decide (ln = 2) && av_dec M pc (.ldc idx) 2 && av_mem Ts (.constant M.1.cls idx v)
  | (5, ln, _, _, _, _) => decide (ln = 1) && av_dec M pc .aconst_null 1
  | (6, ln, a, _, v, _) => decide (ln = 3) && av_dec M pc (.iinc a v.toInt) 3
  | (7, ln, k, _, _, _) => decide (ln = 1) && decide (k < 10) && av_dec M pc (av_binI k) 1
  | (8, ln, _, _, _, _) => decide (ln = 1) && av_dec M pc .i2c 1
  | (9, ln, _, _, _, _) => decide (ln = 1) && av_dec M pc .ineg 1
  | (10, ln, _, _, _, _) => decide (ln = 1) && av_dec M pc .dup 1
  | (11, ln, _, _, _, _) => decide (ln = 1) && av_dec M pc .pop 1
  | (12, ln, _, _, _, _) => decide (ln = 1) && av_dec M pc .dup_x1 1
  | (13, ln, _, _, _, _) => decide (ln = 1) && av_dec M pc .dup2 1
  | (14, ln, _, _, _, _) => decide (ln = 1) && av_dec M pc .dup_x2 1
  | (15, ln, k, t, _, _) => decide (ln = 3) && decide (k < 6) && av_dec M pc (av_ifI k (av_off pc t)) 3
  | (16, ln, k, t, _, _) => decide (ln = 3) && decide (k < 6) && av_dec M pc (av_icI k (av_off pc t)) 3
  | (17, ln, k, t, _, _) => decide (ln = 3) && decide (k < 2) && av_dec M pc (av_acI k (av_off pc t)) 3
  | (18, ln, _, t, _, _) => decide (ln = 3) && av_dec M pc (.ifnull (av_off pc t)) 3
  | (19, ln, _, t, _, _) => decide (ln = 3) && av_dec M pc (.ifnonnull (av_off pc t)) 3
  | (20, ln, _, t, _, _) => decide (ln = 3) && av_dec M pc (.goto (av_off pc t)) 3
  | (21, ln, _, t, lo, ts) => av_dec M pc (.tableswitch (av_off pc t) lo.toInt (lo.toInt + (ts.length : Int) - 1) (ts.map (av_off pc)).toArray) ln
  | (22, ln, _, _, _, _) => decide (ln = 1) && av_dec M pc .i2b 1
  | (23, ln, _, _, _, _) => decide (ln = 1) && av_dec M pc .i2l 1
  | (24, ln, _, _, _, _) => decide (ln = 1) && av_dec M pc .lcmp 1
  | (30, ln, ci, k, _, q) => match cl[ci]? with
    | some r => decide (ln = 3) && av_dec M pc (.getfield (q.getD 0 0)) 3 && decide (k < r.2.2) && av_mem Ts (.fieldLink M.1.cls (q.getD 0 0) (r.2.1 k).1 (r.2.1 k).2.1 (r.2.1 k).2.2.1)
    | none => false
  | (31, ln, ci, k, _, q) => match cl[ci]? with
    | some r => decide (ln = 3) && av_dec M pc (.putfield (q.getD 0 0)) 3 && decide (k < r.2.2) && av_mem Ts (.fieldLink M.1.cls (q.getD 0 0) (r.2.1 k).1 (r.2.1 k).2.1 (r.2.1 k).2.2.1) && ((r.2.1 k).2.2.2 == false || (decide (M.1.name = "<init>") && decide ((r.2.1 k).1 = M.1.cls)))
    | none => false
  | (32, ln, _, _, _, _) => decide (ln = 1) && av_dec M pc .arraylength 1
  | (33, ln, j, _, _, _) => match av_aldI (aT j) with
    | some i => decide (ln = 1) && av_dec M pc i 1 && decide (aT (j + 50) = aT j)
    | none => false
  | (34, ln, j, _, _, _) => match av_astI (aT j) with
    | some i => decide (ln = 1) && av_dec M pc i 1 && decide (j < 50)
    | none => false
  | (35, ln, j, ci, _, _) => match cl[ci]? with
    | some r => decide (ln = 1) && av_dec M pc .aastore 1 && decide (j < 50) && decide (aT j = .object r.1)
    | none => false
  | (36, ln, ci, _, _, q) => match cl[ci]? with
    | some r => decide (ln = 3) && av_dec M pc (.new (q.getD 0 0)) 3 && av_mem Ts (.classLink M.1.cls (q.getD 0 0) r.1) && av_mem Ts (.instantiable r.1 r.2.2) && av_mem Ts (.initialized r.1)
    | none => false
  | (37, ln, j, _, _, _) => match av_newI (aT j) with
    | some t => decide (ln = 2) && av_dec M pc (.newarray t) 2 && av_mem Ts (.arrayClass (aT j))
    | none => false
  | (38, ln, j, ci, _, q) => match cl[ci]? with
    | some r => decide (ln = 3) && av_dec M pc (.anewarray (q.getD 0 0)) 3 && decide (aT j = .object r.1) && av_mem Ts (.classLink M.1.cls (q.getD 0 0) r.1) && decide (r.1 ∈ ao)
    | none => false
  | (40, ln, y, na, _, q) => match mt y with
    | some N => decide (ln = 3) && av_mem Ts (.methodLink M.1.cls (q.getD 2 0) N.1) && av_mem Ts (.initialized N.1.cls) && av_mem Ts (.code N.1 N.2.1 N.2.2.1 N.2.2.2.1) && plainFor N.1 && decide (N.1.cls ≠ "java/lang/invoke/MethodHandle") && decide (N.1.cls ≠ "java/lang/invoke/VarHandle") && decide (N.2.2.1 ≤ 14) && (match q.getD 0 9 with
      | 0 => av_dec M pc (.invokestatic (q.getD 2 0)) 3 && av_mem Ts (.static N.1) && decide ((parseMethodDescriptor N.1.desc).map (fun d => d.parameters.length) = some na)
      | 1 => av_dec M pc (.invokevirtual (q.getD 2 0)) 3 && av_mem Ts (.instanceMethod N.1) && av_mem Ts (.selects N.1.cls N.1 N.1) && decide ((parseMethodDescriptor N.1.desc).map (fun d => d.parameters.length + 1) = some na) && decide ((cl[q.getD 1 0]?).map (fun r => r.1) = some N.1.cls)
      | 2 => av_dec M pc (.invokespecial (q.getD 2 0)) 3 && av_mem Ts (.instanceMethod N.1) && decide (N.1.name = "<init>") && decide (N.2.2.2.1 = none) && decide ((parseMethodDescriptor N.1.desc).map (fun d => d.parameters.length + 1) = some na)
      | _ => false)
    | none => false
  | (41, ln, _, _, _, q) => decide (ln = 3) && av_dec M pc (.invokespecial (q.getD 0 0)) 3 && av_mem Ts (.methodLink M.1.cls (q.getD 0 0) Lib.objectInit) && av_mem Ts (.instanceMethod Lib.objectInit) && av_mem Ts (.code Lib.objectInit ⟨#[0xb1]⟩ 1 none)
  | (45, ln, _, _, _, q) => decide (ln = 3) && av_dec M pc (.invokestatic (q.getD 0 0)) 3
  | (42, ln, _, _, _, _) => decide (ln = 1) && av_dec M pc .return_ 1
  | (43, ln, k, _, _, _) => decide (ln = 1) && (match M.2.2.2.1 with
    | some (.object _) => av_dec M pc .areturn 1
    | some (.array _) => av_dec M pc .areturn 1
    | some .int => av_dec M pc .ireturn 1
    | some .boolean => av_dec M pc .ireturn 1
    | _ => false)
  | _ => false
/-- what the tables say of the classes -/
def av_Tk (Ts : List Jvm.Cond) (cl : List vw_C) (fT : Nat → Nat → FieldType) (fN : Nat → Nat) : Prop := ∀ (ci : Nat) (q : vw_C), cl[ci]? = some q → (∀ w ∈ u_ws q.1 q.2.1 q.2.2, w ∈ Ts) ∧ (∀ k, k < q.2.2 → parseFieldDescriptor (q.2.1 k).2.2.1 = some (fT ci k)) ∧ (∀ a, a < q.2.2 → ∀ b, b < q.2.2 → a ≠ b → (q.2.1 a).2.1 ≠ (q.2.1 b).2.1) ∧ fN ci = q.2.2
/-- where a method is being walked -/
def av_Cx (Ts : List Jvm.Cond) (cl : List vw_C) (D : va_G) (ao : List String) (base : Nat) (M : av_Mt) (p : Program) (s : State) (m : MethodId) (args : Array Value) (meth : Method) (c : Code) : Prop :=
  p.tables.exec = Jvm.exec ∧ c.code = M.2.1 ∧ c.maxLocals = M.2.2.1 ∧ s.vm.findClass M.1.cls = some m.cls ∧ (∀ w ∈ Ts, w.before args s = true) ∧ av_K cl D ao s ∧ (M.1.name = "<init>" → meth.name = "<init>") ∧ base ≤ s.heap.size
section AVops
variable {p : Program} {l : Launch} {e : Env} {R : Room} {s : State} {m : MethodId} {args : Array Value} {below : List Frame} {meth : Method} {c : Code} {H : Heap} {locs : List Loc} {cells slots : Nat} {Q : State → Prop}
variable {Ts : List Jvm.Cond} {cl : List vw_C} {D : va_G} {ao : List String} {base : Nat} {M : av_Mt} {fT : Nat → Nat → FieldType} {fN : Nat → Nat} {aT : Nat → FieldType} {mt : Nat → Option av_Mt}
variable {pc pc' : Nat} {L L' : av_Ls} {K K' : List Value} {S S' : av_St} {ls : Array Slot}
/-- what is to be shown of the rest -/
def av_go (p : Program) (l : Launch) (e : Env) (R : Room) (s : State) (m : MethodId) (args : Array Value) (below : List Frame) (meth : Method) (c : Code) (Q : State → Prop) (cl : List vw_C) (aT : Nat → FieldType) (D : va_G) (base nL cells slots : Nat) (S : av_St) (cf : av_Cf) : Prop :=
  ∀ (H' : Heap) (locs' : List Loc) (ls' : Array Slot) (cells' slots' : Nat), av_R cl aT D base s H' cf.2.2.2 → va_S (fun q => base ≤ q) s.heap H' locs' → av_lv ls' nL cf.2.1 → cells' + S.2.2.1 = cells + cf.2.2.2.2.2.1 → slots' + S.2.2.2 = slots + cf.2.2.2.2.2.2 → W p l e R s m args below meth c H' locs' cells' slots' Q (F0 m cf.1 ls' cf.2.2.1)
abbrev av_ok (p : Program) (l : Launch) (e : Env) (R : Room) (s : State) (m : MethodId) (args : Array Value) (below : List Frame) (meth : Method) (c : Code) (Q : State → Prop) (Ts : List Jvm.Cond) (cl : List vw_C) (fT : Nat → Nat → FieldType) (fN : Nat → Nat) (aT : Nat → FieldType) (ao : List String) (mt : Nat → Option av_Mt) (D : va_G) (base : Nat) (M : av_Mt) (I : av_I) : Prop :=
  ∀ (pc : Nat) (L : av_Ls) (K : List Value) (S : av_St) (cf : av_Cf) (ls : Array Slot) (H : Heap) (locs : List Loc) (cells slots : Nat), av_chk Ts cl fT aT ao mt M pc I = true → av_step fT fN aT I pc L K S = some cf → av_R cl aT D base s H S → va_S (fun q => base ≤ q) s.heap H locs → av_lv ls M.2.2.1 L → cells + cf.2.2.2.2.2.1 ≤ R.cells + S.2.2.1 → slots + cf.2.2.2.2.2.2 ≤ R.slots + S.2.2.2 → av_go p l e R s m args below meth c Q cl aT D base M.2.2.1 cells slots S cf → W p l e R s m args below meth c H locs cells slots Q (F0 m pc ls K)
theorem av_stay {cells slots nL : Nat} {cf : av_Cf} (g : av_go p l e R s m args below meth c Q cl aT D base nL cells slots S cf) (hs : cf.2.2.2 = S) (hR : av_R cl aT D base s H S) (hS : va_S (fun q => base ≤ q) s.heap H locs) (hl : av_lv ls nL cf.2.1) : W p l e R s m args below meth c H locs cells slots Q (F0 m cf.1 ls cf.2.2.1) :=
  g H locs ls cells slots (by rw [hs]; exact hR) hS hl (by rw [hs]) (by rw [hs])
theorem av_o0 (X : av_Cx Ts cl D ao base M p s m args meth c) {ln a b : Nat} {v : Int32} {q : List Nat} : av_ok p l e R s m args below meth c Q Ts cl fT fN aT ao mt D base M (0, ln, a, b, v, q) := by
  intro pc L K S cf ls H locs cells slots hc hst hR hS hl _ _ g
  simp only [av_step] at hst
  split at hst
  · rename_i x hx
    cases hst
    simp only [av_chk] at hc
    split at hc
    · rename_i h1
      subst h1
      rw [Bool.and_eq_true, decide_eq_true_eq] at hc
      exact lv_iload_n X.1 X.2.1 (av_dec_ok hc.2) (av_fin_ok hc.1) (hl.at hx) (av_stay g rfl hR hS hl)
    · rw [Bool.and_eq_true, decide_eq_true_eq] at hc
      obtain ⟨rfl, hc⟩ := hc
      exact lv_iload X.1 X.2.1 (av_dec_ok hc) (hl.at hx) (av_stay g rfl hR hS hl)
  · cases hst
theorem av_o1 (X : av_Cx Ts cl D ao base M p s m args meth c) {ln a b : Nat} {v : Int32} {q : List Nat} : av_ok p l e R s m args below meth c Q Ts cl fT fN aT ao mt D base M (1, ln, a, b, v, q) := by
  intro pc L K S cf ls H locs cells slots hc hst hR hS hl _ _ g
  simp only [av_step] at hst
  split at hst
  · rename_i w hx
    split at hst
    · rename_i hw
      cases hst
      simp only [av_chk] at hc
      split at hc
      · rename_i h1
        subst h1
        rw [Bool.and_eq_true, decide_eq_true_eq] at hc
        rcases av_isR_or hw with rfl | ⟨z, rfl⟩
        · exact lv_aload_nN X.1 X.2.1 (av_dec_ok hc.2) (av_fin_ok hc.1) (hl.at hx) (av_stay g rfl hR hS hl)
        · exact lv_aload_n X.1 X.2.1 (av_dec_ok hc.2) (av_fin_ok hc.1) (hl.at hx) (av_stay g rfl hR hS hl)
      · rw [Bool.and_eq_true, decide_eq_true_eq] at hc
        obtain ⟨rfl, hc⟩ := hc
        rcases av_isR_or hw with rfl | ⟨z, rfl⟩
        · exact lv_aloadN X.1 X.2.1 (av_dec_ok hc) (hl.at hx) (av_stay g rfl hR hS hl)
        · exact lv_aload X.1 X.2.1 (av_dec_ok hc) (hl.at hx) (av_stay g rfl hR hS hl)
    · cases hst
  · cases hst
theorem av_o2 (X : av_Cx Ts cl D ao base M p s m args meth c) {ln a b : Nat} {v : Int32} {q : List Nat} : av_ok p l e R s m args below meth c Q Ts cl fT fN aT ao mt D base M (2, ln, a, b, v, q) := by
  intro pc L K S cf ls H locs cells slots hc hst hR hS hl _ _ g
  simp only [av_step] at hst
  split at hst
  · rename_i x K'
    split at hst
    · rename_i ha
      cases hst
      have ha' : a < M.2.2.1 := by rw [← hl.1]; exact ha
      simp only [av_chk] at hc
      split at hc
      · rename_i h1
        subst h1
        rw [Bool.and_eq_true, decide_eq_true_eq] at hc
        exact lv_istore_n X.1 X.2.1 (av_dec_ok hc.2) (av_fin_ok hc.1) hl.2.2 ha' rfl (fun ls' hl' => av_stay g rfl hR hS (hl.put ha rfl hl'))
      · rw [Bool.and_eq_true, decide_eq_true_eq] at hc
        obtain ⟨rfl, hc⟩ := hc
        exact lv_istore X.1 X.2.1 (av_dec_ok hc) hl.2.2 ha' rfl (fun ls' hl' => av_stay g rfl hR hS (hl.put ha rfl hl'))
    · cases hst
  · cases hst
theorem av_o3 (X : av_Cx Ts cl D ao base M p s m args meth c) {ln a b : Nat} {v : Int32} {q : List Nat} : av_ok p l e R s m args below meth c Q Ts cl fT fN aT ao mt D base M (3, ln, a, b, v, q) := by
  intro pc L K S cf ls H locs cells slots hc hst hR hS hl _ _ g
  simp only [av_step] at hst
  split at hst
  · rename_i w K'
    split at hst
    · rename_i ha
      obtain ⟨hw, ha⟩ := ha
      cases hst
      have ha' : a < M.2.2.1 := by rw [← hl.1]; exact ha
      simp only [av_chk] at hc
      split at hc
      · rename_i h1
        subst h1
        rw [Bool.and_eq_true, decide_eq_true_eq] at hc
        rcases av_isR_or hw with rfl | ⟨z, rfl⟩
        · exact lv_astore_nN X.1 X.2.1 (av_dec_ok hc.2) (av_fin_ok hc.1) hl.2.2 ha' rfl (fun ls' hl' => av_stay g rfl hR hS (hl.put ha rfl hl'))
        · exact lv_astore_n X.1 X.2.1 (av_dec_ok hc.2) (av_fin_ok hc.1) hl.2.2 ha' rfl (fun ls' hl' => av_stay g rfl hR hS (hl.put ha rfl hl'))
      · rw [Bool.and_eq_true, decide_eq_true_eq] at hc
        obtain ⟨rfl, hc⟩ := hc
        rcases av_isR_or hw with rfl | ⟨z, rfl⟩
        · exact lv_astoreN X.1 X.2.1 (av_dec_ok hc) hl.2.2 ha' rfl (fun ls' hl' => av_stay g rfl hR hS (hl.put ha rfl hl'))
        · exact lv_astore X.1 X.2.1 (av_dec_ok hc) hl.2.2 ha' rfl (fun ls' hl' => av_stay g rfl hR hS (hl.put ha rfl hl'))
    · cases hst
  · cases hst
theorem av_o4 (X : av_Cx Ts cl D ao base M p s m args meth c) {ln a b : Nat} {v : Int32} {q : List Nat} : av_ok p l e R s m args below meth c Q Ts cl fT fN aT ao mt D base M (4, ln, a, b, v, q) := by
  intro pc L K S cf ls H locs cells slots hc hst hR hS hl _ _ g
  simp only [av_step] at hst
  cases hst
  simp only [av_chk] at hc
  split at hc
  · rw [Bool.and_eq_true, decide_eq_true_eq] at hc
    obtain ⟨rfl, hc⟩ := hc
    exact lv_iconst X.1 X.2.1 (av_dec_ok hc) (Int32.ofInt_toInt _) (av_stay g rfl hR hS hl)
  · rw [Bool.and_eq_true, Bool.and_eq_true, decide_eq_true_eq, decide_eq_true_eq] at hc
    obtain ⟨⟨rfl, hc⟩, hv⟩ := hc
    exact lv_bipush X.1 X.2.1 (av_dec_ok hc) hv (av_stay g rfl hR hS hl)
  · rw [Bool.and_eq_true, Bool.and_eq_true, decide_eq_true_eq, decide_eq_true_eq] at hc
    obtain ⟨⟨rfl, hc⟩, hv⟩ := hc
    exact lv_sipush X.1 X.2.1 (av_dec_ok hc) hv (av_stay g rfl hR hS hl)
  · rw [Bool.and_eq_true, Bool.and_eq_true, decide_eq_true_eq] at hc
    obtain ⟨⟨rfl, hc⟩, hv⟩ := hc
    exact lv_ldc X.1 X.2.1 X.2.2.2.1 (X.2.2.2.2.1 _ (av_mem_ok hv)) (av_dec_ok hc) (av_stay g rfl hR hS hl)
theorem av_o5 (X : av_Cx Ts cl D ao base M p s m args meth c) {ln a b : Nat} {v : Int32} {q : List Nat} : av_ok p l e R s m args below meth c Q Ts cl fT fN aT ao mt D base M (5, ln, a, b, v, q) := by
  intro pc L K S cf ls H locs cells slots hc hst hR hS hl _ _ g
  simp only [av_step] at hst
  cases hst
  simp only [av_chk] at hc
  rw [Bool.and_eq_true, decide_eq_true_eq] at hc
  obtain ⟨rfl, hc⟩ := hc
  exact lv_null X.1 X.2.1 (av_dec_ok hc) (av_stay g rfl hR hS hl)
theorem av_ld_mem {L : av_Ls} {a : Nat} {v : Value} (h : av_ld L a = some v) : ∃ k : Nat, (av_as 0 L)[k]? = some (a, v) := by
  have h1 : (a, v) ∈ av_as 0 L := by
    refine (av_as_mem L 0 a v).mpr ⟨Nat.zero_le _, ?_⟩
    unfold av_ld at h
    rw [List.getD_eq_getElem?_getD] at h
    rw [Nat.sub_zero]
    cases hq : L[a]? with
    | none => rw [hq] at h; cases h
    | some o => rw [hq] at h; exact congrArg some h
  exact List.getElem?_of_mem h1
theorem av_ld_lt {L : av_Ls} {a : Nat} {v : Value} (h : av_ld L a = some v) : a < L.length := by
  unfold av_ld at h
  rw [List.getD_eq_getElem?_getD] at h
  cases hq : L[a]? with
  | none => rw [hq] at h; cases h
  | some o => exact (List.getElem?_eq_some_iff.mp hq).1
theorem av_o6 (X : av_Cx Ts cl D ao base M p s m args meth c) {ln a b : Nat} {v : Int32} {q : List Nat} : av_ok p l e R s m args below meth c Q Ts cl fT fN aT ao mt D base M (6, ln, a, b, v, q) := by
  intro pc L K S cf ls H locs cells slots hc hst hR hS hl _ _ g
  simp only [av_step] at hst
  split at hst
  · rename_i x hx
    cases hst
    simp only [av_chk] at hc
    rw [Bool.and_eq_true, decide_eq_true_eq] at hc
    obtain ⟨rfl, hc⟩ := hc
    obtain ⟨k, hk⟩ := av_ld_mem hx
    have ha := av_ld_lt hx
    exact lv_iinc X.1 X.2.1 (av_dec_ok hc) hl.2.2 hk (by rw [Int32.ofInt_toInt]) (by rw [← hl.1]; exact ha) rfl (fun ls' hl' => av_stay g rfl hR hS (hl.put ha rfl hl'))
  · cases hst
theorem av_o7 (X : av_Cx Ts cl D ao base M p s m args meth c) {ln a b : Nat} {v : Int32} {q : List Nat} : av_ok p l e R s m args below meth c Q Ts cl fT fN aT ao mt D base M (7, ln, a, b, v, q) := by
  intro pc L K S cf ls H locs cells slots hc hst hR hS hl _ _ g
  simp only [av_step] at hst
  split at hst
  · rename_i y x K'
    split at hst
    · rename_i z hz
      cases hst
      simp only [av_chk] at hc
      rw [Bool.and_eq_true, Bool.and_eq_true, decide_eq_true_eq, decide_eq_true_eq] at hc
      obtain ⟨⟨rfl, ha⟩, hc⟩ := hc
      have hd := av_dec_ok hc
      have g' := av_stay g rfl hR hS hl
      match a, ha, hz, hd with
      | 0, _, hz, hd => cases hz; exact lv_iadd X.1 X.2.1 hd g'
      | 1, _, hz, hd => cases hz; exact lv_isub X.1 X.2.1 hd g'
      | 2, _, hz, hd => cases hz; exact lv_imul X.1 X.2.1 hd g'
      | 3, _, hz, hd =>
        simp only [av_bin] at hz
        split at hz
        · cases hz
        · rename_i hn; cases hz; exact lv_idiv X.1 X.2.1 hd hn g'
      | 4, _, hz, hd =>
        simp only [av_bin] at hz
        split at hz
        · cases hz
        · rename_i hn; cases hz; exact lv_irem X.1 X.2.1 hd hn g'
      | 5, _, hz, hd => cases hz; exact lv_iand X.1 X.2.1 hd g'
      | 6, _, hz, hd => cases hz; exact lv_ior X.1 X.2.1 hd g'
      | 7, _, hz, hd => cases hz; exact lv_ixor X.1 X.2.1 hd g'
      | 8, _, hz, hd => cases hz; exact lv_ishl X.1 X.2.1 hd g'
      | 9, _, hz, hd => cases hz; exact lv_ishr X.1 X.2.1 hd g'
      | n + 10, ha, _, _ => exact absurd ha (by omega)
    · cases hst
  · cases hst
theorem av_o8 (X : av_Cx Ts cl D ao base M p s m args meth c) {ln a b : Nat} {v : Int32} {q : List Nat} : av_ok p l e R s m args below meth c Q Ts cl fT fN aT ao mt D base M (8, ln, a, b, v, q) := by
  intro pc L K S cf ls H locs cells slots hc hst hR hS hl _ _ g
  simp only [av_step] at hst
  split at hst
  · cases hst
    simp only [av_chk] at hc
    rw [Bool.and_eq_true, decide_eq_true_eq] at hc
    obtain ⟨rfl, hc⟩ := hc
    exact lv_i2c X.1 X.2.1 (av_dec_ok hc) rfl (av_stay g rfl hR hS hl)
  · cases hst
theorem av_o9 (X : av_Cx Ts cl D ao base M p s m args meth c) {ln a b : Nat} {v : Int32} {q : List Nat} : av_ok p l e R s m args below meth c Q Ts cl fT fN aT ao mt D base M (9, ln, a, b, v, q) := by
  intro pc L K S cf ls H locs cells slots hc hst hR hS hl _ _ g
  simp only [av_step] at hst
  split at hst
  · cases hst
    simp only [av_chk] at hc
    rw [Bool.and_eq_true, decide_eq_true_eq] at hc
    obtain ⟨rfl, hc⟩ := hc
    exact lv_ineg X.1 X.2.1 (av_dec_ok hc) (av_stay g rfl hR hS hl)
  · cases hst
theorem av_o10 (X : av_Cx Ts cl D ao base M p s m args meth c) {ln a b : Nat} {v : Int32} {q : List Nat} : av_ok p l e R s m args below meth c Q Ts cl fT fN aT ao mt D base M (10, ln, a, b, v, q) := by
  intro pc L K S cf ls H locs cells slots hc hst hR hS hl _ _ g
  simp only [av_step] at hst
  split at hst
  · split at hst
    · rename_i hw
      cases hst
      simp only [av_chk] at hc
      rw [Bool.and_eq_true, decide_eq_true_eq] at hc
      obtain ⟨rfl, hc⟩ := hc
      exact lv_dup X.1 X.2.1 (av_dec_ok hc) hw (av_stay g rfl hR hS hl)
    · cases hst
  · cases hst
theorem av_o11 (X : av_Cx Ts cl D ao base M p s m args meth c) {ln a b : Nat} {v : Int32} {q : List Nat} : av_ok p l e R s m args below meth c Q Ts cl fT fN aT ao mt D base M (11, ln, a, b, v, q) := by
  intro pc L K S cf ls H locs cells slots hc hst hR hS hl _ _ g
  simp only [av_step] at hst
  split at hst
  · split at hst
    · rename_i hw
      cases hst
      simp only [av_chk] at hc
      rw [Bool.and_eq_true, decide_eq_true_eq] at hc
      obtain ⟨rfl, hc⟩ := hc
      exact lv_pop X.1 X.2.1 (av_dec_ok hc) hw (av_stay g rfl hR hS hl)
    · cases hst
  · cases hst
theorem av_o12 (X : av_Cx Ts cl D ao base M p s m args meth c) {ln a b : Nat} {v : Int32} {q : List Nat} : av_ok p l e R s m args below meth c Q Ts cl fT fN aT ao mt D base M (12, ln, a, b, v, q) := by
  intro pc L K S cf ls H locs cells slots hc hst hR hS hl _ _ g
  simp only [av_step] at hst
  split at hst
  · split at hst
    · rename_i hw
      cases hst
      simp only [av_chk] at hc
      rw [Bool.and_eq_true, decide_eq_true_eq] at hc
      obtain ⟨rfl, hc⟩ := hc
      exact lv_dup_x1 X.1 X.2.1 (av_dec_ok hc) hw.1 hw.2 (av_stay g rfl hR hS hl)
    · cases hst
  · cases hst
theorem av_o13 (X : av_Cx Ts cl D ao base M p s m args meth c) {ln a b : Nat} {v : Int32} {q : List Nat} : av_ok p l e R s m args below meth c Q Ts cl fT fN aT ao mt D base M (13, ln, a, b, v, q) := by
  intro pc L K S cf ls H locs cells slots hc hst hR hS hl _ _ g
  simp only [av_step] at hst
  split at hst
  · split at hst
    · rename_i hw
      cases hst
      simp only [av_chk] at hc
      rw [Bool.and_eq_true, decide_eq_true_eq] at hc
      obtain ⟨rfl, hc⟩ := hc
      exact lv_dup2_11 X.1 X.2.1 (av_dec_ok hc) hw.1 hw.2 (av_stay g rfl hR hS hl)
    · cases hst
  · cases hst
theorem av_o14 (X : av_Cx Ts cl D ao base M p s m args meth c) {ln a b : Nat} {v : Int32} {q : List Nat} : av_ok p l e R s m args below meth c Q Ts cl fT fN aT ao mt D base M (14, ln, a, b, v, q) := by
  intro pc L K S cf ls H locs cells slots hc hst hR hS hl _ _ g
  simp only [av_step] at hst
  split at hst
  · split at hst
    · rename_i hw
      cases hst
      simp only [av_chk] at hc
      rw [Bool.and_eq_true, decide_eq_true_eq] at hc
      obtain ⟨rfl, hc⟩ := hc
      exact lv_dup_x2 X.1 X.2.1 (av_dec_ok hc) hw.1 hw.2.1 hw.2.2 (av_stay g rfl hR hS hl)
    · cases hst
  · cases hst
theorem av_o15 (X : av_Cx Ts cl D ao base M p s m args meth c) {ln a b : Nat} {v : Int32} {q : List Nat} : av_ok p l e R s m args below meth c Q Ts cl fT fN aT ao mt D base M (15, ln, a, b, v, q) := by
  intro pc L K S cf ls H locs cells slots hc hst hR hS hl _ _ g
  simp only [av_step] at hst
  split at hst
  · cases hst
    simp only [av_chk] at hc
    rw [Bool.and_eq_true, Bool.and_eq_true, decide_eq_true_eq, decide_eq_true_eq] at hc
    obtain ⟨⟨rfl, ha⟩, hc⟩ := hc
    have hd := av_dec_ok hc
    have g' := av_stay g rfl hR hS hl
    match a, ha, hd, g' with
    | 0, _, hd, g' => exact lv_if_eq X.1 X.2.1 hd (av_off_ok _ _) (fun h => by rw [if_pos (show av_cmp 0 _ _ = true from decide_eq_true h)] at g'; exact g') (fun h => by rw [if_neg (fun z : av_cmp 0 _ _ = true => h (of_decide_eq_true z))] at g'; exact g')
    | 1, _, hd, g' => exact lv_if_ne X.1 X.2.1 hd (av_off_ok _ _) (fun h => by rw [if_pos (show av_cmp 1 _ _ = true from decide_eq_true h)] at g'; exact g') (fun h => by rw [if_neg (fun z : av_cmp 1 _ _ = true => (of_decide_eq_true z) h)] at g'; exact g')
    | 2, _, hd, g' => exact lv_if_lt X.1 X.2.1 hd (av_off_ok _ _) (fun h => by rw [if_pos (show av_cmp 2 _ _ = true from decide_eq_true h)] at g'; exact g') (fun h => by rw [if_neg (fun z : av_cmp 2 _ _ = true => h (of_decide_eq_true z))] at g'; exact g')
    | 3, _, hd, g' => exact lv_if_ge X.1 X.2.1 hd (av_off_ok _ _) (fun h => by rw [if_pos (show av_cmp 3 _ _ = true from decide_eq_true h)] at g'; exact g') (fun h => by rw [if_neg (fun z : av_cmp 3 _ _ = true => h (of_decide_eq_true z))] at g'; exact g')
    | 4, _, hd, g' => exact lv_if_gt X.1 X.2.1 hd (av_off_ok _ _) (fun h => by rw [if_pos (show av_cmp 4 _ _ = true from decide_eq_true h)] at g'; exact g') (fun h => by rw [if_neg (fun z : av_cmp 4 _ _ = true => h (of_decide_eq_true z))] at g'; exact g')
    | 5, _, hd, g' => exact lv_if_le X.1 X.2.1 hd (av_off_ok _ _) (fun h => by rw [if_pos (show av_cmp 5 _ _ = true from decide_eq_true h)] at g'; exact g') (fun h => by rw [if_neg (fun z : av_cmp 5 _ _ = true => h (of_decide_eq_true z))] at g'; exact g')
    | n + 6, ha, _, _ => exact absurd ha (by omega)
  · cases hst
theorem av_o16 (X : av_Cx Ts cl D ao base M p s m args meth c) {ln a b : Nat} {v : Int32} {q : List Nat} : av_ok p l e R s m args below meth c Q Ts cl fT fN aT ao mt D base M (16, ln, a, b, v, q) := by
  intro pc L K S cf ls H locs cells slots hc hst hR hS hl _ _ g
  simp only [av_step] at hst
  split at hst
  · cases hst
    simp only [av_chk] at hc
    rw [Bool.and_eq_true, Bool.and_eq_true, decide_eq_true_eq, decide_eq_true_eq] at hc
    obtain ⟨⟨rfl, ha⟩, hc⟩ := hc
    have hd := av_dec_ok hc
    have g' := av_stay g rfl hR hS hl
    match a, ha, hd, g' with
    | 0, _, hd, g' => exact lv_icmp_eq X.1 X.2.1 hd (av_off_ok _ _) (fun h => by rw [if_pos (show av_cmp 0 _ _ = true from decide_eq_true h)] at g'; exact g') (fun h => by rw [if_neg (fun z : av_cmp 0 _ _ = true => h (of_decide_eq_true z))] at g'; exact g')
    | 1, _, hd, g' => exact lv_icmp_ne X.1 X.2.1 hd (av_off_ok _ _) (fun h => by rw [if_pos (show av_cmp 1 _ _ = true from decide_eq_true h)] at g'; exact g') (fun h => by rw [if_neg (fun z : av_cmp 1 _ _ = true => (of_decide_eq_true z) h)] at g'; exact g')
    | 2, _, hd, g' => exact lv_icmp_lt X.1 X.2.1 hd (av_off_ok _ _) (fun h => by rw [if_pos (show av_cmp 2 _ _ = true from decide_eq_true h)] at g'; exact g') (fun h => by rw [if_neg (fun z : av_cmp 2 _ _ = true => h (of_decide_eq_true z))] at g'; exact g')
    | 3, _, hd, g' => exact lv_icmp_ge X.1 X.2.1 hd (av_off_ok _ _) (fun h => by rw [if_pos (show av_cmp 3 _ _ = true from decide_eq_true h)] at g'; exact g') (fun h => by rw [if_neg (fun z : av_cmp 3 _ _ = true => h (of_decide_eq_true z))] at g'; exact g')
    | 4, _, hd, g' => exact lv_icmp_gt X.1 X.2.1 hd (av_off_ok _ _) (fun h => by rw [if_pos (show av_cmp 4 _ _ = true from decide_eq_true h)] at g'; exact g') (fun h => by rw [if_neg (fun z : av_cmp 4 _ _ = true => h (of_decide_eq_true z))] at g'; exact g')
    | 5, _, hd, g' => exact lv_icmp_le X.1 X.2.1 hd (av_off_ok _ _) (fun h => by rw [if_pos (show av_cmp 5 _ _ = true from decide_eq_true h)] at g'; exact g') (fun h => by rw [if_neg (fun z : av_cmp 5 _ _ = true => h (of_decide_eq_true z))] at g'; exact g')
    | n + 6, ha, _, _ => exact absurd ha (by omega)
  · cases hst
theorem av_rf {v : Value} (h : av_isR v = true) : ∃ r, v = va_rf r := by
  rcases av_isR_or h with rfl | ⟨a, rfl⟩
  · exact ⟨none, rfl⟩
  · exact ⟨some a, rfl⟩
theorem av_rf_inj {r t : Option Nat} : va_rf r = va_rf t ↔ r = t := by
  cases r <;> cases t <;> simp [va_rf]
theorem av_o17 (X : av_Cx Ts cl D ao base M p s m args meth c) {ln a b : Nat} {v : Int32} {q : List Nat} : av_ok p l e R s m args below meth c Q Ts cl fT fN aT ao mt D base M (17, ln, a, b, v, q) := by
  intro pc L K S cf ls H locs cells slots hc hst hR hS hl _ _ g
  simp only [av_step] at hst
  split at hst
  · rename_i w u K'
    split at hst
    · rename_i hw
      cases hst
      simp only [av_chk] at hc
      rw [Bool.and_eq_true, Bool.and_eq_true, decide_eq_true_eq, decide_eq_true_eq] at hc
      obtain ⟨⟨rfl, ha⟩, hc⟩ := hc
      have hd := av_dec_ok hc
      have g' := av_stay g rfl hR hS hl
      obtain ⟨r1, rfl⟩ := av_rf hw.1
      obtain ⟨r2, rfl⟩ := av_rf hw.2
      match a, ha, hd, g' with
      | 0, _, hd, g' => exact lv_acmp_eq X.1 X.2.1 hd (av_off_ok _ _) (fun h => by rw [if_pos (by simp [av_rf_inj, h])] at g'; exact g') (fun h => by rw [if_neg (by simp [av_rf_inj, h])] at g'; exact g')
      | 1, _, hd, g' => exact lv_acmp_ne X.1 X.2.1 hd (av_off_ok _ _) (fun h => by rw [if_pos (by simp [av_rf_inj, h])] at g'; exact g') (fun h => by rw [if_neg (by simp [av_rf_inj, h])] at g'; exact g')
      | n + 2, ha, _, _ => exact absurd ha (by omega)
    · cases hst
  · cases hst
theorem av_o18 (X : av_Cx Ts cl D ao base M p s m args meth c) {ln a b : Nat} {v : Int32} {q : List Nat} : av_ok p l e R s m args below meth c Q Ts cl fT fN aT ao mt D base M (18, ln, a, b, v, q) := by
  intro pc L K S cf ls H locs cells slots hc hst hR hS hl _ _ g
  simp only [av_step] at hst
  simp only [av_chk] at hc
  rw [Bool.and_eq_true, decide_eq_true_eq] at hc
  obtain ⟨rfl, hc⟩ := hc
  split at hst
  · cases hst
    exact lv_ifnullN X.1 X.2.1 (av_dec_ok hc) (av_off_ok _ _) (av_stay g rfl hR hS hl)
  · cases hst
    exact lv_ifnull X.1 X.2.1 (av_dec_ok hc) (av_stay g rfl hR hS hl)
  · cases hst
theorem av_o19 (X : av_Cx Ts cl D ao base M p s m args meth c) {ln a b : Nat} {v : Int32} {q : List Nat} : av_ok p l e R s m args below meth c Q Ts cl fT fN aT ao mt D base M (19, ln, a, b, v, q) := by
  intro pc L K S cf ls H locs cells slots hc hst hR hS hl _ _ g
  simp only [av_step] at hst
  simp only [av_chk] at hc
  rw [Bool.and_eq_true, decide_eq_true_eq] at hc
  obtain ⟨rfl, hc⟩ := hc
  split at hst
  · cases hst
    exact lv_ifnonnullN X.1 X.2.1 (av_dec_ok hc) (av_stay g rfl hR hS hl)
  · cases hst
    exact lv_ifnonnull X.1 X.2.1 (av_dec_ok hc) (av_off_ok _ _) (av_stay g rfl hR hS hl)
  · cases hst
theorem av_o20 (X : av_Cx Ts cl D ao base M p s m args meth c) {ln a b : Nat} {v : Int32} {q : List Nat} : av_ok p l e R s m args below meth c Q Ts cl fT fN aT ao mt D base M (20, ln, a, b, v, q) := by
  intro pc L K S cf ls H locs cells slots hc hst hR hS hl _ _ g
  simp only [av_step] at hst
  cases hst
  simp only [av_chk] at hc
  rw [Bool.and_eq_true, decide_eq_true_eq] at hc
  obtain ⟨rfl, hc⟩ := hc
  exact lv_goto X.1 X.2.1 (av_dec_ok hc) (av_off_ok _ _) (av_stay g rfl hR hS hl)
theorem av_o21 (X : av_Cx Ts cl D ao base M p s m args meth c) {ln a b : Nat} {v : Int32} {q : List Nat} : av_ok p l e R s m args below meth c Q Ts cl fT fN aT ao mt D base M (21, ln, a, b, v, q) := by
  intro pc L K S cf ls H locs cells slots hc hst hR hS hl _ _ g
  simp only [av_step] at hst
  simp only [av_chk] at hc
  have hd := av_dec_ok hc
  split at hst
  · rename_i x K'
    split at hst
    · rename_i hx
      cases hst
      exact lv_tableOut X.1 X.2.1 hd (Or.inl hx) (av_off_ok _ _) (av_stay g rfl hR hS hl)
    · rename_i hx
      cases hst
      by_cases hh : v.toInt + (q.length : Int) - 1 < x.toInt
      · have e : q.getD (x.toInt - v.toInt).toNat b = b := by
          rw [List.getD_eq_getElem?_getD, List.getElem?_eq_none (by omega)]
          rfl
        have g' := av_stay g rfl hR hS hl
        dsimp only at g'
        rw [e] at g'
        exact lv_tableOut X.1 X.2.1 hd (Or.inr hh) (av_off_ok _ _) g'
      · have hlt : (x.toInt - v.toInt).toNat < q.length := by omega
        have e : q[(x.toInt - v.toInt).toNat]? = some (q.getD (x.toInt - v.toInt).toNat b) := by
          rw [List.getD_eq_getElem?_getD, List.getElem?_eq_getElem hlt]
          rfl
        refine lv_tableIn X.1 X.2.1 hd hx hh (off := av_off pc (q.getD (x.toInt - v.toInt).toNat b)) ?_ (av_off_ok _ _) (av_stay g rfl hR hS hl)
        rw [List.getElem?_toArray, List.getElem?_map, e]
        rfl
  · cases hst
theorem av_o22 (X : av_Cx Ts cl D ao base M p s m args meth c) {ln a b : Nat} {v : Int32} {q : List Nat} : av_ok p l e R s m args below meth c Q Ts cl fT fN aT ao mt D base M (22, ln, a, b, v, q) := by
  intro pc L K S cf ls H locs cells slots hc hst hR hS hl _ _ g
  simp only [av_step] at hst
  split at hst
  · cases hst
    simp only [av_chk] at hc
    rw [Bool.and_eq_true, decide_eq_true_eq] at hc
    obtain ⟨rfl, hc⟩ := hc
    exact lv_i2b X.1 X.2.1 (av_dec_ok hc) rfl (av_stay g rfl hR hS hl)
  · cases hst
theorem av_o23 (X : av_Cx Ts cl D ao base M p s m args meth c) {ln a b : Nat} {v : Int32} {q : List Nat} : av_ok p l e R s m args below meth c Q Ts cl fT fN aT ao mt D base M (23, ln, a, b, v, q) := by
  intro pc L K S cf ls H locs cells slots hc hst hR hS hl _ _ g
  simp only [av_step] at hst
  split at hst
  · cases hst
    simp only [av_chk] at hc
    rw [Bool.and_eq_true, decide_eq_true_eq] at hc
    obtain ⟨rfl, hc⟩ := hc
    exact lv_i2l X.1 X.2.1 (av_dec_ok hc) rfl (av_stay g rfl hR hS hl)
  · cases hst
theorem av_o24 (X : av_Cx Ts cl D ao base M p s m args meth c) {ln a b : Nat} {v : Int32} {q : List Nat} : av_ok p l e R s m args below meth c Q Ts cl fT fN aT ao mt D base M (24, ln, a, b, v, q) := by
  intro pc L K S cf ls H locs cells slots hc hst hR hS hl _ _ g
  simp only [av_step] at hst
  split at hst
  · cases hst
    simp only [av_chk] at hc
    rw [Bool.and_eq_true, decide_eq_true_eq] at hc
    obtain ⟨rfl, hc⟩ := hc
    exact W.lcmp X.1 X.2.1 (av_dec_ok hc) (av_stay g rfl hR hS hl)
  · cases hst
theorem av_o30 (T : av_Tk Ts cl fT fN) (X : av_Cx Ts cl D ao base M p s m args meth c) {ln a b : Nat} {v : Int32} {q : List Nat} : av_ok p l e R s m args below meth c Q Ts cl fT fN aT ao mt D base M (30, ln, a, b, v, q) := by
  intro pc L K S cf ls H locs cells slots hc hst hR hS hl _ _ g
  simp only [av_step] at hst
  split at hst
  · rename_i z K'
    split at hst
    · rename_i hz
      cases hst
      simp only [av_chk] at hc
      split at hc
      · rename_i r hr
        simp only [Bool.and_eq_true, decide_eq_true_eq] at hc
        obtain ⟨⟨⟨rfl, hc⟩, hk⟩, hw⟩ := hc
        obtain ⟨-, r', hr', cell, q1, q2, q3, q4⟩ := hR.2.2.1 z a hz
        have e1 : r' = r := Option.some.inj (hr'.symm.trans hr)
        subst e1
        obtain ⟨hSl, hfc, kC, hkC, hkind⟩ := X.2.2.2.2.2.1.1 a _ hr
        obtain ⟨cf, kf, fi, f, hi, hsl⟩ := hSl b hk
        refine W.getf X.1 X.2.1 X.2.2.2.1 (X.2.2.2.2.1 _ (av_mem_ok hw)) hi (u_facts hfc hkC (u_lays X.2.2.2.2.1 (T a _ hr).1 hk) hi).1 q1 (by rw [q3]; exact fun h => by cases h) (v := S.2.1 z b) ?_ rfl rfl (av_dec_ok hc) (av_stay g rfl hR hS hl)
        rw [hsl]
        exact q4 b hk
      · cases hc
    · cases hst
  · cases hst
theorem av_apart (T : av_Tk Ts cl fT fN) (X : av_Cx Ts cl D ao base M p s m args meth c) {ci : Nat} {r : vw_C} (hr : cl[ci]? = some r) : ∀ x y, x < r.2.2 → y < r.2.2 → x ≠ y → (D.2 ci) x ≠ (D.2 ci) y := by
  obtain ⟨C, Tb, N⟩ := r
  exact va_apart (own := M.1.cls) (tys := []) X.2.2.2.2.1 (T ci _ hr).1 (fT ci) (T ci _ hr).2.1 (T ci _ hr).2.2.1 (show va_K D cl [] s from ⟨X.2.2.2.2.2.1.1, fun k q h => by simp at h⟩) hr
theorem av_o31 (T : av_Tk Ts cl fT fN) (X : av_Cx Ts cl D ao base M p s m args meth c) {ln a b : Nat} {v : Int32} {q : List Nat} : av_ok p l e R s m args below meth c Q Ts cl fT fN aT ao mt D base M (31, ln, a, b, v, q) := by
  intro pc L K S cf ls H locs cells slots hc hst hR hS hl _ _ g
  simp only [av_step] at hst
  split at hst
  · rename_i w z K'
    split at hst
    · rename_i hz
      obtain ⟨hz, hw⟩ := hz
      cases hst
      simp only [av_chk] at hc
      split at hc
      · rename_i r hr
        simp only [Bool.and_eq_true, decide_eq_true_eq] at hc
        obtain ⟨⟨⟨⟨rfl, hc⟩, hk⟩, hwd⟩, hfin⟩ := hc
        have hap := av_apart T X hr
        obtain ⟨hzb, r', hr', cell, q1, q2, q3, q4⟩ := hR.2.2.1 z a hz
        have e1 : r' = r := Option.some.inj (hr'.symm.trans hr)
        subst e1
        obtain ⟨hSl, hfc, kC, hkC, hkind⟩ := X.2.2.2.2.2.1.1 a _ hr
        obtain ⟨cf, kf, fi, f, hi, hsl⟩ := hSl b hk
        have hts := X.2.2.2.2.1
        have hin := (T a _ hr).1
        have hst := (u_facts hfc hkC (u_lays hts hin hk) hi).1
        have hd := (T a _ hr).2.1 b hk
        obtain ⟨f1, f2⟩ := av_fits_ok hw
        have go : ∀ H' : Heap, H'[z]? = some (cell.setSlot f.slot w) → H'.size = H.size → (∀ q, q ≠ z → H'[q]? = H[q]?) → W p l e R s m args below meth c H' (locs ++ [⟨z, f.slot⟩]) cells slots Q (F0 m (pc + 3) ls K') := by
          intro H' e1 e2 e3
          rw [hsl] at e1
          exact g H' _ ls cells slots (hR.seto hz ⟨r', hr', _, e1, q2, q3, t_set q4 hap hk w⟩ e2 e3) (hS.put e2 e3 hzb) hl rfl rfl
        by_cases hff : (r'.2.1 b).2.2.2 = false
        · have hlay := hts _ (hin _ (u_in_lay hk))
          unfold u_lay at hlay
          rw [if_neg (by rw [hff]; decide)] at hlay
          have h6 := u_store hfc hkC hkind hlay hi hd f1 f2
          exact W.putK X.1 X.2.1 (f := f) ⟨X.2.2.2.1, hts _ (av_mem_ok hwd), ⟨_, _, _, hi⟩, hst⟩ (by rw [q2]; exact h6) q1 q3 (by rw [hsl]; exact k2_hasslot (q4 b hk)) rfl rfl (av_dec_ok hc) go
        · have hff' : (r'.2.1 b).2.2.2 = true := by simpa using hff
          have hfin' : M.1.name = "<init>" ∧ (r'.2.1 b).1 = M.1.cls := by
            simpa [hff'] using hfin
          have hlay := hts _ (hin _ (u_in_lay hk))
          unfold u_lay at hlay
          rw [if_pos hff'] at hlay
          have hcf : m.cls = cf := by
            obtain ⟨_, _, c', _, _, _, -, -, hf', -, -, -, hown2, -⟩ := Cond.laysFinal_spec hlay
            have e1 : c' = cf := by have := hi.symm.trans hf'; simp at this; exact this.1.symm
            rw [hfin'.2] at hown2
            rw [← e1]; exact Option.some.inj (X.2.2.2.1.symm.trans hown2)
          have h6 := u_fits hfc hkC hkind (Or.inr hlay) hi hd f1 f2
          exact W.putFinK X.1 X.2.1 X.2.2.2.1 (hts _ (av_mem_ok hwd)) hi hst hcf (X.2.2.2.2.2.2.1 hfin'.1) (by rw [q2]; exact h6) q1 q3 (by rw [hsl]; exact k2_hasslot (q4 b hk)) rfl rfl (av_dec_ok hc) go
      · cases hc
    · cases hst
  · cases hst
theorem av_o32 (X : av_Cx Ts cl D ao base M p s m args meth c) {ln a b : Nat} {v : Int32} {q : List Nat} : av_ok p l e R s m args below meth c Q Ts cl fT fN aT ao mt D base M (32, ln, a, b, v, q) := by
  intro pc L K S cf ls H locs cells slots hc hst hR hS hl _ _ g
  simp only [av_step] at hst
  split at hst
  · rename_i z K'
    split at hst
    · rename_i t ht
      obtain ⟨j, n⟩ := t
      cases hst
      simp only [av_chk] at hc
      rw [Bool.and_eq_true, decide_eq_true_eq] at hc
      obtain ⟨rfl, hc⟩ := hc
      obtain ⟨-, cell, h1, h2, h3, h4, h5⟩ := hR.2.2.2 z j n ht
      exact W.alen (n := Int32.ofNat n) X.1 X.2.1 h1 h2 (by rw [h4] <;> rfl) rfl rfl (av_dec_ok hc) (av_stay g rfl hR hS hl)
    · cases hst
  · cases hst
theorem av_o33 (X : av_Cx Ts cl D ao base M p s m args meth c) {ln a b : Nat} {v : Int32} {q : List Nat} : av_ok p l e R s m args below meth c Q Ts cl fT fN aT ao mt D base M (33, ln, a, b, v, q) := by
  intro pc L K S cf ls H locs cells slots hc hst hR hS hl _ _ g
  simp only [av_step] at hst
  split at hst
  · rename_i i z K'
    split at hst
    · rename_i t ht
      obtain ⟨j, n⟩ := t
      split at hst
      · rename_i hij
        obtain ⟨hj, hin⟩ := hij
        cases hst
        have hin := av_inb_ok hin
        have hlt : i.toNatClampNeg < n := Nat.not_le.mp fun q => hin (Or.inr q)
        obtain ⟨-, cell, h1, h2', hkn, h4, h5⟩ := hR.2.2.2 z j n ht
        have g' := av_stay g rfl hR hS hl
        have hin' : ¬ (i < 0 ∨ cell.slots.size ≤ i.toNatClampNeg) := by rw [h4]; exact hin
        have hv : cell.slots[i.toNatClampNeg]? = some (S.2.1 z i.toNatClampNeg) := h5 _ hlt
        simp only [av_chk] at hc
        split at hc
        · rename_i ins hins
          simp only [Bool.and_eq_true, decide_eq_true_eq] at hc
          obtain ⟨⟨rfl, hc⟩, h50⟩ := hc
          have hd := av_dec_ok hc
          have hT : aT j = aT a := by
            rcases hj with h | h
            · have h : j = a := h
              rw [h]
            · have h : j = a + 50 := h
              rw [h]
              exact h50
          rw [hT] at h2'
          cases hty : aT a with
          | int =>
            rw [hty] at hins h2'
            cases hins
            exact W.iald X.1 X.2.1 h1 h2' hkn hin' hv rfl rfl hd g'
          | char =>
            rw [hty] at hins h2'
            cases hins
            exact W.cald X.1 X.2.1 h1 h2' hkn hin' hv rfl rfl hd g'
          | boolean =>
            rw [hty] at hins h2'
            cases hins
            exact W.zald X.1 X.2.1 h1 h2' hkn hin' hv rfl rfl hd g'
          | object C =>
            rw [hty] at hins h2'
            cases hins
            exact W.aald X.1 X.2.1 h1 h2' rfl hkn hin' hv rfl rfl hd g'
          | byte =>
            rw [hty] at hins h2'
            cases hins
            exact W.bald X.1 X.2.1 h1 h2' hkn hin' hv rfl rfl hd g'
          | double => rw [hty] at hins; cases hins
          | float => rw [hty] at hins; cases hins
          | long =>
            rw [hty] at hins h2'
            cases hins
            exact W.lald X.1 X.2.1 h1 h2' hkn hin' hv rfl rfl hd g'
          | short => rw [hty] at hins; cases hins
          | array _ => rw [hty] at hins; cases hins
        · cases hc
      · cases hst
    · cases hst
  · cases hst
theorem av_o34 (X : av_Cx Ts cl D ao base M p s m args meth c) {ln a b : Nat} {v : Int32} {q : List Nat} : av_ok p l e R s m args below meth c Q Ts cl fT fN aT ao mt D base M (34, ln, a, b, v, q) := by
  intro pc L K S cf ls H locs cells slots hc hst hR hS hl _ _ g
  simp only [av_step] at hst
  split at hst
  · rename_i x i z K'
    split at hst
    · rename_i t ht
      obtain ⟨j, n⟩ := t
      split at hst
      · rename_i hij
        obtain ⟨hj, hin⟩ := hij
        have hj : j = a := hj
        subst hj
        cases hst
        have hin := av_inb_ok hin
        simp only [av_chk] at hc
        split at hc
        · rename_i ins hins
          simp only [Bool.and_eq_true, decide_eq_true_eq] at hc
          obtain ⟨⟨rfl, hc⟩, h50⟩ := hc
          obtain ⟨hzb, cA, h1, h2, h3⟩ := (hR.2.2.2 z j n ht).1 h50
          have h2' := h2 n (S.2.1 z)
          have hin' : ¬ (i < 0 ∨ (arrV cA n (S.2.1 z)).slots.size ≤ i.toNatClampNeg) := by rw [arrV_size]; exact hin
          have hkn : (arrV cA n (S.2.1 z)).vm ≠ .unknown := fun h => by cases h
          have hd := av_dec_ok hc
          have go : ∀ H' : Heap, H'[z]? = some ((arrV cA n (S.2.1 z)).setSlot i.toNatClampNeg (narrow (aT j) (.int x))) → H'.size = H.size → (∀ q, q ≠ z → H'[q]? = H[q]?) → W p l e R s m args below meth c H' (locs ++ [⟨z, i.toNatClampNeg⟩]) cells slots Q (F0 m (pc + 1) ls K') := by
            intro H' e1 e2 e3
            rw [arrV_store] at e1
            exact g H' _ ls cells slots (hR.seta ht ⟨cA, e1, h2, h3⟩ e2 e3) (hS.put e2 e3 hzb) hl rfl rfl
          cases hty : aT j with
          | int =>
            rw [hty] at hins h2' go
            cases hins
            exact W.iast X.1 X.2.1 h1 h2' hkn hin' rfl rfl hd go
          | char =>
            rw [hty] at hins h2' go
            cases hins
            exact W.cast X.1 X.2.1 h1 h2' hkn hin' rfl rfl hd go
          | boolean =>
            rw [hty] at hins h2' go
            cases hins
            exact W.zast X.1 X.2.1 h1 h2' hkn hin' rfl rfl hd go
          | object C => rw [hty] at hins; cases hins
          | byte =>
            rw [hty] at hins h2' go
            cases hins
            exact W.bast X.1 X.2.1 h1 h2' hkn hin' rfl rfl hd go
          | double => rw [hty] at hins; cases hins
          | float => rw [hty] at hins; cases hins
          | long => rw [hty] at hins; cases hins
          | short => rw [hty] at hins; cases hins
          | array _ => rw [hty] at hins; cases hins
        · cases hc
      · cases hst
    · cases hst
  · cases hst
theorem av_o35 (X : av_Cx Ts cl D ao base M p s m args meth c) {ln a b : Nat} {v : Int32} {q : List Nat} : av_ok p l e R s m args below meth c Q Ts cl fT fN aT ao mt D base M (35, ln, a, b, v, q) := by
  intro pc L K S cf ls H locs cells slots hc hst hR hS hl _ _ g
  simp only [av_chk] at hc
  split at hc
  · rename_i r hr
    simp only [Bool.and_eq_true, decide_eq_true_eq] at hc
    obtain ⟨⟨⟨rfl, hc⟩, h50⟩, hty⟩ := hc
    have hd := av_dec_ok hc
    simp only [av_step] at hst
    split at hst
    · rename_i i z K'
      split at hst
      · rename_i t ht
        obtain ⟨j, n⟩ := t
        split at hst
        · rename_i hij
          obtain ⟨hj, hin⟩ := hij
          have hj : j = a := hj
          subst hj
          cases hst
          have hin := av_inb_ok hin
          obtain ⟨hzb, cA, h1, h2, h3⟩ := (hR.2.2.2 z j n ht).1 h50
          have h2' := h2 n (S.2.1 z)
          rw [hty] at h2'
          have hin' : ¬ (i < 0 ∨ (arrV cA n (S.2.1 z)).slots.size ≤ i.toNatClampNeg) := by rw [arrV_size]; exact hin
          have hkn : (arrV cA n (S.2.1 z)).vm ≠ .unknown := fun h => by cases h
          refine va_WaastN X.1 X.2.1 h1 h2' hkn hin' rfl rfl hd (fun H' e1 e2 e3 => ?_)
          rw [arrV_store] at e1
          exact g H' _ ls cells slots (hR.seta ht ⟨cA, e1, h2, h3⟩ e2 e3) (hS.put e2 e3 hzb) hl rfl rfl
        · cases hst
      · cases hst
    · rename_i w i z K'
      split at hst
      · rename_i t ht
        obtain ⟨j, n⟩ := t
        split at hst
        · rename_i hij
          obtain ⟨hj, hin, hw⟩ := hij
          have hj : j = a := hj
          subst hj
          cases hst
          have hin := av_inb_ok hin
          have hlt : i.toNatClampNeg < n := Nat.not_le.mp fun q => hin (Or.inr q)
          have h0 : ¬ i < 0 := fun q => hin (Or.inl q)
          obtain ⟨hzb, cA, h1, h2, h3⟩ := (hR.2.2.2 z j n ht).1 h50
          obtain ⟨-, r', hr', cellV, g1, g2, g3, -⟩ := hR.2.2.1 w b hw
          have hcls := (X.2.2.2.2.2.1.1 b r hr).2
          have h3' := h3
          rw [hty] at h3'
          obtain ⟨kA, comp, k1, k2, k3, -⟩ := h3'
          have hcomp : comp = D.1 b := Option.some.inj (k3.symm.trans hcls.1)
          subst hcomp
          obtain ⟨kC, hkC, -⟩ := hcls.2
          refine W.aast X.1 X.2.1 h1 (fun q h => by cases h) (fun h => by cases h) k1 k2 rfl hkC ⟨h0, by rw [arrV_size]; exact hlt⟩ g1 (fun q h => by rw [g3] at h; cases h) (by rw [g2]; exact hkC) (by rw [g2]; exact va_assign hcls) rfl rfl hd (fun H' e1 e2 e3 => ?_)
          rw [arrV_store] at e1
          exact g H' _ ls cells slots (hR.seta ht ⟨cA, e1, h2, h3⟩ e2 e3) (hS.put e2 e3 hzb) hl rfl rfl
        · cases hst
      · cases hst
    · cases hst
  · cases hc
theorem av_S.grow {A : Nat → Prop} {H0 H H1 : Heap} {locs : List Loc} (h : va_S A H0 H locs) (z : H1.size = H.size + 1) (oq : ∀ q, q < H.size → H1[q]? = H[q]?) : va_S A H0 H1 locs :=
  ⟨Nat.le_trans h.1 (by omega), fun x h1 h2 => (oq x (Nat.lt_of_lt_of_le h1 h.1)).trans (h.2.1 x h1 h2), h.2.2⟩
theorem av_o36 (T : av_Tk Ts cl fT fN) (X : av_Cx Ts cl D ao base M p s m args meth c) {ln a b : Nat} {v : Int32} {q : List Nat} : av_ok p l e R s m args below meth c Q Ts cl fT fN aT ao mt D base M (36, ln, a, b, v, q) := by
  intro pc L K S cf ls H locs cells slots hc hst hR hS hl hrc hrs g
  simp only [av_step] at hst
  cases hst
  simp only [av_chk] at hc
  split at hc
  · rename_i r hr
    simp only [Bool.and_eq_true, decide_eq_true_eq] at hc
    obtain ⟨⟨⟨⟨rfl, hc⟩, hw1⟩, hw2⟩, hw3⟩ := hc
    have hts := X.2.2.2.2.1
    have hKn := X.2.2.2.2.2.1.1 a r hr
    have hN : fN a = r.2.2 := (T a r hr).2.2.2
    have hrc' : cells + (S.2.2.1 + 1) ≤ R.cells + S.2.2.1 := hrc
    have hrs' : slots + (S.2.2.2 + fN a) ≤ R.slots + S.2.2.2 := hrs
    have hsz : S.2.2.1 = H.size := hR.1
    refine W.newcK X.1 X.2.1 X.2.2.2.1 (hts _ (av_mem_ok hw1)) (hts _ (av_mem_ok hw2)) (hts _ (av_mem_ok hw3)) rfl (av_dec_ok hc) (by omega) (by omega) hKn.2.1 hsz.symm fun H1 kC hkC e1 z1 o1 => ?_
    rw [hsz] at e1 z1 o1
    refine g H1 _ ls _ _ (hR.new (t := .inl a) ?_ z1 o1) (av_S.grow hS z1 o1) hl (by show cells + 1 + S.2.2.1 = cells + (S.2.2.1 + 1); omega) (by show slots + r.2.2 + S.2.2.2 = slots + (S.2.2.2 + fN a); omega)
    exact ⟨r, hr, u_born (fT a) hts (T a r hr).1 hKn hkC e1 (T a r hr).2.1⟩
  · cases hc
theorem av_o37 (X : av_Cx Ts cl D ao base M p s m args meth c) {ln a b : Nat} {v : Int32} {q : List Nat} : av_ok p l e R s m args below meth c Q Ts cl fT fN aT ao mt D base M (37, ln, a, b, v, q) := by
  intro pc L K S cf ls H locs cells slots hc hst hR hS hl hrc hrs g
  simp only [av_step] at hst
  split at hst
  · rename_i n K'
    split at hst
    · rename_i hn
      cases hst
      simp only [av_chk] at hc
      split at hc
      · rename_i t ht
        simp only [Bool.and_eq_true, decide_eq_true_eq] at hc
        obtain ⟨⟨rfl, hc⟩, hw⟩ := hc
        have hts := X.2.2.2.2.1
        have hsz : S.2.2.1 = H.size := hR.1
        have hrc' : cells + (S.2.2.1 + 1) ≤ R.cells + S.2.2.1 := hrc
        have hrs' : slots + (S.2.2.2 + n.toNatClampNeg) ≤ R.slots + S.2.2.2 := hrs
        have hn0 : ¬ n < 0 := by
          have := hn.1
          rw [Int32.le_iff_toInt_le] at this
          rw [Int32.lt_iff_toInt_lt]
          omega
        have hty : newarray.typeOf t = aT a := by
          cases hq : aT a <;> rw [hq] at ht <;> cases ht <;> rfl
        have hcb : componentBytes (aT a) ≤ 8 := by
          rw [← hty]
          cases hq : aT a <;> rw [hq] at ht <;> cases ht <;> decide
        refine va_newaK X.1 X.2.1 (by rw [hty]; exact hts _ (av_mem_ok hw)) rfl (av_dec_ok hc) rfl hn0 rfl (by rw [hty]; exact Nat.le_trans (Nat.mul_le_mul hn.2 hcb) (by decide)) (by omega) (by omega) hsz.symm fun H1 cA e1 z1 o1 hAr hNm => ?_
        rw [hsz] at e1 z1 o1
        rw [hty] at e1 hAr hNm
        refine g H1 _ ls _ _ (hR.new (t := .inr (a, n.toNatClampNeg)) ?_ z1 o1) (av_S.grow hS z1 o1) hl (by show cells + 1 + S.2.2.1 = cells + (S.2.2.1 + 1); omega) (by show slots + n.toNatClampNeg + S.2.2.2 = slots + (S.2.2.2 + n.toNatClampNeg); omega)
        refine ⟨cA, e1, hAr, ?_⟩
        cases hq : aT a <;> rw [hq] at ht hNm <;> cases ht <;> exact hNm
      · cases hc
    · cases hst
  · cases hst
theorem av_o38 (X : av_Cx Ts cl D ao base M p s m args meth c) {ln a b : Nat} {v : Int32} {q : List Nat} : av_ok p l e R s m args below meth c Q Ts cl fT fN aT ao mt D base M (38, ln, a, b, v, q) := by
  intro pc L K S cf ls H locs cells slots hc hst hR hS hl hrc hrs g
  simp only [av_step] at hst
  split at hst
  · rename_i n K'
    split at hst
    · rename_i hn
      cases hst
      simp only [av_chk] at hc
      split at hc
      · rename_i r hr
        simp only [Bool.and_eq_true, decide_eq_true_eq] at hc
        obtain ⟨⟨⟨⟨rfl, hc⟩, hty⟩, hw⟩, hao⟩ := hc
        have hts := X.2.2.2.2.1
        have hsz : S.2.2.1 = H.size := hR.1
        have hrc' : cells + (S.2.2.1 + 1) ≤ R.cells + S.2.2.1 := hrc
        have hrs' : slots + (S.2.2.2 + n.toNatClampNeg) ≤ R.slots + S.2.2.2 := hrs
        have hn0 : ¬ n < 0 := by
          have := hn.1
          rw [Int32.le_iff_toInt_le] at this
          rw [Int32.lt_iff_toInt_lt]
          omega
        refine W.anew X.1 X.2.1 X.2.2.2.1 (hts _ (av_mem_ok hw)) (va_AO.use (X.2.2.2.2.2.1.2 r.1 hao)) rfl (av_dec_ok hc) rfl hn0 (by have := hn.2; omega) (by omega) (by omega) fun cA kA comp f1 f2 f3 f4 => ?_
        generalize hH1 : H.push ({ cls := cA, slots := Array.replicate n.toNatClampNeg .null, vm := .none } : Cell) = H1
        have z1 : H1.size = H.size + 1 := by rw [← hH1, Array.size_push]
        have e1 : H1[H.size]? = some (arrV cA n.toNatClampNeg (fun _ => .null)) := by rw [← hH1, Array.getElem?_push_size, ← arrV_new]
        have o1 : ∀ q : Nat, q < H.size → H1[q]? = H[q]? := fun q hq => by rw [← hH1, Array.getElem?_push, if_neg (Nat.ne_of_lt hq)]
        have hAr : ArrOfT s cA (.object r.1) := fun N z => ⟨(fun k h => by cases h), kA, f2, comp, f3⟩
        rw [← hsz]
        refine g H1 _ ls _ _ (hR.new (t := .inr (a, n.toNatClampNeg)) ?_ z1 o1) (av_S.grow hS z1 o1) hl (by show cells + 1 + S.2.2.1 = cells + (S.2.2.1 + 1); omega) (by show slots + n.toNatClampNeg + S.2.2.2 = slots + (S.2.2.2 + n.toNatClampNeg); omega)
        show av_ar s H1 H.size n.toNatClampNeg (aT a) _
        rw [hty]
        exact ⟨cA, e1, hAr, kA, comp, f2, f3, f4, f1⟩
      · cases hc
    · cases hst
  · cases hst
end AVops
