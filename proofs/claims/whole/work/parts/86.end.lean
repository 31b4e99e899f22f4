/-! THE CLAIM OUT OF ONE WALK OF THE LAW'S BODY. Your part is whole_start (and what it stands on); all else here is the same for every law, but numbers. -/
def R_law : String := "StructureMapLaw"
def lw_P (b : Addr) (xs : List Int32) (args : Array Value) (s : State) : Prop := args = #[.ref b] ∧ s.IntsAt b xs ∧ xs.length ≤ 2560 ∧ (Jvm.Cond.and given_1 narrow_1).before args s = true
def lw_Q (_ : Array Value) (s : State) (o : Outcome) (t : State) : Prop := o = .returned (some (.int 1)) ∧ Framed s o t [] 601024 7293034
def lw_Z (below : List Frame) (a : Array Value) (s : State) : State → Prop := fun t => ∃ o, t.status = .running ∧ Ended t below o ∧ lw_Q a s o t
/-- the law's own end, with 1 on the stack, nothing written that was there before, its room as the claim has it -/
theorem lw_ret {p : Program} {l : Launch} {e : Env} {s : State} {m : MethodId} {below : List Frame} {meth : Method} {c : Code} {b : Nat} (hx : p.tables.exec = Jvm.exec) (hb : c.code = code) (hr : meth.sig.returnType = ret) (hlocks : meth.locks = false) {pc : Nat} {H : Heap} {ls : Array Slot} (hdg : decode code pc = .ok (.ireturn, 1)) : W p l e room_1 s m #[Value.ref b] below meth c H [] 601024 7293034 (lw_Z below #[Value.ref b] s) (F0 m pc ls [.int 1]) := by
  intro T hT X
  obtain ⟨fs, hret, hrun, hended, hW, hframe⟩ := X.leave (v := some (.int 1)) (hlocks := hlocks) (fun h => by rw [hr] at h; cases h)
  have hmeth' : T.vm.method? m = some meth := X.method'
  refine ⟨T.setFrames fs, ?_, .returned (some (.int 1)), hrun, hended, rfl, ⟨_, rfl⟩, hW, hframe⟩
  jvm_step X.here [X.here.top, hx, hb, hdg, hmeth', hr, ret, narrow_b1]
  (try refine ⟨rfl, ?_⟩); (try refine ⟨rfl, ?_⟩)
  first | (intro acts; rw [hret _ acts rfl rfl rfl]) | rw [hret _ _ rfl rfl rfl]
  exact Steps.refl _
/-- what holds at the law's entry: the machine, the code, the tables' words (any of lw_tbl by 'hts w (by decide +kernel)'), the script of L ints xs at the cell b, what the Statement gives of the start (any of its parts by flat_of_before) -/
def lw_At (p : Program) (s : State) (m : MethodId) (meth : Method) (c : Code) (b L : Nat) (xs : Nat → Int32) : Prop :=
  p.tables.exec = Jvm.exec ∧ c.code = code ∧ meth.sig.returnType = ret ∧ c.maxLocals = 7 ∧ s.vm.findClass R_law = some m.cls ∧ (∀ w ∈ lw_tbl, w.before #[Value.ref b] s = true) ∧ va_X b L xs s s.heap ∧ b < s.heap.size ∧ meth.locks = false ∧ (Jvm.Cond.and given_1 narrow_1).before #[Value.ref b] s = true
theorem sx_inst : sm_cl.all (fun r => decide (Cond.instantiable r.1 r.2.2 ∈ sm_Ts)) = true := by decide +kernel
theorem sx_over : sm_ao.all (fun C => decide (Cond.arrayOver (.object C) ∈ lw_tbl)) = true := by decide +kernel
theorem sx_spw : sx_sp.all (fun w => decide (w ∈ lw_tbl)) = true := by decide +kernel
theorem sx_stw : (Cond.laysStatic Bundle.tN "UNASSIGNED_STACK" Bundle.steD ∈ lw_tbl) ∧ (Cond.laysStatic Bundle.tN "SUPPRESSED_SENTINEL" Bundle.listD ∈ lw_tbl) := ⟨by decide +kernel, by decide +kernel⟩
/-- from the entry, for every script of at most 2560 ints, the law comes to its end with true -/
theorem whole_start {p : Program} {e : Env} {s : State} {m : MethodId} {below : List Frame} {meth : Method} {c : Code} (l : Launch) (htr : l.stackTraces = false) {b L : Nat} {xs : Nat → Int32} (hL : L ≤ 2560) (C0 : lw_At p s m meth c b L xs) : W p l e room_1 s m #[Value.ref b] below meth c s.heap [] 0 0 (lw_Z below #[Value.ref b] s) (entryFrame m ([Value.ref b] : List Value).toArray 7) := by
  obtain ⟨hx, hb, hr, hml, hown, hts0, hX, hbl, hlocks, hgv⟩ := C0
  have hts := sm_ts hts0
  -- the classes
  have hcls : ∀ ci : Nat, ∃ q : ClassId × (Nat → Nat), ∀ r, sm_cl[ci]? = some r → u_Kn s r.1 r.2.1 r.2.2 q.1 q.2 := by
    intro ci
    cases hc : sm_cl[ci]? with
    | none => exact ⟨(0, fun _ => 0), fun r h => by cases h⟩
    | some r =>
      have hi := of_decide_eq_true (List.all_eq_true.mp sx_inst r (List.mem_of_getElem? hc))
      obtain ⟨cC, iS, hK⟩ := u_known (C := r.1) (T := r.2.1) (N := r.2.2) (n := r.2.2) hts (sm_tk ci r hc).1 (hts _ hi)
      exact ⟨(cC, iS), fun r' h => by cases h; exact hK⟩
  obtain ⟨F, hF⟩ := Classical.axiomOfChoice hcls
  obtain ⟨D, hD⟩ : ∃ D : va_G, ∀ ci, D.1 ci = (F ci).1 ∧ D.2 ci = (F ci).2 := ⟨(fun ci => (F ci).1, fun ci => (F ci).2), fun ci => ⟨rfl, rfl⟩⟩
  have hK : av_K sm_cl D sm_ao s := by
    refine ⟨fun ci r h => ?_, fun C hC => ?_⟩
    · rw [(hD ci).1, (hD ci).2]
      exact hF ci r h
    · exact va_AO.of (hts0 _ (of_decide_eq_true (List.all_eq_true.mp sx_over C hC)))
  -- what the start says of the exceptions
  have hflat := flat_of_before _ hgv
  have hZ : sx_Z s.heap.size s := by
    refine ⟨fun w hw => ?_, sx_L.of (hts0 _ sx_stw.1) (hflat _ (by decide +kernel)), sx_L.of (hts0 _ sx_stw.2) (hflat _ (by decide +kernel))⟩
    have h0 := hts0 w (of_decide_eq_true (List.all_eq_true.mp sx_spw w hw))
    have ht : w.onTables = true := by
      simp only [sx_sp, List.mem_cons, List.not_mem_nil, or_false] at hw
      rcases hw with rfl | rfl | rfl | rfl <;> rfl
    exact va_any ht h0
  -- the small machine's start
  obtain ⟨S, hS⟩ : ∃ S : av_St, S = (fun a => if a = b then some (.inr (50, L)) else none, fun _ i => .int (xs i), s.heap.size, 0) := ⟨_, rfl⟩
  have s1 : S.1 b = some (.inr (50, L)) := by rw [hS]; exact if_pos rfl
  have s2 : ∀ a t, S.1 a = some t → a = b ∧ t = .inr (50, L) := fun a t h => by
    have h' : (if a = b then some (Sum.inr (50, L)) else none) = some t := by rw [hS] at h; exact h
    by_cases q : a = b
    · rw [if_pos q] at h'
      exact ⟨q, (Option.some.inj h').symm⟩
    · rw [if_neg q] at h'; cases h'
  have s3 : ∀ a i, S.2.1 a i = .int (xs i) := fun a i => by rw [hS]
  have s4 : S.2.2.1 = s.heap.size := by rw [hS]
  have s5 : S.2.2.2 = 0 := by rw [hS]
  have hfr : fr S := fun a ha => by
    cases hq : S.1 a with
    | none => rfl
    | some t =>
      have := (s2 a t hq).1
      rw [s4] at ha
      omega
  have hR : av_R sm_cl sm_aT D s.heap.size s s.heap S := by
    refine ⟨s4, Nat.le_refl _, fun a ci h => ?_, fun a j n h => ?_⟩
    · have := (s2 a _ h).2
      cases this
    · obtain ⟨rfl, e2⟩ := s2 a _ h
      cases e2
      obtain ⟨scr, h1, h2, h3, h4, h5⟩ := hX
      exact ⟨fun z => absurd z (by decide), scr, h1, h2, h3, h4, fun i hi => by rw [s3]; exact h5 i hi⟩
  obtain ⟨n, r, S', hrun, hr1, hc1, hc2⟩ := law_all (S := S) (sc := b) (n := L) (scr := xs) hfr s1 (fun i _ => s3 b i) hL
  subst hr1
  have hCx : av_Cx sm_Ts sm_cl D sm_ao s.heap.size sm_m98 p s m #[Value.ref b] meth c := ⟨hx, hb, hml, hown, hts, hK, fun h => absurd h (by decide), Nat.le_refl _⟩
  rw [lg_entry_eq]
  have hl : av_lv (lg_sl [.ref b] ++ List.replicate (7 - (lg_sl [.ref b]).length) Slot.unset).toArray 7 (av_ent [.ref b] 7) := av_ent_lv (fun v hv => by
    rw [List.mem_singleton.mp hv]
    rfl) (by show 1 ≤ 7; decide)
  generalize (lg_sl [.ref b] ++ List.replicate (7 - (lg_sl [.ref b]).length) Slot.unset).toArray = ls at hl ⊢
  refine av_simT (l := l) (e := e) (below := below) (Q := lw_Z below #[Value.ref b] s) (R := room_1) (y := 98) (ext := sm_ext) (z0 := S.2.2.1) (w0 := S.2.2.2) sm_tk sm_good sm_all rfl hCx (sx_extAt htr hCx rfl hZ (by decide) (by decide)) (by decide) (by decide) (by show S'.2.2.1 ≤ 601024 + S.2.2.1; omega) (by show S'.2.2.2 ≤ 7293034 + S.2.2.2; omega) ?_ n 9 0 [some (.ref b), none, none, none, none, none, none] [] S rfl hrun s.heap [] 0 0 ls hR va_S.rf hl (Nat.zero_add _) (Nat.zero_add _)
  intro pc' H' locs' ls' cells' slots' hend hR' hS' q1 q2
  refine va_forget (fun q hq => hS'.2.2 q hq) ?_
  refine W.widen (k := 601024) (n := 7293034) (by omega) (by omega) ?_
  obtain ⟨ty, h1, h2, h3⟩ := hend
  rcases h3 with ⟨z1, z2, z3⟩ | ⟨v, z1, z3⟩
  · cases z1
  · exact lw_ret hx hb hr hlocks z3
set_option maxHeartbeats 4000000 in
theorem lw_walk (l : Launch) (htr : l.stackTraces = false) (b : Addr) (xs : List Int32) : MetFree l x (headSpec (Jvm.Cond.code x code maxLocals ret :: tables_1) room_1) (lw_P b xs) (fun _ _ _ _ _ => True) lw_Q := by
  refine MetFree.of_bodyS (code := code) (maxLocals := maxLocals) (ret := ret) (by decide) ?_ ?_
  · intro args s m h hn
    obtain ⟨meth, c, h1, h2, h3, h4, h5, h6, -, -⟩ := Cond.code_spec hn (atoms_spec (ws := Jvm.Cond.code x code maxLocals ret :: tables_1) h _ List.mem_cons_self)
    exact ⟨meth, c, h1, h2, h3, h4, h5, h6⟩
  · intro p e s m args below meth c s₁ B hml0 hP _
    obtain ⟨rfl, hx, hbd, hgv⟩ := hP
    obtain ⟨scr, harrAt, hlist, hof, hsmall⟩ := hx
    obtain ⟨hcb, hkn, -, -⟩ := State.arrayAt?_spec harrAt
    have hown : s.vm.findClass R_law = some m.cls := findClass_of_methodNamed B.named
    have hts0 : ∀ c ∈ (Jvm.Cond.code x code maxLocals ret :: tables_1), c.before #[Value.ref b] s = true := atoms_spec (ws := Jvm.Cond.code x code maxLocals ret :: tables_1) B.pre
    have hts : ∀ w ∈ lw_tbl, w.before #[Value.ref b] s = true := k2_hts_sels lw_privs (fun w hw => hts0 w (List.mem_cons_of_mem _ hw)) lw_privs_ok
    have hml : c.maxLocals = 7 := B.maxLocals_eq (hts0 _ List.mem_cons_self)
    have X₀ : Stand p l e room_1 s m #[Value.ref b] below meth c s₁ [] 0 0 := Stand.of_body B
    have hh0 : s₁.heap = s.heap := by rw [B.state]; rfl
    have hsz : scr.slots.size = xs.length := by rw [← Array.length_toList, hlist, List.length_map]
    have hval : ∀ j : Nat, j < xs.length → scr.slots[j]? = some (.int (xs.getD j 0)) := fun j hj => by
      rw [← Array.getElem?_toList, hlist]
      simp [hj]
    have hbl : b < s.heap.size := (Array.getElem?_eq_some_iff.mp hcb).1
    have hX : va_X b xs.length (fun j => xs.getD j 0) s s.heap := ⟨scr, hcb, hof, hkn, hsz, hval⟩
    have K : W p l e room_1 s m #[Value.ref b] below meth c s₁.heap [] 0 0 (lw_Z below #[Value.ref b] s) (entryFrame m ([Value.ref b] : List Value).toArray 7) := by
      rw [hh0]
      exact whole_start l htr hbd ⟨B.exec, B.bytes, B.returns, hml, hown, hts, hX, hbl, B.notSynchronized, hgv⟩
    obtain ⟨t, a1, o, b1, b2, b3⟩ := K s₁ rfl X₀
    exact ⟨t, o, a1, b1, b2, b3⟩
theorem lw_pre_spec {args : Array Value} {s : State} (h : (Jvm.Cond.and given_1 narrow_1).before args s = true) (hr : rest_1_c.before args s = true) : ∃ (b : Addr) (xs : List Int32), lw_P b xs args s := by
  have hs := flat_of_before _ h
  have hq := flat_of_before _ hr
  have hc : (Cond.count 1).before args s = true := hs _ (by decide +kernel)
  have harr : (Cond.arrayOf (.arg 0) .int).before args s = true := hs _ (by decide +kernel)
  have hle : (Cond.le (.length (.arg 0)) (.int 2560)).before args s = true := hs _ (by decide +kernel)
  have hlen : (Cond.isInt (.length (.arg 0))).before args s = true := hq _ (by decide +kernel)
  have hall : (Cond.all (.arg 0) (.isInt (.elem (.arg 0) (.index 0)))).before args s = true := hq _ (by decide +kernel)
  obtain ⟨b, xs, hb, hx⟩ := State.ints_of_pre rfl harr hlen hall
  have hsm : xs.length < 2 ^ 31 := hx.choose_spec.2.2.2
  have hev : (Term.length (.arg 0)).eval args s none [] s = some (.int xs.length.toInt32) := hx.length_eval hb
  have hv := Cond.le_ints hev (show (Term.int 2560).eval args s none [] s = some (.int 2560) from rfl)
  have hd : xs.length.toInt32 ≤ 2560 := by
    simpa [Cond.before, Cond.holds, hv] using hle
  have hN : xs.length ≤ 2560 := (Int32.ofNat_le_ofNat hsm (by decide)).mp (show Int32.ofNat xs.length ≤ Int32.ofNat 2560 from hd)
  exact ⟨b, xs, Cond.one_arg hc (show args[0]? = some (.ref b) from hb), hx, hN, h⟩
theorem lw_comes (l : Launch) (htr : l.stackTraces = false) : Comes l x (Jvm.Cond.code x code maxLocals ret :: tables_1) room_1 (fun tb e args s => Calls_1 tb e args s ∧ rest_1 tb e args s ∧ Pre_1 tb e args s)
    (fun _ _ args s o t => lw_Q args s o t) := by
  intro p e ha hc hk s m args below hf hfit hheap happ hpre
  obtain ⟨b, xs, hP⟩ := lw_pre_spec hpre.2.2 hpre.2.1
  obtain ⟨k, o, h1, h2, h3, hQ⟩ := lw_walk l htr b xs p e ha hc hk s m args below hf ((Spec.applies_iff_loose hf).mp happ).1 hP trivial
  exact ⟨k, o, h1, h2, h3, hQ⟩
theorem lw_frame {s t : State} {o : Outcome} {args : Array Value} (h : Framed s o t [] 601024 7293034) :
    Framed s o t (fieldLocs frame_1_writes args s ++ arrayLocs frame_1_arrays args s ++ staticLocs frame_1_statics s) 601024 7293034 := h
theorem sx_flags {l : Launch} (h : l.flags = flags0) : l.stackTraces = false := by
  unfold Launch.stackTraces
  rw [h]
  decide +kernel
theorem lw_limb (L : Cond) (hL : ∀ (args : Array Value) (s t : State), L.after args s (.returned (some (.int 1))) t = true) :
    ArmFor flags0 classFile x code maxLocals ret World_1 tables_1 room_1 Calls_1 rest_1 Pre_1
      (fun tb e a s o t => postC L tb e a s o t ∧ Framed s o t (fieldLocs frame_1_writes a s ++ arrayLocs frame_1_arrays a s ++ staticLocs frame_1_statics s) 601024 7293034) := by
  intro l hflags _ _ p e ha hc hk s m args below hf hfit hheap happ hpre
  obtain ⟨k, o, h1, h2, h3, rfl, hF⟩ := lw_comes l (sx_flags hflags) p e ha hc hk s m args below hf hfit hheap happ hpre
  exact ⟨k, _, h1, h2, h3, hL args s _, lw_frame hF⟩
theorem i_vc : Claimed_1_1 ∧ Claimed_1_2 := ⟨lw_limb limb_1_1 (fun args s t => by simp [limb_1_1, Cond.after, Cond.holds, Cond.value]), lw_limb limb_1_2 (fun args s t => Cond.after_iff.mpr (by
  first | (rw [show limb_1_2 = Cond.eq .result (.int 1) from rfl, Cond.eq_ints (x := 1) (y := 1) rfl rfl]; simp; done) | (simp [limb_1_2, Cond.value, Term.eval]; done)))⟩
