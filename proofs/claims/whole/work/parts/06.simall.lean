section AVsim3
variable {p : Program} {l : Launch} {e : Env} {R : Room} {s : State} {m : MethodId} {args : Array Value} {below : List Frame} {meth : Method} {c : Code} {H : Heap} {locs : List Loc} {cells slots : Nat} {Q : State → Prop}
variable {Ts : List Jvm.Cond} {cl : List vw_C} {D : va_G} {ao : List String} {base : Nat} {M : av_Mt} {fT : Nat → Nat → FieldType} {fN : Nat → Nat} {aT : Nat → FieldType} {mt : Nat → Option av_Mt} {ext : List Value → av_St → Option (Option Value × av_St)}
theorem av_catsum : ∀ (st : List Value), (st.map fun v => v.category).sum ≤ 2 * st.length
  | [] => Nat.le_refl _
  | v :: st => by
    have h := av_catsum st
    rw [List.map_cons, List.sum_cons, List.length_cons]
    rcases lv_cat v with q | q <;> omega
theorem av_goodIn (G : ∀ w ∈ Ts, goodWord w = true) {w0 : Jvm.Cond} (h : w0 ∈ Ts) : GoodIn Ts (w0 :: Ts) := by
  intro w hw
  rcases List.mem_cons.mp hw with rfl | hw
  · exact ⟨h, good_of_word (G _ h)⟩
  · exact ⟨hw, good_of_word (G _ hw)⟩
theorem av_call (T : av_Tk Ts cl fT fN) (G : ∀ w ∈ Ts, goodWord w = true) (X : av_Cx Ts cl D ao base M p s m args meth c) {y pc na ln d : Nat} {q : List Nat} {v0 : Int32} {N : av_Mt} {K : List Value} {S S1 : av_St} {r : Option Value} {ls : Array Slot} (hN : mt y = some N) (hc : av_chk Ts cl fT aT ao mt M pc (40, ln, y, na, v0, q) = true)
    (hlen : na ≤ K.length) (hrest : K.length ≤ na + 4) (hrcv : av_rcv q S (K.take na).reverse = true) (hMet : plainFor N.1 = true → .code N.1 N.2.1 N.2.2.1 N.2.2.2.1 ∈ Ts → av_Met Ts cl aT D ao base l d N (K.take na).reverse S S1 r)
    (hRf : d + 1 ≤ R.frames) (hRl : 33 * (d + 1) ≤ R.locals) (hRc : cells + (S1.2.2.1 - S.2.2.1) ≤ R.cells) (hRs : slots + (S1.2.2.2 - S.2.2.2) ≤ R.slots) (hR : av_R cl aT D base s H S) (hS : va_S (fun q => base ≤ q) s.heap H locs) (hls : ls.size = M.2.2.1)
    (kk : ∀ (H1 : Heap) (locs1 : List Loc), av_R cl aT D base s H1 S1 → va_S (fun q => base ≤ q) s.heap H1 locs1 → W p l e R s m args below meth c H1 locs1 (cells + (S1.2.2.1 - S.2.2.1)) (slots + (S1.2.2.2 - S.2.2.2)) Q (F0 m (pc + 3) ls (r.toList ++ K.drop na))) : W p l e R s m args below meth c H locs cells slots Q (F0 m pc ls K) := by
  simp only [av_chk, hN, Bool.and_eq_true, decide_eq_true_eq] at hc
  obtain ⟨⟨⟨⟨⟨⟨⟨⟨rfl, w1⟩, w2⟩, w3⟩, w4⟩, w5⟩, w6⟩, w7⟩, hk⟩ := hc
  have hM := hMet w4 (av_mem_ok w3)
  have hts := X.2.2.2.2.1
  have hG := av_goodIn G (av_mem_ok w3)
  have hfix : CallFix p m c M.2.1 M.2.2.1 s args Ts M.1.cls := ⟨X.1, X.2.1, X.2.2.1, X.2.2.2.1, hts⟩
  have hroom : ({ frames := d, cells := S1.2.2.1 - S.2.2.1, slots := S1.2.2.2 - S.2.2.2, locals := 33 * d } : Room).frames + 1 ≤ R.frames ∧ 8 + (N.2.2.1 + 11) + ({ frames := d, cells := S1.2.2.1 - S.2.2.1, slots := S1.2.2.2 - S.2.2.2, locals := 33 * d } : Room).locals ≤ R.locals := ⟨hRf, by show 8 + (N.2.2.1 + 11) + 33 * d ≤ R.locals; omega⟩
  have hKe : K = (K.take na).reverse.reverse ++ K.drop na := by rw [List.reverse_reverse, List.take_append_drop]
  have hal : ((K.take na).reverse).length = na := by rw [List.length_reverse, List.length_take]; omega
  have hsum : ((K.drop na).map fun v => v.category).sum ≤ 8 := Nat.le_trans (av_catsum _) (by rw [List.length_drop]; omega)
  have pre : ∀ U : State, U.heap = H → s.WarmedH U.vm → va_Pc (K.take na).reverse (fun U => base ≤ U.heap.size ∧ av_K cl D ao U ∧ av_R cl aT D base U U.heap S) (K.take na).reverse.toArray U := fun U hU hW => ⟨rfl, by rw [hU]; exact hR.2.1, av_K.moved hW.alike X.2.2.2.2.2.1, by rw [hU]; exact hR.moved hW.alike⟩
  split at hk
  · simp only [Bool.and_eq_true, decide_eq_true_eq] at hk
    obtain ⟨⟨k1, k2⟩, k3⟩ := hk
    have cb := callB_of (R := R) na hts hG rfl rfl rfl (hts _ (av_mem_ok w2)) (hts _ (av_mem_ok w1)) ⟨w5, w6, k3⟩ hroom
    exact av_behind (va_runS hfix hM ⟨cb, hts _ (av_mem_ok k2)⟩ ⟨av_blind, pre⟩ rfl hal hls hKe (lv_room hsum) (av_dec_ok k1) ⟨hRc, hRs⟩) hS kk
  · rename_i hq
    simp only [Bool.and_eq_true, decide_eq_true_eq] at hk
    obtain ⟨⟨⟨⟨k1, k2⟩, k3⟩, k4⟩, k5⟩ := hk
    match q, hq, hrcv, k1, k5, w1 with
    | 1 :: ci :: q', _, hrcv, k1, k5, w1 =>
      generalize hasE : (K.take na).reverse = as at hrcv hM hKe hal pre
      match as, hrcv with
      | .ref b :: As, hrcv =>
        have hb : S.1 b = some (.inl ci) := of_decide_eq_true hrcv
        obtain ⟨hzb, r', hr', cell, q1, q2, q3, q4⟩ := hR.2.2.1 b ci hb
        have k5' : (cl[ci]?).map (fun r => r.1) = some N.1.cls := k5
        rw [hr'] at k5'
        have e5 : r'.1 = N.1.cls := Option.some.inj k5'
        have hpl : (parseMethodDescriptor N.1.desc).map (fun d => d.parameters.length) = some As.length := by
          cases hp : parseMethodDescriptor N.1.desc with
          | none => rw [hp] at k4; cases k4
          | some dd =>
            rw [hp] at k4
            have h4 : dd.parameters.length + 1 = na := Option.some.inj k4
            have h5 : As.length + 1 = na := hal
            show some dd.parameters.length = some As.length
            congr 1
            omega
        have cb := callB_of (R := R) As.length hts hG rfl rfl rfl (hts _ (av_mem_ok w2)) (hts _ (av_mem_ok w1)) ⟨w5, w6, hpl⟩ hroom
        have hrc : ∃ cellB : Cell, H[b]? = some cellB ∧ cellB.vm.isStatics = false ∧ s.vm.findClass N.1.cls = some cellB.cls := ⟨cell, q1, by rw [q3]; rfl, by rw [q2, ← e5]; exact (X.2.2.2.2.2.1.1 ci r' hr').2.1⟩
        refine av_behind (va_runV (C := N.1.cls) (As := As) (b := b) hfix hM ⟨cb, hts _ (av_mem_ok k2), hts _ (av_mem_ok k3)⟩ ⟨av_blind, hrc, pre⟩ rfl rfl hls ?_ (lv_room hsum) (av_dec_ok k1) ⟨hRc, hRs⟩) hS kk
        show K = As.reverse ++ .ref b :: K.drop na
        rw [List.reverse_cons, List.append_assoc] at hKe
        exact hKe
  · rename_i hq
    simp only [Bool.and_eq_true, decide_eq_true_eq] at hk
    obtain ⟨⟨⟨⟨k1, k2⟩, k3⟩, k6⟩, k4⟩ := hk
    match q, hq, hrcv, k1, w1 with
    | 2 :: q', _, hrcv, k1, w1 =>
      generalize hasE : (K.take na).reverse = as at hrcv hM hKe hal pre
      match as, hrcv with
      | .ref b :: As, hrcv =>
        have hpl : (parseMethodDescriptor N.1.desc).map (fun d => d.parameters.length) = some As.length := by
          cases hp : parseMethodDescriptor N.1.desc with
          | none => rw [hp] at k4; cases k4
          | some dd =>
            rw [hp] at k4
            have h4 : dd.parameters.length + 1 = na := Option.some.inj k4
            have h5 : As.length + 1 = na := hal
            show some dd.parameters.length = some As.length
            congr 1
            omega
        unfold av_Met at hM
        rw [k6] at hM hG
        have cb := callB_of (R := R) As.length hts hG rfl rfl rfl (hts _ (av_mem_ok w2)) (hts _ (av_mem_ok w1)) ⟨w5, w6, hpl⟩ hroom
        refine av_behind (va_runI (As := As) (b := b) hfix hM ⟨cb, k3, hts _ (av_mem_ok k2)⟩ ⟨av_blind, pre⟩ rfl rfl hls ?_ (lv_room hsum) (av_dec_ok k1) ⟨hRc, hRs⟩) hS kk
        show K = As.reverse ++ .ref b :: K.drop na
        rw [List.reverse_cons, List.append_assoc] at hKe
        exact hKe
  · cases hk
theorem av_one (T : av_Tk Ts cl fT fN) (X : av_Cx Ts cl D ao base M p s m args meth c) (I : av_I) : av_ok p l e R s m args below meth c Q Ts cl fT fN aT ao mt D base M I := by
  intro pc L K S cf ls H locs cells slots hc hst
  have hst0 := hst
  unfold av_step at hst
  split at hst
  · exact av_o0 X pc L K S cf ls H locs cells slots hc hst0
  · exact av_o1 X pc L K S cf ls H locs cells slots hc hst0
  · exact av_o2 X pc L K S cf ls H locs cells slots hc hst0
  · exact av_o3 X pc L K S cf ls H locs cells slots hc hst0
  · exact av_o4 X pc L K S cf ls H locs cells slots hc hst0
  · exact av_o5 X pc L K S cf ls H locs cells slots hc hst0
  · exact av_o6 X pc L K S cf ls H locs cells slots hc hst0
  · exact av_o7 X pc L K S cf ls H locs cells slots hc hst0
  · exact av_o8 X pc L K S cf ls H locs cells slots hc hst0
  · exact av_o9 X pc L K S cf ls H locs cells slots hc hst0
  · exact av_o10 X pc L K S cf ls H locs cells slots hc hst0
  · exact av_o11 X pc L K S cf ls H locs cells slots hc hst0
  · exact av_o12 X pc L K S cf ls H locs cells slots hc hst0
  · exact av_o13 X pc L K S cf ls H locs cells slots hc hst0
  · exact av_o14 X pc L K S cf ls H locs cells slots hc hst0
  · exact av_o15 X pc L K S cf ls H locs cells slots hc hst0
  · exact av_o16 X pc L K S cf ls H locs cells slots hc hst0
  · exact av_o17 X pc L K S cf ls H locs cells slots hc hst0
  · exact av_o18 X pc L K S cf ls H locs cells slots hc hst0
  · exact av_o19 X pc L K S cf ls H locs cells slots hc hst0
  · exact av_o20 X pc L K S cf ls H locs cells slots hc hst0
  · exact av_o21 X pc L K S cf ls H locs cells slots hc hst0
  · exact av_o22 X pc L K S cf ls H locs cells slots hc hst0
  · exact av_o23 X pc L K S cf ls H locs cells slots hc hst0
  · exact av_o24 X pc L K S cf ls H locs cells slots hc hst0
  · exact av_o30 T X pc L K S cf ls H locs cells slots hc hst0
  · exact av_o31 T X pc L K S cf ls H locs cells slots hc hst0
  · exact av_o32 X pc L K S cf ls H locs cells slots hc hst0
  · exact av_o33 X pc L K S cf ls H locs cells slots hc hst0
  · exact av_o34 X pc L K S cf ls H locs cells slots hc hst0
  · exact av_o35 X pc L K S cf ls H locs cells slots hc hst0
  · exact av_o36 T X pc L K S cf ls H locs cells slots hc hst0
  · exact av_o37 X pc L K S cf ls H locs cells slots hc hst0
  · exact av_o38 X pc L K S cf ls H locs cells slots hc hst0
  · cases hst
theorem av_sim (T : av_Tk Ts cl fT fN) (G : ∀ w ∈ Ts, goodWord w = true) (hall : ∀ (y : Nat) (M : av_Mt) (pc : Nat) (I : av_I), mt y = some M → M.2.2.2.2 pc = some I → av_chk Ts cl fT aT ao mt M pc I = true) (hext : av_Ext Ts cl fT aT ext mt D ao base l) : ∀ n, av_Sim Ts cl fT fN aT ext mt D ao base l n := by
  intro n
  induction n with
  | zero => intro d y pc L K S r S' M hM h; cases h
  | succ n ih =>
    intro d y pc L K S r S' M hM hrun p e R s m args below meth c Q z0 w0 X hRf hRl hRc hRs hfin H locs cells slots ls hR hS hl hc hs
    unfold av_run at hrun
    rw [hM] at hrun
    dsimp only at hrun
    split at hrun
    · cases hrun
    · rename_i I hI
      have hchk := hall y M pc I hM hI
      obtain ⟨op, ln, a, b, v, q⟩ := I
      split at hrun
      · rename_i hop
        have hop : op = 40 := hop
        subst hop
        split at hrun
        · rename_i d' N hN
          split at hrun
          · rename_i hcond
            obtain ⟨c1, c2, c3, c4, c5⟩ := hcond
            split at hrun
            · cases hrun
            · rename_i r1 S1 h1
              have g1 := av_run_grow _ _ _ _ _ _ _ _ _ h1
              have g2 := av_run_grow _ _ _ _ _ _ _ _ _ hrun
              have hal : ((K.take b).reverse).length = b := by rw [List.length_reverse, List.length_take]; have : b ≤ K.length := c1; omega
              refine av_call T G X hN hchk c1 c2 c5 (fun w4 w3 => av_metOf ih hN h1 w4 (fun v hv => c4 v (List.mem_reverse.mp hv)) (by rw [hal]; exact c3) w3) hRf hRl (by omega) (by omega) hR hS hl.2.2.1 (fun H1 locs1 hR1 hS1 => ?_)
              exact ih (d' + 1) y (pc + 3) L _ S1 r S' M hM hrun p e R s m args below meth c Q z0 w0 X hRf hRl hRc hRs hfin H1 locs1 _ _ ls hR1 hS1 hl (by omega) (by omega)
          · cases hrun
        · cases hrun
      · rename_i hop
        have hop : op = 41 := hop
        subst hop
        split at hrun
        · rename_i d' z K'
          split at hrun
          · rename_i hK'
            simp only [av_chk, Bool.and_eq_true, decide_eq_true_eq] at hchk
            obtain ⟨⟨⟨⟨rfl, w1⟩, w2⟩, w3⟩, w4⟩ := hchk
            have hts := X.2.2.2.2.1
            refine W.objInit X.1 X.2.1 X.2.2.2.1 (hts _ (av_mem_ok w2)) (hts _ (av_mem_ok w3)) (hts _ (av_mem_ok w4)) rfl (hl.2.2.1.trans X.2.2.1.symm) rfl (av_dec_ok w1) (by omega) ?_ (ih (d' + 1) y (pc + 3) L K' S r S' M hM hrun p e R s m args below meth c Q z0 w0 X hRf hRl hRc hRs hfin H locs cells slots ls hR hS hl hc hs)
            have h8 : 2 * (F0 m pc ls (Value.ref z :: K')).monitorRoom + (K'.map fun v => v.category).sum ≤ 8 := lv_room (Nat.le_trans (av_catsum _) (by omega))
            omega
          · cases hrun
        · cases hrun
      · rename_i hop
        have hop : op = 45 := hop
        subst hop
        split at hrun
        · rename_i d'
          split at hrun
          · rename_i hcond
            obtain ⟨c1, c2, c3⟩ := hcond
            split at hrun
            · cases hrun
            · rename_i r1 S1 h1
              split at hrun
              · rename_i hz
                have g2 := av_run_grow _ _ _ _ _ _ _ _ _ hrun
                refine hext M pc ln a b d' v q K S S1 r1 hchk c1 c2 c3 h1 p e R s m args below meth c Q X hRf hRl H locs cells slots ls hR hS hl.2.2.1 (by omega) (by omega) (fun H1 locs1 hR1 hS1 => ?_)
                exact ih (d' + 1) y (pc + 3) L _ S1 r S' M hM hrun p e R s m args below meth c Q z0 w0 X hRf hRl hRc hRs hfin H1 locs1 _ _ ls hR1 hS1 hl (by omega) (by omega)
              · cases hrun
          · cases hrun
        · cases hrun
      · rename_i hop
        have hop : op = 42 := hop
        subst hop
        split at hrun
        · split at hrun
          · rename_i hn
            cases hrun
            simp only [av_chk, Bool.and_eq_true, decide_eq_true_eq] at hchk
            obtain ⟨rfl, w1⟩ := hchk
            exact hfin pc H locs ls cells slots ⟨av_dec_ok w1, hn⟩ hR hS hc hs
          · cases hrun
        · cases hrun
      · rename_i hop
        have hop : op = 43 := hop
        subst hop
        split at hrun
        · rename_i w
          split at hrun
          · rename_i hw
            cases hrun
            simp only [av_chk, Bool.and_eq_true, decide_eq_true_eq] at hchk
            obtain ⟨rfl, w1⟩ := hchk
            unfold av_rok at hw
            refine hfin pc H locs ls cells slots ?_ hR hS hc hs
            cases hret : M.2.2.2.1 with
            | none => rw [hret] at hw; cases hw
            | some ty =>
              rw [hret] at hw w1
              refine ⟨ty, hret, hw, ?_⟩
              cases ty with
              | object C => exact Or.inl ⟨(by cases w <;> first | rfl | cases hw), Or.inl ⟨_, rfl⟩, av_dec_ok w1⟩
              | array C => exact Or.inl ⟨(by cases w <;> first | rfl | cases hw), Or.inr ⟨_, rfl⟩, av_dec_ok w1⟩
              | int => cases w <;> first | exact Or.inr ⟨_, rfl, av_dec_ok w1⟩ | cases hw
              | boolean => cases w <;> first | exact Or.inr ⟨_, rfl, av_dec_ok w1⟩ | cases hw
              | byte => cases w1
              | char => cases w1
              | double => cases w1
              | float => cases w1
              | long => cases w1
              | short => cases w1
          · cases hrun
        · cases hrun
      · split at hrun
        · cases hrun
        · rename_i pc' L' K' S1 h1
          have g1 := av_step_grow h1
          have g2 := av_run_grow _ _ _ _ _ _ _ _ _ hrun
          have g1' : S.2.2.1 ≤ S1.2.2.1 ∧ S.2.2.2 ≤ S1.2.2.2 := g1
          refine av_one T X (op, ln, a, b, v, q) pc L K S (pc', L', K', S1) ls H locs cells slots hchk h1 hR hS hl (by show cells + S1.2.2.1 ≤ R.cells + S.2.2.1; omega) (by show slots + S1.2.2.2 ≤ R.slots + S.2.2.2; omega) ?_
          intro H' locs' ls' cells' slots' hR' hS' hl' hc' hs'
          have hc'' : cells' + S.2.2.1 = cells + S1.2.2.1 := hc'
          have hs'' : slots' + S.2.2.2 = slots + S1.2.2.2 := hs'
          exact ih d y pc' L' K' S1 r S' M hM hrun p e R s m args below meth c Q z0 w0 X hRf hRl hRc hRs hfin H' locs' cells' slots' ls' hR' hS' hl' (by omega) (by omega)
end AVsim3
