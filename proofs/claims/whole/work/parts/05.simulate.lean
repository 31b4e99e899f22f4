/-! A RUN OF THE SMALL MACHINE IS A RUN OF THE MACHINE -/
section AVsim
variable {fT : Nat → Nat → FieldType} {fN : Nat → Nat} {aT : Nat → FieldType} {mt : Nat → Option av_Mt} {ext : List Value → av_St → Option (Option Value × av_St)}
theorem av_step_grow {I : av_I} {pc : Nat} {L : av_Ls} {K : List Value} {S : av_St} {cf : av_Cf} (h : av_step fT fN aT I pc L K S = some cf) : S.2.2.1 ≤ cf.2.2.2.2.2.1 ∧ S.2.2.2 ≤ cf.2.2.2.2.2.2 := by
  unfold av_step at h
  split at h <;> (repeat' split at h) <;> first | (cases h; done) | (cases h; exact ⟨Nat.le_refl _, Nat.le_refl _⟩) | (cases h; exact ⟨Nat.le_succ _, Nat.le_add_right _ _⟩)
theorem av_run_grow : ∀ (n d y pc : Nat) (L : av_Ls) (K : List Value) (S : av_St) (r : Option Value) (S' : av_St), av_run fT fN aT ext mt n d y pc L K S = some (r, S') → S.2.2.1 ≤ S'.2.2.1 ∧ S.2.2.2 ≤ S'.2.2.2
  | 0, d, y, pc, L, K, S, r, S', h => by cases h
  | n + 1, d, y, pc, L, K, S, r, S', h => by
    unfold av_run at h
    split at h
    · cases h
    · split at h
      · cases h
      · split at h
        · split at h
          · split at h
            · split at h
              · cases h
              · rename_i v S1 h1
                have a1 := av_run_grow n _ _ _ _ _ _ _ _ h1
                have a2 := av_run_grow n _ _ _ _ _ _ _ _ h
                exact ⟨Nat.le_trans a1.1 a2.1, Nat.le_trans a1.2 a2.2⟩
            · cases h
          · cases h
        · split at h
          · split at h
            · exact av_run_grow n _ _ _ _ _ _ _ _ h
            · cases h
          · cases h
        · split at h
          · split at h
            · split at h
              · cases h
              · split at h
                · rename_i hz
                  have a2 := av_run_grow n _ _ _ _ _ _ _ _ h
                  exact ⟨Nat.le_trans hz.1 a2.1, Nat.le_trans hz.2 a2.2⟩
                · cases h
            · cases h
          · cases h
        · split at h
          · split at h
            · cases h; exact ⟨Nat.le_refl _, Nat.le_refl _⟩
            · cases h
          · cases h
        · split at h
          · split at h
            · cases h; exact ⟨Nat.le_refl _, Nat.le_refl _⟩
            · cases h
          · cases h
        · split at h
          · cases h
          · rename_i pc' L' K' S1 h1
            have a1 := av_step_grow h1
            have a2 := av_run_grow n _ _ _ _ _ _ _ _ h
            exact ⟨Nat.le_trans a1.1 a2.1, Nat.le_trans a1.2 a2.2⟩
end AVsim
theorem av_args_as : ∀ (as : List Value) (k n : Nat), (∀ v ∈ as, v.category = 1) → av_as k (as.map some ++ List.replicate n none) = lv_args k as
  | [], k, 0, _ => rfl
  | [], k, n + 1, h => by
    show av_as k (none :: List.replicate n none) = lv_args k []
    rw [av_as]
    exact av_args_as [] (k + 1) n h
  | v :: as, k, n, h => by
    have h1 : v.category = 1 := h v List.mem_cons_self
    have h2 := av_args_as as (k + 1) n (fun w hw => h w (List.mem_cons_of_mem _ hw))
    show av_as k (some v :: (as.map some ++ List.replicate n none)) = lv_args k (v :: as)
    rw [av_as, h2]
    simp [lv_args, h1]
theorem av_sl_len : ∀ (as : List Value), (∀ v ∈ as, v.category = 1) → (lg_sl as).length = as.length
  | [], _ => rfl
  | v :: as, h => by
    have h1 : v.category = 1 := h v List.mem_cons_self
    have h2 := av_sl_len as (fun w hw => h w (List.mem_cons_of_mem _ hw))
    unfold lg_sl at h2 ⊢
    rw [List.flatMap_cons, List.length_append, h2]
    simp [h1, Nat.add_comm]
theorem av_ent_lv {as : List Value} {n : Nat} (h : ∀ v ∈ as, v.category = 1) (hn : as.length ≤ n) : av_lv ((lg_sl as ++ List.replicate (n - (lg_sl as).length) Slot.unset).toArray) n (av_ent as n) := by
  refine ⟨?_, fun i v hv => ?_, ?_⟩
  · unfold av_ent
    rw [List.length_append, List.length_map, List.length_replicate]
    omega
  · unfold av_ent at hv
    rcases List.mem_append.mp (List.mem_of_getElem? hv) with q | q
    · obtain ⟨w, hw, e⟩ := List.mem_map.mp q
      have e : w = v := Option.some.inj e
      rw [← e]
      exact h w hw
    · have := List.eq_of_mem_replicate q
      cases this
  · unfold av_ent
    rw [av_args_as as 0 _ h]
    exact lv_entry as (by rw [av_sl_len as h]; exact hn)
def av_end (M : av_Mt) (pc : Nat) (r : Option Value) : Prop := match r with
  | none => decode M.2.1 pc = .ok (.return_, 1) ∧ M.2.2.2.1 = none
  | some v => ∃ ty, M.2.2.2.1 = some ty ∧ av_fits ty v = true ∧ ((av_isR v = true ∧ ((∃ n, ty = .object n) ∨ ∃ t, ty = .array t) ∧ decode M.2.1 pc = .ok (.areturn, 1)) ∨ ∃ x, v = .int x ∧ decode M.2.1 pc = .ok (.ireturn, 1))
/-- a method's contract, out of a run of the small machine -/
def av_Met (Ts : List Jvm.Cond) (cl : List vw_C) (aT : Nat → FieldType) (D : va_G) (ao : List String) (base : Nat) (l : Launch) (d : Nat) (M : av_Mt) (as : List Value) (S S' : av_St) (r : Option Value) : Prop :=
  Met l M.1 (.code M.1 M.2.1 M.2.2.1 M.2.2.2.1 :: Ts) ({ frames := d, cells := S'.2.2.1 - S.2.2.1, slots := S'.2.2.2 - S.2.2.2, locals := 33 * d }) (va_Pc as (fun U => base ≤ U.heap.size ∧ av_K cl D ao U ∧ av_R cl aT D base U U.heap S)) (fun _ st oc t => oc = .returned r ∧ av_R cl aT D base t t.heap S' ∧ va_F (fun q => base ≤ q) st t) (S'.2.2.1 - S.2.2.1) (S'.2.2.2 - S.2.2.2) (fun q => base ≤ q)
theorem av_blind {cl : List vw_C} {aT : Nat → FieldType} {D : va_G} {ao : List String} {base : Nat} {as : List Value} {S : av_St} : FrameBlind (va_Pc as (fun U => base ≤ U.heap.size ∧ av_K cl D ao U ∧ av_R cl aT D base U U.heap S)) := by
  intro a U g mk h
  obtain ⟨h1, h2, h3, h4⟩ := h
  exact ⟨h1, h2, av_K.moved (u := U) (U := U.calling g mk a) (Vm.Alike.refl U.vm) h3, av_R.moved (u := U) (U := U.calling g mk a) (Vm.Alike.refl U.vm) h4⟩
section AVsim2
variable {p : Program} {l : Launch} {e : Env} {R : Room} {s : State} {m : MethodId} {args : Array Value} {below : List Frame} {meth : Method} {c : Code} {H : Heap} {locs : List Loc} {cells slots : Nat} {Q : State → Prop}
variable {Ts : List Jvm.Cond} {cl : List vw_C} {D : va_G} {ao : List String} {base : Nat} {M : av_Mt} {fT : Nat → Nat → FieldType} {fN : Nat → Nat} {aT : Nat → FieldType} {mt : Nat → Option av_Mt} {ext : List Value → av_St → Option (Option Value × av_St)}
/-- behind a call -/
theorem av_behind {S1 : av_St} {r : Option Value} {mc ms pc : Nat} {ls : Array Slot} {K rest : List Value} (hr : va_Run p l e R s m args below meth c H locs cells slots mc ms (F0 m pc ls K) rest (fun st oc t => oc = .returned r ∧ av_R cl aT D base t t.heap S1 ∧ va_F (fun q => base ≤ q) st t) (fun q => base ≤ q)) (hS : va_S (fun q => base ≤ q) s.heap H locs)
    (kk : ∀ (H1 : Heap) (locs1 : List Loc), av_R cl aT D base s H1 S1 → va_S (fun q => base ≤ q) s.heap H1 locs1 → W p l e R s m args below meth c H1 locs1 (cells + mc) (slots + ms) Q (F0 m (pc + 3) ls (r.toList ++ rest))) : W p l e R s m args below meth c H locs cells slots Q (F0 m pc ls K) := by
  intro T hT X
  obtain ⟨v, st₀, t, T', L, h0, X', hL, e1, e2, ⟨hv, hb, hz, hk⟩, st⟩ := hr T hT X
  cases hv
  rw [h0] at hz hk
  have hal : s.vm.Alike t.vm := by rw [← e2]; exact X'.warmed.alike
  have hb' : av_R cl aT D base s T'.heap S1 := by rw [e1]; exact hb.moved hal.symm
  obtain ⟨t2, a1, b1⟩ := kk T'.heap (locs ++ L) hb'
    ⟨Nat.le_trans hS.1 (by rw [e1]; exact hz), fun q h1 h2 => by rw [e1, hk q (Nat.lt_of_lt_of_le h1 hS.1) h2]; exact hS.2.1 q h1 h2, fun q hq => by
      rcases List.mem_append.mp hq with h | h
      · exact hS.2.2 q h
      · exact hL q h⟩ T' rfl X'
  exact ⟨t2, st t2 a1, b1⟩
/-- what the proof of a method's run gives: from any place of it -/
def av_Sim (Ts : List Jvm.Cond) (cl : List vw_C) (fT : Nat → Nat → FieldType) (fN : Nat → Nat) (aT : Nat → FieldType) (ext : List Value → av_St → Option (Option Value × av_St)) (mt : Nat → Option av_Mt) (D : va_G) (ao : List String) (base : Nat) (l : Launch) (n : Nat) : Prop :=
  ∀ (d y pc : Nat) (L : av_Ls) (K : List Value) (S : av_St) (r : Option Value) (S' : av_St) (M : av_Mt), mt y = some M → av_run fT fN aT ext mt n d y pc L K S = some (r, S') →
    ∀ (p : Program) (e : Env) (R : Room) (s : State) (m : MethodId) (args : Array Value) (below : List Frame) (meth : Method) (c : Code) (Q : State → Prop) (z0 w0 : Nat), av_Cx Ts cl D ao base M p s m args meth c → d ≤ R.frames → 33 * d ≤ R.locals → S'.2.2.1 ≤ R.cells + z0 → S'.2.2.2 ≤ R.slots + w0 →
    (∀ (pc' : Nat) (H' : Heap) (locs' : List Loc) (ls' : Array Slot) (cells' slots' : Nat), av_end M pc' r → av_R cl aT D base s H' S' → va_S (fun q => base ≤ q) s.heap H' locs' → cells' + z0 = S'.2.2.1 → slots' + w0 = S'.2.2.2 → W p l e R s m args below meth c H' locs' cells' slots' Q (F0 m pc' ls' r.toList)) →
    ∀ (H : Heap) (locs : List Loc) (cells slots : Nat) (ls : Array Slot), av_R cl aT D base s H S → va_S (fun q => base ≤ q) s.heap H locs → av_lv ls M.2.2.1 L → cells + z0 = S.2.2.1 → slots + w0 = S.2.2.2 → W p l e R s m args below meth c H locs cells slots Q (F0 m pc ls K)
theorem av_metOf {n : Nat} (hsim : av_Sim Ts cl fT fN aT ext mt D ao base l n) {d y : Nat} {as : List Value} {S S' : av_St} {r : Option Value} {N : av_Mt} (hN : mt y = some N) (hrun : av_run fT fN aT ext mt n d y 0 (av_ent as N.2.2.1) [] S = some (r, S')) (hpl : plainFor N.1 = true) (hcat : ∀ v ∈ as, v.category = 1) (hlen : as.length ≤ N.2.2.1) (hT : .code N.1 N.2.1 N.2.2.1 N.2.2.2.1 ∈ Ts) : av_Met Ts cl aT D ao base l d N as S S' r := by
  have hgr := av_run_grow _ _ _ _ _ _ _ _ _ hrun
  refine va_MetF (cc := N.2.1) (maxL := N.2.2.1) (ret := N.2.2.2.1) hpl rfl ?_
  intro p e s m args below meth c s₁ B hml hv
  obtain ⟨rfl, hbase, hK, hR⟩ := hv
  have hx := B.exec
  have hb := B.bytes
  have hr := B.returns
  have hts := atoms_spec (ws := Jvm.Cond.code N.1 N.2.1 N.2.2.1 N.2.2.2.1 :: Ts) B.pre
  have hown : s.vm.findClass N.1.cls = some m.cls := findClass_of_methodNamed B.named
  have hlocks := B.notSynchronized
  have hX : av_Cx Ts cl D ao base N p s m as.toArray meth c := ⟨hx, hb, hml, hown, fun w hw => hts w (List.mem_cons_of_mem _ hw), hK, fun h => (name_of_methodNamed B.named B.method).1.trans h, hbase⟩
  rw [lg_entry_eq]
  refine hsim d y 0 _ _ S r S' N hN hrun p e _ s m as.toArray below meth c _ S.2.2.1 S.2.2.2 hX (Nat.le_refl _) (Nat.le_refl _) (by show S'.2.2.1 ≤ (S'.2.2.1 - S.2.2.1) + S.2.2.1; omega) (by show S'.2.2.2 ≤ (S'.2.2.2 - S.2.2.2) + S.2.2.2; omega) ?_ s.heap [] 0 0 _ hR va_S.rf (av_ent_lv hcat hlen) (Nat.zero_add _) (Nat.zero_add _)
  intro pc' H' locs' ls' cells' slots' hend hR' hS' hc hs
  have ec : cells' = S'.2.2.1 - S.2.2.1 := by omega
  have es : slots' = S'.2.2.2 - S.2.2.2 := by omega
  subst ec
  subst es
  have post : ∀ t : State, t.heap = H' → s.WarmedH t.vm → (r = r ∧ av_R cl aT D base t t.heap S' ∧ va_F (fun q => base ≤ q) s t) := fun t ht hW => ⟨rfl, by rw [ht]; exact hR'.moved hW.alike, hS'.F ht⟩
  cases r with
  | none =>
    exact W.vret hx hb (hr.trans hend.2) (fun t ht hW => ⟨rfl, (post t ht hW).2⟩) hS'.2.2 hend.1
  | some v =>
    obtain ⟨ty, h1, h2, h3⟩ := hend
    rcases h3 with ⟨q1, q2, q3⟩ | ⟨x, rfl, q3⟩
    · exact W.aret hx hb (hr.trans h1) q2 (av_isR_or q1) (fun t ht hW => ⟨rfl, (post t ht hW).2⟩) hS'.2.2 q3
    · exact W.zret hx hb (hr.trans h1) (av_fits_ok h2).1 (fun t ht hW => ⟨rfl, (post t ht hW).2⟩) hS'.2.2 q3
/-- what is to be known of the call that is not walked here -/
def av_Ext (Ts : List Jvm.Cond) (cl : List vw_C) (fT : Nat → Nat → FieldType) (aT : Nat → FieldType) (ext : List Value → av_St → Option (Option Value × av_St)) (mt : Nat → Option av_Mt) (D : va_G) (ao : List String) (base : Nat) (l : Launch) : Prop :=
  ∀ (M : av_Mt) (pc ln a na d : Nat) (v0 : Int32) (q : List Nat) (K : List Value) (S S1 : av_St) (r : Option Value), av_chk Ts cl fT aT ao mt M pc (45, ln, a, na, v0, q) = true → 8 ≤ d → na ≤ K.length → K.length ≤ na + 4 → ext (K.take na).reverse S = some (r, S1) →
    ∀ (p : Program) (e : Env) (R : Room) (s : State) (m : MethodId) (args : Array Value) (below : List Frame) (meth : Method) (c : Code) (Q : State → Prop), av_Cx Ts cl D ao base M p s m args meth c → d + 1 ≤ R.frames → 33 * (d + 1) ≤ R.locals →
    ∀ (H : Heap) (locs : List Loc) (cells slots : Nat) (ls : Array Slot), av_R cl aT D base s H S → va_S (fun q => base ≤ q) s.heap H locs → ls.size = M.2.2.1 → cells + (S1.2.2.1 - S.2.2.1) ≤ R.cells → slots + (S1.2.2.2 - S.2.2.2) ≤ R.slots →
    (∀ (H1 : Heap) (locs1 : List Loc), av_R cl aT D base s H1 S1 → va_S (fun q => base ≤ q) s.heap H1 locs1 → W p l e R s m args below meth c H1 locs1 (cells + (S1.2.2.1 - S.2.2.1)) (slots + (S1.2.2.2 - S.2.2.2)) Q (F0 m (pc + 3) ls (r.toList ++ K.drop na))) → W p l e R s m args below meth c H locs cells slots Q (F0 m pc ls K)
end AVsim2
