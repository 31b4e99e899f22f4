/-! THE LAW'S OWN FRAME, at one start: the call that is not walked in the small machine is asked for there alone -/
section AVtop
variable {fT : Nat → Nat → FieldType} {fN : Nat → Nat} {aT : Nat → FieldType} {mt : Nat → Option av_Mt}
/-- below depth nine that call is not made -/
theorem av_run_ext (ext ext' : av_X) : ∀ (n d y pc : Nat) (L : av_Ls) (K : List Value) (S : av_St), d ≤ 8 → av_run fT fN aT ext mt n d y pc L K S = av_run fT fN aT ext' mt n d y pc L K S := by
  intro n
  induction n with
  | zero => intro d y pc L K S _; rfl
  | succ n ih =>
    intro d y pc L K S hd
    unfold av_run
    split
    · rfl
    · split
      · rfl
      · split
        · split
          · rename_i d' N hN
            split
            · rw [ih d' _ _ _ _ _ (by omega)]
              split
              · rfl
              · exact ih _ _ _ _ _ _ hd
            · rfl
          · rfl
        · split
          · split
            · exact ih _ _ _ _ _ _ hd
            · rfl
          · rfl
        · split
          · rename_i d'
            rw [if_neg (fun q => by omega), if_neg (fun q => by omega)]
          · rfl
        · rfl
        · rfl
        · split
          · rfl
          · exact ih _ _ _ _ _ _ hd
end AVtop
section AVtop2
variable {p : Program} {l : Launch} {e : Env} {R : Room} {s : State} {m : MethodId} {args : Array Value} {below : List Frame} {meth : Method} {c : Code} {Q : State → Prop}
variable {Ts : List Jvm.Cond} {cl : List vw_C} {D : va_G} {ao : List String} {base : Nat} {M : av_Mt} {fT : Nat → Nat → FieldType} {fN : Nat → Nat} {aT : Nat → FieldType} {mt : Nat → Option av_Mt} {ext : List Value → av_St → Option (Option Value × av_St)}
/-- what is to be known of that call, in this frame -/
def av_ExtAt (p : Program) (l : Launch) (e : Env) (R : Room) (s : State) (m : MethodId) (args : Array Value) (below : List Frame) (meth : Method) (c : Code) (Q : State → Prop) (cl : List vw_C) (aT : Nat → FieldType) (D : va_G) (base : Nat) (M : av_Mt) (ext : av_X) : Prop :=
  ∀ (pc na : Nat) (q : List Nat) (K : List Value) (S S1 : av_St) (r : Option Value), (∃ ln a v0, M.2.2.2.2 pc = some (45, ln, a, na, v0, q)) → av_dec M pc (.invokestatic (q.getD 0 0)) 3 = true → na ≤ K.length → K.length ≤ na + 4 → ext (K.take na).reverse S = some (r, S1) →
    ∀ (H : Heap) (locs : List Loc) (cells slots : Nat) (ls : Array Slot), av_R cl aT D base s H S → va_S (fun q => base ≤ q) s.heap H locs → ls.size = M.2.2.1 → cells + (S1.2.2.1 - S.2.2.1) ≤ R.cells → slots + (S1.2.2.2 - S.2.2.2) ≤ R.slots →
    (∀ (H1 : Heap) (locs1 : List Loc), av_R cl aT D base s H1 S1 → va_S (fun q => base ≤ q) s.heap H1 locs1 → W p l e R s m args below meth c H1 locs1 (cells + (S1.2.2.1 - S.2.2.1)) (slots + (S1.2.2.2 - S.2.2.2)) Q (F0 m (pc + 3) ls (r.toList ++ K.drop na))) → W p l e R s m args below meth c H locs cells slots Q (F0 m pc ls K)
theorem av_simT (T : av_Tk Ts cl fT fN) (G : ∀ w ∈ Ts, goodWord w = true) (hall : ∀ (y : Nat) (M : av_Mt) (pc : Nat) (I : av_I), mt y = some M → M.2.2.2.2 pc = some I → av_chk Ts cl fT aT ao mt M pc I = true)
    {y : Nat} (hM : mt y = some M) (X : av_Cx Ts cl D ao base M p s m args meth c) (hext : av_ExtAt p l e R s m args below meth c Q cl aT D base M ext) {z0 w0 : Nat} {r : Option Value} {S' : av_St} (hRf : 9 ≤ R.frames) (hRl : 33 * 9 ≤ R.locals) (hRc : S'.2.2.1 ≤ R.cells + z0) (hRs : S'.2.2.2 ≤ R.slots + w0)
    (hfin : ∀ (pc' : Nat) (H' : Heap) (locs' : List Loc) (ls' : Array Slot) (cells' slots' : Nat), av_end M pc' r → av_R cl aT D base s H' S' → va_S (fun q => base ≤ q) s.heap H' locs' → cells' + z0 = S'.2.2.1 → slots' + w0 = S'.2.2.2 → W p l e R s m args below meth c H' locs' cells' slots' Q (F0 m pc' ls' r.toList)) :
    ∀ (n d pc : Nat) (L : av_Ls) (K : List Value) (S : av_St), d = 9 → av_run fT fN aT ext mt n d y pc L K S = some (r, S') →
    ∀ (H : Heap) (locs : List Loc) (cells slots : Nat) (ls : Array Slot), av_R cl aT D base s H S → va_S (fun q => base ≤ q) s.heap H locs → av_lv ls M.2.2.1 L → cells + z0 = S.2.2.1 → slots + w0 = S.2.2.2 → W p l e R s m args below meth c H locs cells slots Q (F0 m pc ls K) := by
  have hsim := av_sim (l := l) (D := D) (base := base) (ext := fun _ _ => none) T G hall (fun M pc ln a na d v0 q K S S1 r _ _ _ _ h => by cases h)
  intro n
  induction n with
  | zero => intro d pc L K S _ h; cases h
  | succ n ih =>
    intro d pc L K S h9 hrun H locs cells slots ls hR hS hl hc hs
    unfold av_run at hrun
    rw [hM] at hrun
    dsimp only at hrun
    split at hrun
    · cases hrun
    · rename_i I hI
      have hchk := hall y M pc I hM hI
      obtain ⟨op, ln, a, b, v, q⟩ := I
      split at hrun
      · rename_i hop
        have hop : op = 40 := hop
        subst hop
        split at hrun
        · rename_i d' N hN
          have hd' : d' = 8 := by omega
          subst hd'
          split at hrun
          · rename_i hcond
            obtain ⟨c1, c2, c3, c4, c5⟩ := hcond
            split at hrun
            · cases hrun
            · rename_i r1 S1 h1
              have g1 := av_run_grow _ _ _ _ _ _ _ _ _ h1
              have g2 := av_run_grow _ _ _ _ _ _ _ _ _ hrun
              have hal : ((K.take b).reverse).length = b := by rw [List.length_reverse, List.length_take]; have : b ≤ K.length := c1; omega
              rw [av_run_ext ext (fun _ _ => none) _ _ _ _ _ _ _ (Nat.le_refl 8)] at h1
              refine av_call T G X hN hchk c1 c2 c5 (fun w4 w3 => av_metOf (hsim n) hN h1 w4 (fun v hv => c4 v (List.mem_reverse.mp hv)) (by rw [hal]; exact c3) w3) hRf hRl (by omega) (by omega) hR hS hl.2.2.1 (fun H1 locs1 hR1 hS1 => ?_)
              exact ih _ (pc + 3) L _ S1 h9 hrun H1 locs1 _ _ ls hR1 hS1 hl (by omega) (by omega)
          · cases hrun
        · cases hrun
      · rename_i hop
        have hop : op = 41 := hop
        subst hop
        split at hrun
        · rename_i d' z K'
          split at hrun
          · rename_i hK'
            simp only [av_chk, Bool.and_eq_true, decide_eq_true_eq] at hchk
            obtain ⟨⟨⟨⟨rfl, w1⟩, w2⟩, w3⟩, w4⟩ := hchk
            have hts := X.2.2.2.2.1
            refine W.objInit X.1 X.2.1 X.2.2.2.1 (hts _ (av_mem_ok w2)) (hts _ (av_mem_ok w3)) (hts _ (av_mem_ok w4)) rfl (hl.2.2.1.trans X.2.2.1.symm) rfl (av_dec_ok w1) (by omega) ?_ (ih _ (pc + 3) L K' S h9 hrun H locs cells slots ls hR hS hl hc hs)
            have h8 : 2 * (F0 m pc ls (Value.ref z :: K')).monitorRoom + (K'.map fun v => v.category).sum ≤ 8 := lv_room (Nat.le_trans (av_catsum _) (by omega))
            omega
          · cases hrun
        · cases hrun
      · rename_i hop
        have hop : op = 45 := hop
        subst hop
        split at hrun
        · rename_i d'
          split at hrun
          · rename_i hcond
            obtain ⟨c1, c2, c3⟩ := hcond
            split at hrun
            · cases hrun
            · rename_i r1 S1 h1
              split at hrun
              · rename_i hz
                have g2 := av_run_grow _ _ _ _ _ _ _ _ _ hrun
                simp only [av_chk, Bool.and_eq_true, decide_eq_true_eq] at hchk
                refine hext pc b q K S S1 r1 ⟨ln, a, v, hI⟩ hchk.2 c2 c3 h1 H locs cells slots ls hR hS hl.2.2.1 (by omega) (by omega) (fun H1 locs1 hR1 hS1 => ?_)
                exact ih _ (pc + 3) L _ S1 h9 hrun H1 locs1 _ _ ls hR1 hS1 hl (by omega) (by omega)
              · cases hrun
          · cases hrun
        · cases hrun
      · rename_i hop
        have hop : op = 42 := hop
        subst hop
        split at hrun
        · split at hrun
          · rename_i hn
            cases hrun
            simp only [av_chk, Bool.and_eq_true, decide_eq_true_eq] at hchk
            obtain ⟨rfl, w1⟩ := hchk
            exact hfin pc H locs ls cells slots ⟨av_dec_ok w1, hn⟩ hR hS hc hs
          · cases hrun
        · cases hrun
      · rename_i hop
        have hop : op = 43 := hop
        subst hop
        split at hrun
        · rename_i w
          split at hrun
          · rename_i hw
            cases hrun
            simp only [av_chk, Bool.and_eq_true, decide_eq_true_eq] at hchk
            obtain ⟨rfl, w1⟩ := hchk
            unfold av_rok at hw
            refine hfin pc H locs ls cells slots ?_ hR hS hc hs
            cases hret : M.2.2.2.1 with
            | none => rw [hret] at hw; cases hw
            | some ty =>
              rw [hret] at hw w1
              refine ⟨ty, hret, hw, ?_⟩
              cases ty with
              | object C => exact Or.inl ⟨(by cases w <;> first | rfl | cases hw), Or.inl ⟨_, rfl⟩, av_dec_ok w1⟩
              | array C => exact Or.inl ⟨(by cases w <;> first | rfl | cases hw), Or.inr ⟨_, rfl⟩, av_dec_ok w1⟩
              | int => cases w <;> first | exact Or.inr ⟨_, rfl, av_dec_ok w1⟩ | cases hw
              | boolean => cases w <;> first | exact Or.inr ⟨_, rfl, av_dec_ok w1⟩ | cases hw
              | byte => cases w1
              | char => cases w1
              | double => cases w1
              | float => cases w1
              | long => cases w1
              | short => cases w1
          · cases hrun
        · cases hrun
      · split at hrun
        · cases hrun
        · rename_i pc' L' K' S1 h1
          have g1 := av_step_grow h1
          have g2 := av_run_grow _ _ _ _ _ _ _ _ _ hrun
          have g1' : S.2.2.1 ≤ S1.2.2.1 ∧ S.2.2.2 ≤ S1.2.2.2 := g1
          refine av_one T X (op, ln, a, b, v, q) pc L K S (pc', L', K', S1) ls H locs cells slots hchk h1 hR hS hl (by show cells + S1.2.2.1 ≤ R.cells + S.2.2.1; omega) (by show slots + S1.2.2.2 ≤ R.slots + S.2.2.2; omega) ?_
          intro H' locs' ls' cells' slots' hR' hS' hl' hc' hs'
          have hc'' : cells' + S.2.2.1 = cells + S1.2.2.1 := hc'
          have hs'' : slots' + S.2.2.2 = slots + S1.2.2.2 := hs'
          exact ih d pc' L' K' S1 h9 hrun H' locs' cells' slots' ls' hR' hS' hl' (by omega) (by omega)
/-- several steps without a call -/
def av_many (fT : Nat → Nat → FieldType) (fN : Nat → Nat) (aT : Nat → FieldType) (rows : Nat → Option av_I) : Nat → av_Cf → Option av_Cf
  | 0, cf => some cf
  | n + 1, cf => match rows cf.1 with
    | none => none
    | some I => if I.1 < 40 then match av_step fT fN aT I cf.1 cf.2.1 cf.2.2.1 cf.2.2.2 with
        | none => none
        | some cf' => av_many fT fN aT rows n cf'
      else none
theorem av_manyW (T : av_Tk Ts cl fT fN) (X : av_Cx Ts cl D ao base M p s m args meth c) {rows : Nat → Option av_I} (hall : ∀ pc I, rows pc = some I → av_chk Ts cl fT aT ao mt M pc I = true) : ∀ (n pc : Nat) (L : av_Ls) (K : List Value) (S : av_St) (pc' : Nat) (L' : av_Ls) (K' : List Value), av_many fT fN aT rows n (pc, L, K, S) = some (pc', L', K', S) →
    ∀ (H : Heap) (locs : List Loc) (cells slots : Nat) (ls : Array Slot), av_R cl aT D base s H S → va_S (fun q => base ≤ q) s.heap H locs → av_lv ls M.2.2.1 L → cells ≤ R.cells → slots ≤ R.slots → (∀ i, i ≤ n → ∀ cf, av_many fT fN aT rows i (pc, L, K, S) = some cf → cf.2.2.2 = S) →
    (∀ (H' : Heap) (locs' : List Loc) (ls' : Array Slot), av_R cl aT D base s H' S → va_S (fun q => base ≤ q) s.heap H' locs' → av_lv ls' M.2.2.1 L' → W p l e R s m args below meth c H' locs' cells slots Q (F0 m pc' ls' K')) → W p l e R s m args below meth c H locs cells slots Q (F0 m pc ls K) := by
  intro n
  induction n with
  | zero =>
    intro pc L K S pc' L' K' h H locs cells slots ls hR hS hl hc hs _ k
    cases h
    exact k H locs ls hR hS hl
  | succ n ih =>
    intro pc L K S pc' L' K' h H locs cells slots ls hR hS hl hc hs hsame k
    unfold av_many at h
    split at h
    · cases h
    · rename_i I hI
      split at h
      · rename_i hop
        split at h
        · cases h
        · rename_i cf hst
          obtain ⟨pc1, L1, K1, S1⟩ := cf
          have one : av_many fT fN aT rows 1 (pc, L, K, S) = some (pc1, L1, K1, S1) := by
            unfold av_many
            rw [hI]
            dsimp only
            rw [if_pos hop, hst]
            rfl
          have e1 : S1 = S := hsame 1 (by omega) _ one
          subst e1
          refine av_one T X I pc L K S1 (pc1, L1, K1, S1) ls H locs cells slots (hall pc I hI) hst hR hS hl (by show cells + S1.2.2.1 ≤ R.cells + S1.2.2.1; omega) (by show slots + S1.2.2.2 ≤ R.slots + S1.2.2.2; omega) ?_
          intro H' locs' ls' cells' slots' hR' hS' hl' hc' hs'
          have hc'' : cells' + S1.2.2.1 = cells + S1.2.2.1 := hc'
          have hs'' : slots' + S1.2.2.2 = slots + S1.2.2.2 := hs'
          have ec : cells' = cells := by omega
          have es : slots' = slots := by omega
          subst ec
          subst es
          refine ih pc1 L1 K1 S1 pc' L' K' h H' locs' cells' slots' ls' hR' hS' hl' hc hs (fun i hi cf hcf => hsame (i + 1) (by omega) cf ?_) k
          show av_many fT fN aT rows (i + 1) (pc, L, K, S1) = some cf
          unfold av_many
          rw [hI]
          dsimp only
          rw [if_pos hop, hst]
          exact hcf
      · cases h
end AVtop2
