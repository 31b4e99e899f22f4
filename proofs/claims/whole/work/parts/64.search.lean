/-! THE CLASS'S SEARCH -/
def c_fd (A : mS) (T : cT) (fs : List Nat) : Prop := T.1 1 0 2 = nI fs.length ∧ (∀ i x, fs[i]? = some x → T.2 23 0 i = some x) ∧ (∀ d, d < m_nD A → T.1 24 0 d = bI (decide (d ∈ fs))) ∧ fs.Nodup ∧ ∀ x ∈ fs, x < m_nD A
def m_put (fs : List Nat) (o : Option Nat) : List Nat := match o with
  | none => fs
  | some x => if x ∈ fs then fs else fs ++ [x]
theorem m_put_ext (fs : List Nat) (o : Option Nat) : ∃ more, m_put fs o = fs ++ more := by
  cases o with
  | none => exact ⟨[], (List.append_nil _).symm⟩
  | some x =>
    by_cases h : x ∈ fs
    · exact ⟨[], by show (if x ∈ fs then fs else fs ++ [x]) = _; rw [if_pos h, List.append_nil]⟩
    · exact ⟨[x], by show (if x ∈ fs then fs else fs ++ [x]) = _; rw [if_neg h]⟩
theorem m_put_mem (fs : List Nat) (o : Option Nat) (y : Nat) : y ∈ m_put fs o ↔ y ∈ fs ∨ o = some y := by
  cases o with
  | none => exact ⟨Or.inl, fun h => h.elim id (fun q => by cases q)⟩
  | some x =>
    show y ∈ (if x ∈ fs then fs else fs ++ [x]) ↔ _
    by_cases h : x ∈ fs
    · rw [if_pos h]
      exact ⟨Or.inl, fun q => q.elim id (fun q => by cases q; exact h)⟩
    · rw [if_neg h, List.mem_append, List.mem_singleton]
      constructor
      · rintro (a | rfl)
        · exact Or.inl a
        · exact Or.inr rfl
      · rintro (a | a)
        · exact Or.inl a
        · cases a; exact Or.inr rfl
section CSe
variable {ext : av_X} {X : cX} {T : cT} {A : mS}
theorem c_add (hI : m_Inv A) (hX : c_X A X) (h : c_G A T) {fs : List Nat} (hf : c_fd A T fs) {o : Option Nat} (ho : ∀ x, o = some x → x < m_nD A) : cCv ext X 0 27 [cv X 1 (some 0), cv X 8 o] T (fun T' => c_sm [1, 23, 24] T T' ∧ c_fd A T' (m_put fs o)) := by
  have l1 := hX.z (s := 1) (by decide)
  have hD := hI.2.2.1
  refine cCv.of (L := [some (cv X 1 (some 0)), some (cv X 8 o)]) (by rw [ml27]; rfl) ?_
  cases o with
  | none => exact bc27_0 (fun _ => bc27_23 (cQv.e ⟨c_sm.rf _ _, hf⟩)) (fun _ q => by cases q)
  | some x =>
    have hx := ho x rfl
    have h0 := (h.2.2.2.1 x hx).2.1
    have h24 := hf.2.2.1 x hx
    refine bc27_0 (fun q => by cases q) (fun _ _ => bc27_4 (hX.d hx) (fun q => absurd q (by rw [h0]; exact nI_pos (by omega))) (fun _ => bc27_11 l1 (hX.d hx) (fun _ => ?_) (fun q => absurd (by rw [h0, nI_ltI (by omega) (by decide)]; omega) q)))
    refine bc27_24 (i_3 := x) l1 (hX.d hx) h0 (by omega) (fun q => ?_) (fun q => ?_)
    · have hm : x ∈ fs := by
        refine Decidable.of_not_not (fun z => q ?_)
        rw [h24, decide_eq_false z]
        rfl
      refine bc27_48 (cQv.e ⟨c_sm.rf _ _, ?_⟩)
      show c_fd A T (if x ∈ fs then fs else fs ++ [x])
      rw [if_pos hm]
      exact hf
    · have hm : x ∉ fs := by
        intro z
        rw [h24, decide_eq_true z] at q
        exact absurd q (by decide)
      have hnd : (fs ++ [x]).Nodup := List.nodup_append.mpr ⟨hf.2.2.2.1, List.nodup_cons.mpr ⟨fun z => (by cases z), List.nodup_nil⟩, fun a ha b hb e => hm (by rw [List.mem_singleton] at hb; rw [← hb, ← e]; exact ha)⟩
      have hall : ∀ y ∈ fs ++ [x], y < m_nD A := fun y hy => by
        rcases List.mem_append.mp hy with hy | hy
        · exact hf.2.2.2.2 y hy
        · rw [List.mem_singleton.mp hy]; exact hx
      have hl := nd_len _ _ hnd hall
      rw [List.length_append] at hl
      have hl' : fs.length + 1 ≤ m_nD A := hl
      refine bc27_36 l1 (fun _ => ?_) (fun q2 => absurd (by rw [hf.1, nI_ltI (by omega) (by decide)]; omega) q2)
      refine bc27_49 (i_3 := x) (i_6 := fs.length) l1 (hX.d hx) h0 (by omega) (by rw [iset_n _ _ (by omega)]; exact hf.1) (by omega) ?_
      rw [oset_1, iset_n _ _ (show ¬ ((1 : Nat) = 24 ∧ (0 : Nat) = 0 ∧ (2 : Nat) = x) by omega), hf.1]
      refine cQv.e ⟨(((c_sm.rf _ T).i _ _ _ (by decide)).o _ _ _ (by decide)).i _ _ _ (by decide), ?_⟩
      show c_fd A _ (if x ∈ fs then fs else fs ++ [x])
      rw [if_neg hm]
      refine ⟨?_, fun i y hy => ?_, fun d hd => ?_, hnd, hall⟩
      · rw [iset_s, nI_1, List.length_append]
        rfl
      · rw [iset_2]
        by_cases c1 : i < fs.length
        · rw [List.getElem?_append_left c1] at hy
          rw [oset_n _ _ (by omega)]
          exact hf.2.1 i y hy
        · rw [List.getElem?_append_right (by omega)] at hy
          have hj : i - fs.length < 1 := (List.getElem?_eq_some_iff.mp hy).1
          have ej : i = fs.length := by omega
          subst ej
          rw [Nat.sub_self] at hy
          cases hy
          exact oset_s _ _ _ _ _
      · rw [iset_n _ _ (by omega), oset_1]
        by_cases e : d = x
        · subst e
          rw [iset_s, decide_eq_true (show d ∈ fs ++ [d] by simp)]
          rfl
        · rw [iset_n _ _ (fun z => e z.2.2), hf.2.2.1 d hd]
          congr 1
          rw [decide_eq_decide, List.mem_append, List.mem_singleton]
          exact ⟨Or.inl, fun z => z.elim id (fun z => absurd z e)⟩
theorem c_addBehind (hI : m_Inv A) (hX : c_X A X) (h : c_G A T) {fs : List Nat} (hf : c_fd A T fs) {x : Nat} (hx : x < m_nD A) : cCv ext X 1 28 [cv X 1 (some 0), cv X 8 (some x)] T (fun T' => c_sm [1, 23, 24] T T' ∧ ∃ fs', c_fd A T' fs' ∧ (∃ more, fs' = fs ++ more) ∧ (∀ y, y ∈ fs' ↔ y ∈ fs ∨ m_E A x y)) := by
  have l1 := hX.z (s := 1) (by decide)
  have hD := hI.2.2.1
  have g := h.2.2.2.1 x hx
  have gk := h.2.2.2.2.1 (.inl x) hx
  refine cCv.of (L := [some (cv X 1 (some 0)), some (cv X 8 (some x)), none, none]) (by rw [ml28]; rfl) ?_
  refine bc28_0 (fun q => by cases q) (fun _ _ => bc28_5 l1 (hX.d hx) (by rw [g.2.2.2.2.2.2.2]; exact c_add hI hX h hf (fun r hr => (hI.2.2.2.2.2.1 x hx r hr).1)) ?_)
  rintro T1 ⟨w1, f1⟩
  have hGk : ∀ T2, c_sm [1, 23, 24] T T2 → c_G A T2 := fun T2 w => w.G h (by decide)
  refine bc28_13 (hX.d hx) ?_
  have g1 := hGk T1 w1
  rw [show T1.2 8 x 7 = (m_kids A (.inl x)).head? from (g1.2.2.2.2.1 (.inl x) hx).1]
  have hkl : (m_kids A (.inl x)).length ≤ m_nD A := m_kf_len A (.inl x) (m_nD A)
  have loop : ∀ (l2 p1 fs1 : List Nat) (T2 : cT), m_kids A (.inl x) = p1 ++ l2 → c_sm [1, 23, 24] T T2 → c_fd A T2 fs1 → (∃ more, fs1 = fs ++ more) → (∀ y, y ∈ fs1 ↔ y ∈ fs ∨ (m_rp A x = some y ∨ y ∈ p1)) → cA ext X 1 28 20 [some (cv X 1 (some 0)), some (cv X 8 (some x)), some (cv X 8 l2.head?), some (.int (nI p1.length))] [] T2 (cQv X (fun T' => c_sm [1, 23, 24] T T' ∧ ∃ fs', c_fd A T' fs' ∧ (∃ more, fs' = fs ++ more) ∧ (∀ y, y ∈ fs' ↔ y ∈ fs ∨ m_E A x y))) := by
    intro l2
    induction l2 with
    | nil =>
      intro p1 fs1 T2 he w2 f2 hm hin
      have fin : cA ext X 1 28 46 [some (cv X 1 (some 0)), some (cv X 8 (some x)), some (cv X 8 ([] : List Nat).head?), some (.int (nI p1.length))] [] T2 (cQv X (fun T' => c_sm [1, 23, 24] T T' ∧ ∃ fs', c_fd A T' fs' ∧ (∃ more, fs' = fs ++ more) ∧ (∀ y, y ∈ fs' ↔ y ∈ fs ∨ m_E A x y))) := by
        refine bc28_46 (cQv.e ⟨w2, fs1, f2, hm, fun y => ?_⟩)
        rw [hin]
        rw [List.append_nil] at he
        rw [← he]
        constructor
        · rintro (a | a | a)
          · exact Or.inl a
          · exact Or.inr ⟨hx, (hI.2.2.2.2.2.1 x hx y a).1, Or.inr a⟩
          · exact Or.inr ⟨hx, (m_kid_un a).1, Or.inl (m_kid_un a).2⟩
        · rintro (a | ⟨-, b, c | c⟩)
          · exact Or.inl a
          · exact Or.inr (Or.inr (m_kids_mem.mpr ⟨b, decide_eq_true c⟩))
          · exact Or.inr (Or.inl c)
      exact bc28_20 (fun _ => fin) (fun _ => bc28_26 (fun _ => fin) (fun _ q => by cases q))
    | cons y l2 ih =>
      intro p1 fs1 T2 he w2 f2 hm hin
      have hy := m_kid_un (A := A) (x := y) (p := x) (by rw [he]; simp)
      have hlen : p1.length < 120 := by
        rw [he, List.length_append] at hkl
        have : p1.length + (l2.length + 1) ≤ m_nD A := hkl
        omega
      refine bc28_20 (fun q => absurd q (nI_ge (b := 120) hlen (by decide))) (fun _ => bc28_26 (fun q => by cases q) (fun _ _ => bc28_30 l1 (c_add hI hX (hGk T2 w2) f2 (o := some y) (fun z hz => by cases hz; exact hy.1)) ?_))
      rintro T3 ⟨w3, f3⟩
      have w3' := w2.tr w3
      refine bc28_35 (hX.d hy.1) ?_
      rw [((hGk T3 w3').2.2.2.2.1 (.inl x) hx).2 p1 y l2 he, nI_1]
      have := ih (p1 ++ [y]) (m_put fs1 (some y)) T3 (by rw [he, List.append_assoc]; rfl) w3' f3 (by
        obtain ⟨m1, hm1⟩ := hm
        obtain ⟨m2, hm2⟩ := m_put_ext fs1 (some y)
        exact ⟨m1 ++ m2, by rw [hm2, hm1, List.append_assoc]⟩) (fun z => by
        rw [m_put_mem, hin, List.mem_append, List.mem_singleton]
        constructor
        · rintro ((a | a | a) | a)
          · exact Or.inl a
          · exact Or.inr (Or.inl a)
          · exact Or.inr (Or.inr (Or.inl a))
          · cases a; exact Or.inr (Or.inr (Or.inr rfl))
        · rintro (a | a | a | a)
          · exact Or.inl (Or.inl a)
          · exact Or.inl (Or.inr (Or.inl a))
          · exact Or.inl (Or.inr (Or.inr a))
          · rw [a]; exact Or.inr rfl)
      rw [List.length_append] at this
      exact this
  refine loop _ [] (m_put fs (m_rp A x)) T1 rfl w1 f1 (m_put_ext _ _) (fun y => ?_)
  rw [m_put_mem]
  constructor
  · rintro (a | a)
    · exact Or.inl a
    · exact Or.inr (Or.inl a)
  · rintro (a | a | a)
    · exact Or.inl a
    · exact Or.inr a
    · cases a
theorem c_forget (hX : c_X A X) (hD : m_nD A ≤ 120) : cCv ext X 0 26 [cv X 1 (some 0)] T (fun T' => c_sm [1, 23, 24] T T' ∧ c_fd A T' []) := by
  have l1 := hX.z (s := 1) (by decide)
  refine cCv.of (L := [some (cv X 1 (some 0)), none]) (by rw [ml26]; rfl) ?_
  refine bc26_0 ?_
  have loop : ∀ (n k : Nat) (T1 : cT), k + n = 120 → c_sm [1, 23, 24] T T1 → (∀ i, i < k → T1.1 24 0 i = 0) → cA ext X 0 26 2 [some (cv X 1 (some 0)), some (.int (nI k))] [] T1 (cQv X (fun T' => c_sm [1, 23, 24] T T' ∧ c_fd A T' [])) := by
    intro n
    induction n with
    | zero =>
      intro k T1 hk w h
      refine bc26_2 l1 (fun _ => bc26_24 l1 (cQv.e ⟨w.i _ _ _ (by decide), iset_s _ _ _ _ _, fun i x hx => ?_, fun d hd => ?_, List.nodup_nil, fun x hx => ?_⟩)) (fun q => absurd (nI_le (by omega) (by omega)) q)
      · cases hx
      · rw [iset_n _ _ (by omega), h d (by omega)]
        rfl
      · cases hx
    | succ n ih =>
      intro k T1 hk w h
      refine bc26_2 l1 (fun q => absurd q (nI_ge (by omega) (by decide))) (fun _ => bc26_11 (i_2 := k) l1 rfl (by omega) ?_)
      rw [nI_1]
      refine ih (k + 1) _ (by omega) (w.i _ _ _ (by decide)) (fun i hi => ?_)
      by_cases e : i = k
      · subst e; exact iset_s _ _ _ _ _
      · rw [iset_n _ _ (fun q => e q.2.2)]
        exact h i (by omega)
  exact loop 120 0 T (by omega) (c_sm.rf _ _) (fun i hi => by omega)
theorem c_comesTo (hI : m_Inv A) (hX : c_X A X) (h : c_G A T) {s : Nat} (hs : s < m_nD A) {gx : Nat} (hg : X.2.1 8 gx) : cCi ext X 2 25 [cv X 1 (some 0), cv X 8 (some s), cv X 8 (some gx)] T (fun v T' => c_sm [1, 23, 24] T T' ∧ ∃ c : Bool, v = bI c ∧ (c = true ↔ gx < m_nD A ∧ m_rc A s gx)) := by
  have l1 := hX.z (s := 1) (by decide)
  have hD := hI.2.2.1
  refine cCi.of (L := [some (cv X 1 (some 0)), some (cv X 8 (some s)), some (cv X 8 (some gx)), none, none]) (by rw [ml25]; rfl) ?_
  refine bc25_0 l1 ((c_forget hX hD).mono (by decide)) ?_
  rintro T1 ⟨w1, f1⟩
  have hGk : ∀ T2, c_sm [1, 23, 24] T T2 → c_G A T2 := fun T2 w => w.G h (by decide)
  refine bc25_4 l1 ((c_add hI hX (hGk T1 w1) f1 (o := some s) (fun z hz => by cases hz; exact hs)).mono (by decide)) ?_
  rintro T2 ⟨w2, f2⟩
  have e2 : m_put [] (some s) = [s] := rfl
  rw [e2] at f2
  refine bc25_9 ?_
  have loop : ∀ (n k : Nat) (fs : List Nat) (T3 : cT) (o4 : Option Value), k + n = 120 → c_sm [1, 23, 24] T T3 → c_fd A T3 fs → s ∈ fs → (∀ y ∈ fs, m_rc A s y) → (∀ i y, i < k → fs[i]? = some y → y ≠ gx ∧ ∀ z, m_E A y z → z ∈ fs) → cA ext X 2 25 11 [some (cv X 1 (some 0)), some (cv X 8 (some s)), some (cv X 8 (some gx)), some (.int (nI k)), o4] [] T3 (cQi X (fun v T' => c_sm [1, 23, 24] T T' ∧ ∃ c : Bool, v = bI c ∧ (c = true ↔ gx < m_nD A ∧ m_rc A s gx))) := by
    intro n
    induction n with
    | zero =>
      intro k fs T3 o4 hk w3 f3 hsm hrc hcl
      have hl := nd_len _ _ f3.2.2.2.1 f3.2.2.2.2
      have fin : cA ext X 2 25 53 [some (cv X 1 (some 0)), some (cv X 8 (some s)), some (cv X 8 (some gx)), some (.int (nI k)), o4] [] T3 (cQi X (fun v T' => c_sm [1, 23, 24] T T' ∧ ∃ c : Bool, v = bI c ∧ (c = true ↔ gx < m_nD A ∧ m_rc A s gx))) := by
        refine bc25_53 (cQi.e ⟨w3, false, rfl, fun q => (by cases q), fun ⟨_, q⟩ => ?_⟩)
        exfalso
        have : gx ∈ fs := m_rc.closed q (b := fun y => y ∈ fs) hsm (fun u v e hu => by
          obtain ⟨i, hi⟩ := List.getElem?_of_mem hu
          exact (hcl i u (by have := (List.getElem?_eq_some_iff.mp hi).1; omega) hi).2 v e)
        obtain ⟨i, hi⟩ := List.getElem?_of_mem this
        exact (hcl i gx (by have := (List.getElem?_eq_some_iff.mp hi).1; omega) hi).1 rfl
      exact bc25_11 (fun _ => fin) (fun q => absurd (nI_le (a := 120) (b := k) (by omega) (by omega)) q)
    | succ n ih =>
      intro k fs T3 o4 hk w3 f3 hsm hrc hcl
      have hl := nd_len _ _ f3.2.2.2.1 f3.2.2.2.2
      refine bc25_11 (fun q => absurd q (nI_ge (b := 120) (by omega) (by decide))) (fun _ => ?_)
      by_cases ck : k < fs.length
      · have hge : fs[k]? = some fs[k] := List.getElem?_eq_getElem ck
        generalize fs[k] = x at hge
        have hxm := List.mem_of_getElem? hge
        have hx := f3.2.2.2.2 x hxm
        have h23 := f3.2.1 k x hge
        refine bc25_17 l1 (fun q => absurd q (by rw [f3.1]; exact nI_ge ck (by omega))) (fun _ => bc25_25 (i_2 := k) l1 rfl (by omega) (fun j hj => by cases hj; exact hg) (fun q => ?_) (fun q => ?_))
        · rw [h23] at q ⊢
          have hne : x ≠ gx := fun z => q (by rw [z])
          refine bc25_41 l1 (c_addBehind hI hX (hGk T3 w3) f3 hx) ?_
          rintro T4 ⟨w4, fs', f4, ⟨more, hmore⟩, hin⟩
          refine bc25_47 ?_
          rw [nI_1]
          refine ih (k + 1) fs' T4 _ (by omega) (w3.tr w4) f4 ((hin s).mpr (Or.inl hsm)) (fun y hy => ?_) (fun i y hi hy => ?_)
          · rcases (hin y).mp hy with a | a
            · exact hrc y a
            · exact (hrc x hxm).step a
          · have hil : i < fs.length := by omega
            rw [hmore, List.getElem?_append_left hil] at hy
            by_cases e : i = k
            · subst e
              rw [hge] at hy
              cases hy
              exact ⟨hne, fun z hz => (hin z).mpr (Or.inr hz)⟩
            · obtain ⟨a, b⟩ := hcl i y (by omega) hy
              exact ⟨a, fun z hz => (hin z).mpr (Or.inl (b z hz))⟩
        · rw [h23] at q ⊢
          cases q
          exact bc25_39 (cQi.e ⟨w3, true, rfl, fun _ => ⟨hx, hrc _ hxm⟩, fun _ => rfl⟩)
      · refine bc25_17 l1 (fun _ => ?_) (fun q => absurd (by rw [f3.1]; exact nI_le (by omega) (by omega)) q)
        refine bc25_53 (cQi.e ⟨w3, false, rfl, fun q => (by cases q), fun ⟨_, q⟩ => ?_⟩)
        exfalso
        have : gx ∈ fs := m_rc.closed q (b := fun y => y ∈ fs) hsm (fun u v e hu => by
          obtain ⟨i, hi⟩ := List.getElem?_of_mem hu
          exact (hcl i u (by have := (List.getElem?_eq_some_iff.mp hi).1; omega) hi).2 v e)
        obtain ⟨i, hi⟩ := List.getElem?_of_mem this
        exact (hcl i gx (by have := (List.getElem?_eq_some_iff.mp hi).1; omega) hi).1 rfl
  exact loop 120 0 [s] T2 _ (by omega) (w1.tr w2) f2 (by simp) (fun y hy => by rw [List.mem_singleton.mp hy]; exact m_rc.refl A s) (fun i y hi => by omega)
end CSe
