/-! THE CLASS'S FAULTS OF DIVISIONS -/
theorem m_kidn_0 {A : mS} {d : Nat} : m_kidn A (m_nD A) d = 0 ↔ m_kids A (.inl d) = [] := by
  unfold m_kidn
  rw [List.length_eq_zero_iff, List.filter_eq_nil_iff]
  constructor
  · intro h
    cases hk : m_kids A (.inl d) with
    | nil => rfl
    | cons x l =>
      have := m_kid_un (A := A) (x := x) (p := d) (by rw [hk]; exact List.mem_cons_self)
      exact absurd (decide_eq_true this.2) (h x (List.mem_range.mpr this.1))
  · intro h x hx e
    have : x ∈ m_kids A (.inl d) := m_kids_mem.mpr ⟨List.mem_range.mp hx, e⟩
    rw [h] at this
    cases this
theorem m_same_iff {A : mS} (hI : m_Inv A) {d : Nat} (hd : d < m_nD A) : m_any (m_same A d) 0 d = true ↔ ∃ x ∈ m_kids A (c_pa A d), m_od A x = m_od A d ∧ x < d := by
  rw [m_any_iff]
  constructor
  · rintro ⟨k, -, hk, e⟩
    unfold m_same at e
    rw [Bool.and_eq_true, Bool.and_eq_true, decide_eq_true_eq, decide_eq_true_eq, decide_eq_true_eq] at e
    have hkD : k < m_nD A := by omega
    refine ⟨k, ?_, e.2.2, by omega⟩
    have : c_pa A k = c_pa A d := by unfold c_pa; rw [e.2.1, e.1]
    rw [← this]
    exact c_pa_in hkD
  · rintro ⟨x, hx, e, hlt⟩
    obtain ⟨h1, h2⟩ := c_pa_k hx
    refine ⟨x, Nat.zero_le _, by omega, ?_⟩
    unfold m_same
    rw [Bool.and_eq_true, Bool.and_eq_true, decide_eq_true_eq, decide_eq_true_eq, decide_eq_true_eq]
    cases hu : m_un A d with
    | none =>
      have hp : c_pa A d = .inr (m_mp A d) := by unfold c_pa; rw [hu]
      rw [hp] at h1
      unfold c_pa at h1
      cases hu2 : m_un A x with
      | none =>
        rw [hu2] at h1
        exact ⟨Sum.inr.inj h1, rfl, e⟩
      | some q => rw [hu2] at h1; cases h1
    | some p =>
      have hp : c_pa A d = .inl p := by unfold c_pa; rw [hu]
      rw [hp] at h1
      have e2 := c_pa_un h1
      refine ⟨?_, e2, e⟩
      rw [← (hI.2.2.2.2.1 x h2 p e2).2.1, ← (hI.2.2.2.2.1 d hd p hu).2.1]
section CFl
variable {ext : av_X} {X : cX} {T : cT} {A : mS}
theorem c_isEmpty (hI : m_Inv A) (hX : c_X A X) (h : c_G A T) {d : Nat} (hd : d < m_nD A) : cCi ext X 0 53 [cv X 8 (some d)] T (fun v T' => T' = T ∧ v = bI (m_emp A d)) := by
  have hl := (hI.2.2.2.2.2.2.1 d hd).1
  have g := h.2.2.2.1 d hd
  have g7 : T.2 8 d 7 = (m_kids A (.inl d)).head? := (h.2.2.2.2.1 (.inl d) hd).1
  refine cCi.of (L := [some (cv X 8 (some d))]) (by rw [ml53]; rfl) ?_
  refine bc53_0 (hX.d hd) (fun q => bc53_25 (bc53_26 (Or.inl rfl) (cQi.e ⟨rfl, ?_⟩))) (fun q => ?_)
  · rw [g.2.2.2.2.2.1] at q
    unfold m_emp
    rw [decide_eq_false (show ¬ (m_lk A d).length = 0 from fun z => q (by rw [z]; rfl))]
    rfl
  · rw [g.2.2.2.2.2.1] at q
    have q' : (m_lk A d).length = 0 := (nI_eq (b := 0) (by omega) (by decide)).mp q
    refine bc53_7 (hX.d hd) (fun q2 => ?_) (fun z q2 => bc53_25 (bc53_26 (Or.inl rfl) (cQi.e ⟨rfl, ?_⟩)))
    · rw [g7] at q2
      have e2 := m_kidn_0.mpr (hd_none q2)
      refine bc53_14 (hX.d hd) (fun q3 => bc53_21 (bc53_26 (Or.inr rfl) (cQi.e ⟨rfl, ?_⟩))) (fun z q3 => bc53_25 (bc53_26 (Or.inl rfl) (cQi.e ⟨rfl, ?_⟩)))
      · rw [g.2.2.2.2.2.2.2] at q3
        unfold m_emp
        rw [decide_eq_true q', decide_eq_true e2, decide_eq_true q3]
        rfl
      · rw [g.2.2.2.2.2.2.2] at q3
        unfold m_emp
        rw [decide_eq_false (show ¬ m_rp A d = none from fun y => by rw [y] at q3; cases q3), Bool.and_false, Bool.and_false]
        rfl
    · rw [g7] at q2
      unfold m_emp
      rw [decide_eq_false (show ¬ m_kidn A (m_nD A) d = 0 from fun y => by rw [m_kidn_0.mp y] at q2; cases q2), Bool.false_and, Bool.and_false]
      rfl
theorem c_lower (hI : m_Inv A) (hX : c_X A X) (h : c_G A T) {d : Nat} (hd : d < m_nD A) : cCi ext X 0 56 [cv X 8 (some d)] T (fun v T' => T' = T ∧ v = bI (m_any (m_same A d) 0 d)) := by
  have hD := hI.2.2.1
  have g := h.2.2.2.1 d hd
  have gk := h.2.2.2.2.1 (c_pa A d) (c_pa_ok hI hd)
  refine cCi.of (L := [some (cv X 8 (some d)), none, none]) (by rw [ml56]; rfl) ?_
  refine bc56_0 (hX.d hd) (fun q => by rw [g.2.2.2.2.2.2.1] at q; cases q) (fun _ _ => bc56_11 (b_2 := c_ix (c_pa A d)) (hX.d hd) g.2.2.2.2.2.2.1 (bc56_18 ?_))
  rw [gk.1]
  have hkl : (m_kids A (c_pa A d)).length ≤ m_nD A := m_kf_len A (c_pa A d) (m_nD A)
  have loop : ∀ (l2 l1 : List Nat), m_kids A (c_pa A d) = l1 ++ l2 → (∀ x ∈ l1, ¬ (m_od A x = m_od A d ∧ x < d)) → cA ext X 0 56 21 [some (cv X 8 (some d)), some (cv X 8 l2.head?), some (.int (nI l1.length))] [] T (cQi X (fun v T' => T' = T ∧ v = bI (m_any (m_same A d) 0 d))) := by
    intro l2
    induction l2 with
    | nil =>
      intro l1 he hno
      have fin : cA ext X 0 56 66 [some (cv X 8 (some d)), some (cv X 8 ([] : List Nat).head?), some (.int (nI l1.length))] [] T (cQi X (fun v T' => T' = T ∧ v = bI (m_any (m_same A d) 0 d))) := by
        refine bc56_66 (cQi.e ⟨rfl, ?_⟩)
        cases hc : m_any (m_same A d) 0 d with
        | false => rfl
        | true =>
          obtain ⟨x, hx, e⟩ := (m_same_iff hI hd).mp hc
          rw [he, List.append_nil] at hx
          exact absurd e (hno x hx)
      exact bc56_21 (fun _ => fin) (fun _ => bc56_27 (fun _ => fin) (fun _ q => by cases q))
    | cons y l2 ih =>
      intro l1 he hno
      have hy := c_pa_k (A := A) (c := c_pa A d) (x := y) (by rw [he]; simp)
      have gy := h.2.2.2.1 y hy.2
      have by' := (hI.2.2.2.1 y hy.2).2.1
      have bd := (hI.2.2.2.1 d hd).2.1
      have hlen : l1.length < 120 := by
        rw [he, List.length_append] at hkl
        have : l1.length + (l2.length + 1) ≤ m_nD A := hkl
        omega
      have go : ¬ (m_od A y = m_od A d ∧ y < d) → cA ext X 0 56 55 [some (cv X 8 (some d)), some (cv X 8 (some y)), some (.int (nI l1.length))] [] T (cQi X (fun v T' => T' = T ∧ v = bI (m_any (m_same A d) 0 d))) := by
        intro hn
        refine bc56_55 (hX.d hy.2) ?_
        rw [gk.2 l1 y l2 he, nI_1]
        have := ih (l1 ++ [y]) (by rw [he, List.append_assoc]; rfl) (fun x hx => by
          rcases List.mem_append.mp hx with hx | hx
          · exact hno x hx
          · rw [List.mem_singleton.mp hx]; exact hn)
        rw [List.length_append] at this
        exact this
      refine bc56_21 (fun q => absurd q (nI_ge (b := 120) hlen (by decide))) (fun _ => bc56_27 (fun q => by cases q) (fun _ _ => ?_))
      refine bc56_31 (hX.d hd) (hX.d hy.2) (fun q => ?_) (fun q => ?_)
      · rw [gy.2.2.2.1, g.2.2.2.1] at q
        exact go (fun z => q (by rw [z.1]))
      · rw [gy.2.2.2.1, g.2.2.2.1, nI_eq (by omega) (by omega)] at q
        refine bc56_42 (hX.d hd) (hX.d hy.2) (fun q2 => ?_) (fun q2 => ?_)
        · rw [gy.2.1, g.2.1, nI_leI (by omega) (by omega)] at q2
          exact go (fun z => by omega)
        · rw [gy.2.1, g.2.1, nI_leI (by omega) (by omega)] at q2
          refine bc56_53 (cQi.e ⟨rfl, ?_⟩)
          rw [(m_same_iff hI hd).mpr ⟨y, by rw [he]; simp, q, by omega⟩]
          rfl
  exact loop _ [] rfl (fun x hx => by cases hx)
theorem c_beyond (hI : m_Inv A) (hX : c_X A X) (h : c_G A T) {d : Nat} (hd : d < m_nD A) : cCi ext X 0 57 [cv X 8 (some d)] T (fun v T' => T' = T ∧ v = bI (m_far A d)) := by
  have hl := hI.2.2.2.2.2.2.1 d hd
  have g := h.2.2.2.1 d hd
  refine cCi.of (L := [some (cv X 8 (some d)), none, none]) (by rw [ml57]; rfl) ?_
  refine bc57_0 ?_
  have loop : ∀ (n j : Nat) (o2 : Option Value), j + n = (m_lk A d).length → ((m_lk A d).drop j).any (m_far1 A) = m_far A d → cA ext X 0 57 2 [some (cv X 8 (some d)), some (.int (nI j)), o2] [] T (cQi X (fun v T' => T' = T ∧ v = bI (m_far A d))) := by
    intro n
    induction n with
    | zero =>
      intro j o2 hj hc
      refine bc57_2 (hX.d hd) (fun _ => bc57_52 (cQi.e ⟨rfl, ?_⟩)) (fun q => absurd (by rw [g.2.2.2.2.2.1]; exact nI_le (by omega) (by omega)) q)
      rw [← hc, List.drop_eq_nil_of_le (by omega)]
      rfl
    | succ n ih =>
      intro j o2 hj hc
      have hjl : j < (m_lk A d).length := by omega
      have he : (m_lk A d)[j]? = some ((m_lk A d)[j]) := List.getElem?_eq_getElem hjl
      rw [List.drop_eq_getElem_cons hjl, List.any_cons] at hc
      generalize (m_lk A d)[j] = e at he hc
      have hL := h.2.2.2.2.2.1 d j e hd he
      have hf := hl.2 e (List.mem_of_getElem? he)
      have gf := h.2.1 e.1 hf.1
      have hsz := hI.1.2 e.1 hf.1
      have hll : X.2.1 9 (5 * d + j) := (hX 9 _).mpr ⟨d, j, e, hd, he, rfl⟩
      refine bc57_2 (hX.d hd) (fun q => absurd q (by rw [g.2.2.2.2.2.1]; exact nI_ge hjl (by omega))) (fun _ => bc57_10 (hX.d hd) (fun q => absurd q (nI_ge (by omega) (by decide))) (fun _ => ?_))
      refine bc57_19 (i_2 := j) (hX.d hd) rfl (by omega) (fun q => by rw [hL.1] at q; cases q) (fun _ _ => ?_)
      rw [hL.1]
      refine bc57_30 (b_2 := e.1) hll hL.2.2.1 (fun q => ?_) (fun q => ?_)
      · rw [hL.2.2.2.2, gf.2.2, nI_leI (by omega) (by omega)] at q
        refine bc57_46 ?_
        rw [nI_1]
        refine ih (j + 1) _ (by omega) ?_
        rw [← hc]
        unfold m_far1
        rw [decide_eq_false (show ¬ m_fz A e.1 < e.2.2 by omega), Bool.false_or]
      · rw [hL.2.2.2.2, gf.2.2, nI_leI (by omega) (by omega)] at q
        refine bc57_44 (cQi.e ⟨rfl, ?_⟩)
        rw [← hc]
        unfold m_far1
        rw [decide_eq_true (show m_fz A e.1 < e.2.2 by omega), Bool.true_or]
        rfl
  exact loop (m_lk A d).length 0 _ (by omega) rfl
def c_fl (T : cT) (l : List (Nat × Nat)) : Prop := T.1 4 0 2 = nI l.length ∧ ∀ i e, l[i]? = some e → T.1 31 0 i = nI e.1 ∧ T.1 32 0 i = nI e.2
theorem c_fadd (hX : c_X A X) {l : List (Nat × Nat)} (h : c_fl T l) (hl : l.length < 300) (w f : Nat) : cCv ext X 0 40 [cv X 4 (some 0), .int (nI w), .int (nI f)] T (fun T' => c_sm [4, 31, 32] T T' ∧ c_fl T' (l ++ [(w, f)])) := by
  have l4 := hX.z (s := 4) (by decide)
  refine cCv.of (L := [some (cv X 4 (some 0)), some (.int (nI w)), some (.int (nI f))]) (by rw [ml40]; rfl) ?_
  refine bc40_0 l4 (fun q => absurd q (by rw [h.1]; exact nI_ge hl (by decide))) (fun _ => bc40_12 l4 (fun q => absurd q (by rw [h.1]; exact nI_ge hl (by decide))) (fun _ => ?_))
  refine bc40_24 (i_2 := l.length) (i_5 := l.length) l4 h.1 hl (by rw [iset_n _ _ (by omega)]; exact h.1) hl (bc40_54 (cQv.e ⟨(((c_sm.rf _ T).i _ _ _ (by decide)).i _ _ _ (by decide)).i _ _ _ (by decide), ?_, fun i x hx => ?_⟩))
  · rw [iset_s, iset_n _ _ (by omega), iset_n _ _ (by omega), h.1, nI_1, List.length_append]
    rfl
  · have f1 : (iset T 31 0 l.length (nI w)).1 31 0 i = nI x.1 ∧ (iset (iset T 31 0 l.length (nI w)) 32 0 l.length (nI f)).1 32 0 i = nI x.2 := by
      by_cases c1 : i < l.length
      · rw [List.getElem?_append_left c1] at hx
        have := h.2 i x hx
        exact ⟨(iset_n _ _ (by omega)).trans this.1, ((iset_n _ _ (by omega)).trans (iset_n _ _ (by omega))).trans this.2⟩
      · rw [List.getElem?_append_right (by omega)] at hx
        have hj : i - l.length < 1 := (List.getElem?_eq_some_iff.mp hx).1
        have ej : i = l.length := by omega
        subst ej
        rw [Nat.sub_self] at hx
        cases hx
        exact ⟨iset_s _ _ _ _ _, iset_s _ _ _ _ _⟩
    exact ⟨((iset_n _ _ (by omega)).trans (iset_n _ _ (by omega))).trans f1.1, (iset_n _ _ (by omega)).trans f1.2⟩
theorem c_faultsD (hI : m_Inv A) (hX : c_X A X) (hG : c_G A T) {l : List (Nat × Nat)} (h : c_fl T l) {d : Nat} (hd : d < m_nD A) (hl : l.length + (m_fd A d).length ≤ 300) : cCv ext X 1 17 [cv X 0 (some 0), cv X 8 (some d)] T (fun T' => c_sm [4, 31, 32] T T' ∧ c_fl T' (l ++ m_fd A d)) := by
  have l0 := hX.z (s := 0) (by decide)
  refine cCv.of (L := [some (cv X 0 (some 0)), some (cv X 8 (some d))]) (by rw [ml17]; rfl) ?_
  generalize hQ : cQv X (fun T' => c_sm [4, 31, 32] T T' ∧ c_fl T' (l ++ m_fd A d)) = Q
  have hGk : ∀ T2, c_sm [4, 31, 32] T T2 → c_G A T2 := fun T2 w => w.G hG (by decide)
  have efd : m_fd A d = m_w1 (m_emp A d) 1 d ++ (m_w1 (m_any (m_same A d) 0 d) 2 d ++ m_w1 (m_far A d) 3 d) := rfl
  rw [efd, List.length_append, List.length_append, m_w1_len, m_w1_len, m_w1_len] at hl
  have third : ∀ (l2 : List (Nat × Nat)) (T2 : cT), l2.length + (if m_far A d = true then 1 else 0) ≤ 300 → l2 ++ m_w1 (m_far A d) 3 d = l ++ m_fd A d → c_sm [4, 31, 32] T T2 → c_fl T2 l2 → cA ext X 1 17 38 [some (cv X 0 (some 0)), some (cv X 8 (some d))] [] T2 Q := by
    intro l2 T2 hl2 hrest w2 p2
    refine bc17_38 (hX.d hd) (c_beyond hI hX (hGk T2 w2) hd) ?_
    rintro v T3 ⟨rfl, rfl⟩
    refine bc17_42 (fun q => ?_) (fun q => ?_)
    · rw [bI_0.mp q, show m_w1 false 3 d = [] from rfl, List.append_nil] at hrest
      refine bc17_57 ?_
      rw [← hQ, ← hrest]
      exact cQv.e ⟨w2, p2⟩
    · have ec : m_far A d = true := by
        cases hc : m_far A d with
        | true => rfl
        | false => rw [hc] at q; exact absurd rfl q
      rw [ec] at hrest hl2
      rw [if_pos rfl] at hl2
      refine bc17_45 l0 (hX.d hd) (by rw [((hGk T3 w2).2.2.2.1 d hd).2.1]; exact c_fadd hX p2 (by omega) 3 d) ?_
      rintro T4 ⟨w4, p4⟩
      refine bc17_57 ?_
      rw [← hQ, ← hrest]
      exact cQv.e ⟨w2.tr w4, p4⟩
  have second : ∀ (l2 : List (Nat × Nat)) (T2 : cT), l2.length + ((if m_any (m_same A d) 0 d = true then 1 else 0) + (if m_far A d = true then 1 else 0)) ≤ 300 → l2 ++ (m_w1 (m_any (m_same A d) 0 d) 2 d ++ m_w1 (m_far A d) 3 d) = l ++ m_fd A d → c_sm [4, 31, 32] T T2 → c_fl T2 l2 → cA ext X 1 17 19 [some (cv X 0 (some 0)), some (cv X 8 (some d))] [] T2 Q := by
    intro l2 T2 hl2 hrest w2 p2
    refine bc17_19 (hX.d hd) (c_lower hI hX (hGk T2 w2) hd) ?_
    rintro v T3 ⟨rfl, rfl⟩
    refine bc17_23 (fun q => ?_) (fun q => ?_)
    · rw [bI_0.mp q, show m_w1 false 2 d = [] from rfl, List.nil_append] at hrest
      rw [bI_0.mp q] at hl2
      exact third l2 T3 (by rw [if_neg (by decide)] at hl2; omega) hrest w2 p2
    · have ec : m_any (m_same A d) 0 d = true := by
        cases hc : m_any (m_same A d) 0 d with
        | true => rfl
        | false => rw [hc] at q; exact absurd rfl q
      rw [ec] at hrest hl2
      rw [if_pos rfl] at hl2
      refine bc17_26 l0 (hX.d hd) (by rw [((hGk T3 w2).2.2.2.1 d hd).2.1]; exact c_fadd hX p2 (by omega) 2 d) ?_
      rintro T4 ⟨w4, p4⟩
      exact third (l2 ++ [(2, d)]) T4 (by rw [List.length_append]; show l2.length + 1 + _ ≤ 300; omega) (by rw [← hrest, List.append_assoc]; rfl) (w2.tr w4) p4
  refine bc17_0 (hX.d hd) (c_isEmpty hI hX hG hd) ?_
  rintro v T3 ⟨rfl, rfl⟩
  refine bc17_4 (fun q => ?_) (fun q => ?_)
  · rw [bI_0.mp q, if_neg (by decide)] at hl
    refine second l T3 (by omega) ?_ (c_sm.rf _ _) h
    rw [efd, bI_0.mp q]
    rfl
  · have ec : m_emp A d = true := by
      cases hc : m_emp A d with
      | true => rfl
      | false => rw [hc] at q; exact absurd rfl q
    rw [ec, if_pos rfl] at hl
    refine bc17_7 l0 (hX.d hd) (by rw [(hG.2.2.2.1 d hd).2.1]; exact c_fadd hX h (by omega) 1 d) ?_
    rintro T4 ⟨w4, p4⟩
    refine second (l ++ [(1, d)]) T4 (by rw [List.length_append]; show l.length + 1 + _ ≤ 300; omega) ?_ w4 p4
    rw [efd, ec, List.append_assoc]
    rfl
end CFl
