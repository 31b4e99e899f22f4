/-! THE REFERENCE'S CALL: differ -/
def m_dfp (A : mS) (l1 l2 : List Nat) (i : Nat) : Bool := match l1[i]?, l2[i]? with
  | some x, some y => decide (m_lb A x ≠ m_lb A y) || decide (m_depth A x ≠ m_depth A y)
  | _, _ => true
def m_dfn (A : mS) (l1 l2 : List Nat) : Nat → Nat
  | 0 => 0
  | n + 1 => m_dfn A l1 l2 n + (if m_dfp A l1 l2 n = true then 1 else 0)
def m_differ (A : mS) (m o : Nat) : Nat := m_dfn A (m_order A m) (m_order A o) (max (m_order A m).length (m_order A o).length)
def sp_differ (A : mS) (m o : Int32) : Int32 := if (0 ≤ m ∧ m ≤ nI (m_nM A) - 1) ∧ (0 ≤ o ∧ o ≤ nI (m_nM A) - 1) then nI (m_differ A m.toNatClampNeg o.toNatClampNeg) else -1
section RDf
variable {ext : av_X} {X : rX} {W : rW} {A : mS}
theorem r_differ (hI : m_Inv A) (h : r_RA A W) (m o : Int32) : rCi ext X 2 94 [.ref X.1, .int m, .int o] W (fun x W' => x = sp_differ A m o ∧ r_RA A W') := by
  refine rCi.of (L := [some (.ref X.1), some (.int m), some (.int o), none, none, none]) (by rw [ml94]; rfl) ?_
  refine br94_0 (r_isMap _) ?_
  rintro v W1 ⟨rfl, rfl⟩
  have h0 : r_RA A (hset W 0 0) := h.hset 0 0 (by decide)
  generalize hset W 0 0 = W at h0 ⊢
  have hnM : W.2 3 = nI (m_nM A) := h0.2.1.1
  have hM5 := hI.2.1.1
  have hD := hI.2.2.1
  unfold sp_differ
  rw [hnM]
  by_cases hm : 0 ≤ m ∧ m ≤ nI (m_nM A) - 1
  case neg =>
    rw [if_neg hm, if_neg (fun z => hm z.1)]
    exact br94_10 (fun _ => br94_21 ⟨_, rfl, rfl, h0⟩) (fun e => absurd rfl e)
  rw [if_pos hm]
  refine br94_10 (fun e => absurd e (by decide)) (fun _ => ?_)
  refine br94_13 (r_isMap _) ?_
  rintro v W1 ⟨rfl, rfl⟩
  rw [hnM]
  by_cases ho : 0 ≤ o ∧ o ≤ nI (m_nM A) - 1
  case neg =>
    rw [if_neg ho, if_neg (fun z => ho z.2)]
    exact br94_18 (fun e => absurd rfl e) (fun _ => br94_21 ⟨_, rfl, rfl, h0⟩)
  rw [if_pos ho, if_pos ⟨hm, ho⟩]
  refine br94_18 (fun _ => ?_) (fun e => absurd e (by decide))
  obtain ⟨mi, hmi, rfl⟩ := (rI_rng (by omega)).mp hm
  obtain ⟨oi, hoi, rfl⟩ := (rI_rng (by omega)).mp ho
  rw [nI_clamp (show mi < 2147483648 by omega), nI_clamp (show oi < 2147483648 by omega)]
  refine br94_23 (r_go hI h0 hmi) ?_
  rintro W2 ⟨g1, g2, g3, g4, g5⟩
  have hR2 := g1.RA h0
  refine br94_28 ?_
  generalize hl1 : m_order A mi = l1 at g2 g3 g4 g5
  -- the copy
  have copy : ∀ (n k : Nat) (W3 : rW), k + n = l1.length → r_RA A W3 → W3.2 19 = nI l1.length → W3.2 22 = nI l1.length → r_ls A (W3.1 20) (W3.1 21) l1 → (∀ i x, i < k → l1[i]? = some x → W3.1 23 i = nI x ∧ W3.1 24 i = nI (m_depth A x)) →
      (∀ (W4 : rW) (x3 : Int32), r_RA A W4 → W4.2 22 = nI l1.length → r_ls A (W4.1 23) (W4.1 24) l1 → rA ext X 2 94 76 [some (.ref X.1), some (.int (nI mi)), some (.int (nI oi)), some (.int x3), none, none] [] W4 (fun r W' => ∃ x, r = some (.int x) ∧ x = nI (m_differ A mi oi) ∧ r_RA A W')) →
      rA ext X 2 94 38 [some (.ref X.1), some (.int (nI mi)), some (.int (nI oi)), some (.int (nI k)), none, none] [] W3 (fun r W' => ∃ x, r = some (.int x) ∧ x = nI (m_differ A mi oi) ∧ r_RA A W') := by
    intro n
    induction n with
    | zero =>
      intro k W3 hk hR h19 h22 hls hc kk
      refine br94_38 (fun _ => ?_) (fun e => absurd (by rw [h19]; exact nI_le (by omega) (by omega)) e)
      exact kk W3 _ hR h22 (fun i x hx => hc i x (by have := (List.getElem?_eq_some_iff.mp hx).1; omega) hx)
    | succ n ih =>
      intro k W3 hk hR h19 h22 hls hc kk
      refine br94_38 (fun e => absurd e (by rw [h19]; exact nI_ge (by omega) (by omega))) (fun _ => ?_)
      refine br94_46 (i_1 := k) (i_4 := k) (i_7 := k) (i_10 := k) rfl (by omega) rfl (by omega) rfl (by omega) rfl (by omega) ?_
      rw [gset_k _ _ _ (show (21 : Nat) ≠ 23 by decide), nI_1]
      refine ih (k + 1) _ (by omega) ((hR.gset 23 _ _ (by decide)).gset 24 _ _ (by decide)) h19 h22 ?_ (fun i x hi hx => ?_) kk
      · rw [gset_k _ _ _ (show (20 : Nat) ≠ 24 by decide), gset_k _ _ _ (show (20 : Nat) ≠ 23 by decide), gset_k _ _ _ (show (21 : Nat) ≠ 24 by decide), gset_k _ _ _ (show (21 : Nat) ≠ 23 by decide)]
        exact hls
      · rw [gset_k _ _ _ (show (23 : Nat) ≠ 24 by decide), gset_e, gset_e, gset_k _ _ _ (show (24 : Nat) ≠ 23 by decide)]
        by_cases e : i = k
        · subst e
          rw [va_up_self, va_up_self]
          exact hls i x hx
        · rw [va_up_ne _ _ e, va_up_ne _ _ e]
          exact hc i x (by omega) hx
  refine copy l1.length 0 (hset W2 22 (W2.2 19)) (Nat.zero_add _) (hR2.hset 22 _ (by decide)) (by rw [hset_n _ _ (by decide)]; exact g2) (by rw [hset_s]; exact g2) g3 (fun i x hi => by omega) (fun W4 x3 hR4 h22 hc => ?_)
  refine br94_76 (r_go hI hR4 hoi) ?_
  rintro W5 ⟨f1, f2, f3, f4, f5⟩
  have hR5 := f1.RA hR4
  refine br94_81 ?_
  have h22' : W5.2 22 = nI l1.length := by rw [f1.2 22 (by decide) (by decide)]; exact h22
  have hc' : r_ls A (W5.1 23) (W5.1 24) l1 := by rw [f1.1 23 (by decide) (by decide) (by decide) (by decide), f1.1 24 (by decide) (by decide) (by decide) (by decide)]; exact hc
  generalize hl2 : m_order A oi = l2 at f2 f3 f4 f5
  have hres : m_differ A mi oi = m_dfn A l1 l2 (max l1.length l2.length) := by unfold m_differ; rw [hl1, hl2]
  rw [hres]
  have loop : ∀ (n k : Nat) (o5 : Option Value), k + n = max l1.length l2.length → rA ext X 2 94 86 [some (.ref X.1), some (.int (nI mi)), some (.int (nI oi)), some (.int (nI (m_dfn A l1 l2 k))), some (.int (nI k)), o5] [] W5 (fun r W' => ∃ x, r = some (.int x) ∧ x = nI (m_dfn A l1 l2 (max l1.length l2.length)) ∧ r_RA A W') := by
    intro n
    induction n with
    | zero =>
      intro k o5 hk
      have k1 : l1.length ≤ k := by have := Nat.le_max_left l1.length l2.length; omega
      have k2 : l2.length ≤ k := by have := Nat.le_max_right l1.length l2.length; omega
      have hkm : k ≤ 120 := by omega
      refine br94_86 (fun e => absurd e (by rw [f2]; exact nI_nlt k2 (by omega))) (fun _ => ?_)
      refine br94_95 (fun _ => ?_) (fun e => absurd (by rw [h22']; exact nI_le k1 (by omega)) e)
      exact br94_192 ⟨_, rfl, by rw [show k = max l1.length l2.length by omega], hR5⟩
    | succ n ih =>
      intro k o5 hk
      have hkm : k < 120 := by omega
      have hor : k < l1.length ∨ k < l2.length := by omega
      -- the counting
      have nxt : ∀ (x5 : Int32) (b : Bool), m_dfp A l1 l2 k = b → rA ext X 2 94 184 [some (.ref X.1), some (.int (nI mi)), some (.int (nI oi)), some (.int (nI (m_dfn A l1 l2 k))), some (.int (nI k)), some (.int x5)] [.int (bI b), .int (nI (m_dfn A l1 l2 k))] W5 (fun r W' => ∃ x, r = some (.int x) ∧ x = nI (m_dfn A l1 l2 (max l1.length l2.length)) ∧ r_RA A W') := by
        intro x5 b hb
        refine br94_184 ?_
        have e2 : nI (m_dfn A l1 l2 k) + bI b = nI (m_dfn A l1 l2 (k + 1)) := by
          rw [m_dfn, hb]
          cases b with
          | true => exact nI_add _ 1
          | false => exact nI_add _ 0
        rw [e2, nI_1]
        exact ih (k + 1) _ (by omega)
      have not_both : m_dfp A l1 l2 k = true → rA ext X 2 94 126 [some (.ref X.1), some (.int (nI mi)), some (.int (nI oi)), some (.int (nI (m_dfn A l1 l2 k))), some (.int (nI k)), o5] [] W5 (fun r W' => ∃ x, r = some (.int x) ∧ x = nI (m_dfn A l1 l2 (max l1.length l2.length)) ∧ r_RA A W') := fun hb =>
        br94_126 (br94_127 (fun _ => br94_179 (nxt _ true hb)) (fun e => absurd rfl e))
      have mid : rA ext X 2 94 104 [some (.ref X.1), some (.int (nI mi)), some (.int (nI oi)), some (.int (nI (m_dfn A l1 l2 k))), some (.int (nI k)), o5] [] W5 (fun r W' => ∃ x, r = some (.int x) ∧ x = nI (m_dfn A l1 l2 (max l1.length l2.length)) ∧ r_RA A W') := by
        refine br94_104 (fun e => ?_) (fun e => ?_)
        · rw [f2, nI_leI (by omega) (by omega)] at e
          refine not_both ?_
          unfold m_dfp
          rw [List.getElem?_eq_none e]
          cases l1[k]? <;> rfl
        · rw [f2, nI_leI (by omega) (by omega)] at e
          refine br94_113 (fun e2 => ?_) (fun e2 => ?_)
          · rw [h22', nI_leI (by omega) (by omega)] at e2
            refine not_both ?_
            unfold m_dfp
            rw [List.getElem?_eq_none e2]
          · rw [h22', nI_leI (by omega) (by omega)] at e2
            have c1 : k < l1.length := by omega
            have c2 : k < l2.length := by omega
            have q1 : l1[k]? = some l1[k] := List.getElem?_eq_getElem c1
            have q2 : l2[k]? = some l2[k] := List.getElem?_eq_getElem c2
            have d1 : l1[k] < m_nD A := g5 _ (List.getElem_mem c1)
            have d2 : l2[k] < m_nD A := f5 _ (List.getElem_mem c2)
            generalize l1[k] = x at q1 d1
            generalize l2[k] = y at q2 d2
            have r1 := hc' k x q1
            have r2 := f3 k y q2
            have lx := (hI.2.2.2.1 x d1).2.2
            have ly := (hI.2.2.2.1 y d2).2.2
            have ex := m_depth_lt hI.J d1
            have ey := m_depth_lt hI.J d2
            have hdf : m_dfp A l1 l2 k = (decide (m_lb A x ≠ m_lb A y) || decide (m_depth A x ≠ m_depth A y)) := by unfold m_dfp; rw [q1, q2]
            refine br94_122 (br94_127 (fun e => absurd e (by decide)) (fun _ => ?_))
            refine br94_135 (i_1 := k) (i_4 := y) (i_7 := k) (i_10 := x) rfl (by omega) r2.1 (by omega) rfl (by omega) r1.1 (by omega) (fun e3 => ?_) (fun e3 => ?_)
            · rw [(hR5.2.2.1.2.1 y d2).2.2.2.1, (hR5.2.2.1.2.1 x d1).2.2.2.1] at e3
              have hne : m_lb A x ≠ m_lb A y := fun z => e3 (by rw [z])
              exact br94_179 (nxt _ true (by rw [hdf, decide_eq_true hne, Bool.true_or]))
            · rw [(hR5.2.2.1.2.1 y d2).2.2.2.1, (hR5.2.2.1.2.1 x d1).2.2.2.1] at e3
              have heq : m_lb A y = m_lb A x := (nI_eq (by omega) (by omega)).mp e3
              refine br94_162 (i_1 := k) (i_4 := k) rfl (by omega) rfl (by omega) (fun e4 => ?_) (fun e4 => ?_)
              · rw [r1.2, r2.2] at e4
                have heq2 : m_depth A y = m_depth A x := (nI_eq (by omega) (by omega)).mp e4
                exact br94_183 (nxt _ false (by rw [hdf, decide_eq_false (fun z => z heq.symm), decide_eq_false (fun z => z heq2.symm)]; rfl))
              · rw [r1.2, r2.2] at e4
                have hne : m_depth A x ≠ m_depth A y := fun z => e4 (by rw [z])
                exact br94_179 (nxt _ true (by rw [hdf, decide_eq_true hne, Bool.or_true]))
      refine br94_86 (fun _ => mid) (fun e => ?_)
      rw [f2, nI_ltI (by omega) (by omega)] at e
      exact br94_95 (fun e2 => absurd e2 (by rw [h22']; exact nI_ge (by omega) (by omega))) (fun _ => mid)
  exact loop (max l1.length l2.length) 0 _ (Nat.zero_add _)
end RDf
