/-! THE REFERENCE'S lay: those under one come onto the pile, the first on top -/
def m_cI (c : Nat ⊕ Nat) : Int32 := match c with
  | .inl p => nI p
  | .inr m => -1 - nI m
def r_tw (W0 W : rW) : Prop := (∀ k, k ≠ 15 → k ≠ 16 → W.1 k = W0.1 k) ∧ ∀ k, k ≠ 17 → W.2 k = W0.2 k
theorem r_tw.rf (W : rW) : r_tw W W := ⟨fun _ _ _ => rfl, fun _ _ => rfl⟩
theorem r_tw.tr {W0 W1 W2 : rW} (h : r_tw W0 W1) (h2 : r_tw W1 W2) : r_tw W0 W2 := ⟨fun k a b => (h2.1 k a b).trans (h.1 k a b), fun k a => (h2.2 k a).trans (h.2 k a)⟩
theorem r_tw.RA {A : mS} {W0 W : rW} (h : r_tw W0 W) (h0 : r_RA A W0) : r_RA A W := h0.cong (fun k hk => h.1 k (fun e => by subst e; revert hk; decide) (fun e => by subst e; revert hk; decide)) (fun k hk => h.2 k (fun e => by subst e; revert hk; decide))
theorem r_tw.RD {A : mS} {W0 W : rW} (h : r_tw W0 W) (h0 : r_RD A W0) : r_RD A W := h0.cong (fun k hk => h.1 k (fun e => by subst e; revert hk; decide) (fun e => by subst e; revert hk; decide)) (h.2 5 (by decide))
theorem r_tw.g5 {W0 W : rW} (h : r_tw W0 W) (i : Nat) (x : Int32) : r_tw W0 (gset W 15 i x) := ⟨fun k a b => by rw [gset_k _ _ _ a]; exact h.1 k a b, h.2⟩
theorem r_tw.g6 {W0 W : rW} (h : r_tw W0 W) (i : Nat) (x : Int32) : r_tw W0 (gset W 16 i x) := ⟨fun k a b => by rw [gset_k _ _ _ b]; exact h.1 k a b, h.2⟩
theorem r_tw.h7 {W0 W : rW} (h : r_tw W0 W) (x : Int32) : r_tw W0 (hset W 17 x) := ⟨h.1, fun k a => by rw [hset_n _ _ a]; exact h.2 k a⟩
/-- the pile, from its bottom -/
def r_hT (f g : Nat → Int32) (T : List (Nat × Int32)) : Prop := ∀ i e, T[i]? = some e → f i = nI e.1 ∧ g i = e.2
def r_hd (f g : Nat → Int32) (s : Nat) (l : List Nat) (a : Int32) : Prop := ∀ i x, l[i]? = some x → f (s + i) = nI x ∧ g (s + i) = a
theorem r_hT_app {f g : Nat → Int32} {T : List (Nat × Int32)} {l : List Nat} {a : Int32} (h : r_hT f g T) (h2 : r_hd f g T.length l a) : r_hT f g (T ++ l.map (fun x => (x, a))) := by
  intro i e he
  by_cases hi : i < T.length
  · rw [List.getElem?_append_left hi] at he
    exact h i e he
  · rw [List.getElem?_append_right (by omega), List.getElem?_map] at he
    cases hx : l[i - T.length]? with
    | none => rw [hx] at he; cases he
    | some x =>
      rw [hx] at he
      cases he
      have := h2 (i - T.length) x hx
      rw [show T.length + (i - T.length) = i by omega] at this
      exact this
theorem r_hd_rev {f g : Nat → Int32} {s : Nat} {x : Nat} {l : List Nat} {a : Int32} (h : r_hd f g s (x :: l).reverse a) : f (s + l.length) = nI x ∧ g (s + l.length) = a := by
  refine h l.length x ?_
  rw [List.reverse_cons, List.getElem?_append_right (by rw [List.length_reverse]; exact Nat.le_refl _), List.length_reverse, Nat.sub_self]
  rfl
section RL
variable {ext : av_X} {X : rX} {W : rW} {A : mS}
theorem r_lay (hI : m_Inv A) (h : r_RD A W) (c : Nat ⊕ Nat) (hc : match c with | .inl p => p < m_nD A | .inr m => m < m_nM A) (a : Int32) (T : List (Nat × Int32)) (h17 : W.2 17 = nI T.length) (hT : r_hT (W.1 15) (W.1 16) T) (hlen : T.length + m_nD A ≤ 1000) : rCv ext X 0 81 [.ref X.1, .int (m_cI c), .int a] W (fun W' => r_tw W W' ∧ W'.2 17 = nI (T ++ (m_kids A c).reverse.map (fun x => (x, a))).length ∧ r_hT (W'.1 15) (W'.1 16) (T ++ (m_kids A c).reverse.map (fun x => (x, a)))) := by
  have hD := hI.2.2.1
  have hM5 := hI.2.1.1
  refine rCv.of (L := [some (.ref X.1), some (.int (m_cI c)), some (.int a), none, none, none, none]) (by rw [ml81]; rfl) ?_
  refine br81_0 ?_
  rw [h17]
  generalize hQ : (fun (r : Option Value) (W' : rW) => r = none ∧ r_tw W W' ∧ W'.2 17 = nI (T ++ (m_kids A c).reverse.map (fun x => (x, a))).length ∧ r_hT (W'.1 15) (W'.1 16) (T ++ (m_kids A c).reverse.map (fun x => (x, a)))) = Q
  -- the place for k is sought: l1 has gone up by one
  have shift : ∀ (l2 l1 : List Nat) (k : Nat) (W1 : rW) (x5 : Int32), k < m_nD A → r_tw W W1 → r_hT (W1.1 15) (W1.1 16) T → (∀ x ∈ l2, x < m_nD A) → T.length + l2.length + l1.length < 1000 → (∀ x ∈ l1, m_od A x ≤ m_od A k) → r_hd (W1.1 15) (W1.1 16) T.length l2.reverse a → r_hd (W1.1 15) (W1.1 16) (T.length + l2.length + 1) l1.reverse a →
      (∀ (W2 : rW) (x6 : Int32), r_tw W W2 → W2.2 17 = W1.2 17 + 1 → r_hT (W2.1 15) (W2.1 16) T → r_hd (W2.1 15) (W2.1 16) T.length (m_ins (m_od A) k (l1 ++ l2)).reverse a → rA ext X 0 81 179 [some (.ref X.1), some (.int (m_cI c)), some (.int a), some (.int (nI T.length)), some (.int (nI k)), some (.int x5), some (.int x6)] [] W2 Q) →
      rA ext X 0 81 84 [some (.ref X.1), some (.int (m_cI c)), some (.int a), some (.int (nI T.length)), some (.int (nI k)), some (.int x5), some (.int (nI (T.length + l2.length)))] [] W1 Q := by
    intro l2
    induction l2 with
    | nil =>
      intro l1 k W1 x5 hk htw hT1 hl2 hln ho h2 h1 kk
      have hln' : T.length + 0 + l1.length < 1000 := hln
      refine br81_84 (fun _ => ?_) (fun e => absurd (nI_le (Nat.le_refl _) (by omega)) e)
      refine br81_152 (i_1 := T.length) (i_4 := T.length) rfl (by omega) rfl (by omega) ?_
      refine kk _ _ (((htw.g5 _ _).g6 _ _).h7 _) (by rw [hset_s]; rfl) (fun i e he => ?_) (fun i x hx => ?_)
      · rw [hset_1, gset_e, gset_k _ _ _ (show (15 : Nat) ≠ 16 by decide), gset_e, gset_k _ _ _ (show (16 : Nat) ≠ 15 by decide)]
        have hi := (List.getElem?_eq_some_iff.mp he).1
        rw [va_up_ne _ _ (by omega), va_up_ne _ _ (by omega)]
        exact hT1 i e he
      · rw [m_ins_at _ _ l1 [] ho (fun x l e => by cases e)] at hx
        rw [hset_1, gset_e, gset_k _ _ _ (show (15 : Nat) ≠ 16 by decide), gset_e, gset_k _ _ _ (show (16 : Nat) ≠ 15 by decide)]
        rw [List.reverse_append] at hx
        cases i with
        | zero =>
          cases hx
          rw [show T.length + 0 = T.length from rfl, va_up_self, va_up_self]
          exact ⟨rfl, rfl⟩
        | succ i =>
          have hx' : l1.reverse[i]? = some x := hx
          rw [va_up_ne _ _ (by omega), va_up_ne _ _ (by omega)]
          have := h1 i x hx'
          rw [show T.length + ([] : List Nat).length + 1 + i = T.length + (i + 1) by show T.length + 0 + 1 + i = _; omega] at this
          exact this
    | cons y l2 ih =>
      intro l1 k W1 x5 hk htw hT1 hl2 hln ho h2 h1 kk
      have hln' : T.length + (l2.length + 1) + l1.length < 1000 := hln
      have hR := htw.RD h
      have hyl := hl2 y List.mem_cons_self
      obtain ⟨f1, f2⟩ := r_hd_rev h2
      refine br81_84 (fun e => absurd e (nI_ge (by show T.length < T.length + (l2.length + 1); omega) (by show T.length + (l2.length + 1) < _; omega))) (fun _ => ?_)
      have ep : nI (T.length + (l2.length + 1)) - 1 = nI (T.length + l2.length) := nI_pred _
      have hod1 := (hI.2.2.2.1 k hk).2.1
      have hod2 := (hI.2.2.2.1 y hyl).2.1
      refine br81_90 (i_1 := T.length + l2.length) (i_4 := y) (i_7 := k) ep (by omega) f1 (by omega) rfl (by omega) (fun e => ?_) (fun e => ?_)
      · rw [(hR.1.2.1 k hk).2.2.1, (hR.1.2.1 y hyl).2.2.1, nI_ltI (by omega) (by omega)] at e
        refine br81_152 (i_1 := T.length + (l2.length + 1)) (i_4 := T.length + (l2.length + 1)) rfl (by omega) rfl (by omega) ?_
        refine kk _ _ (((htw.g5 _ _).g6 _ _).h7 _) (by rw [hset_s]; rfl) (fun i x he => ?_) (fun i x hx => ?_)
        · rw [hset_1, gset_e, gset_k _ _ _ (show (15 : Nat) ≠ 16 by decide), gset_e, gset_k _ _ _ (show (16 : Nat) ≠ 15 by decide)]
          have hi := (List.getElem?_eq_some_iff.mp he).1
          rw [va_up_ne _ _ (by omega), va_up_ne _ _ (by omega)]
          exact hT1 i x he
        · rw [m_ins_at _ _ l1 (y :: l2) ho (fun x l e2 => by cases e2; omega)] at hx
          rw [hset_1, gset_e, gset_k _ _ _ (show (15 : Nat) ≠ 16 by decide), gset_e, gset_k _ _ _ (show (16 : Nat) ≠ 15 by decide)]
          rw [List.reverse_append, List.reverse_cons, List.append_assoc] at hx
          have hl : (y :: l2).reverse.length = l2.length + 1 := by rw [List.length_reverse]; rfl
          by_cases c1 : i < l2.length + 1
          · rw [List.getElem?_append_left (by rw [hl]; exact c1)] at hx
            rw [va_up_ne _ _ (by omega), va_up_ne _ _ (by omega)]
            exact h2 i x hx
          · rw [List.getElem?_append_right (by rw [hl]; omega), hl] at hx
            by_cases c2 : i = l2.length + 1
            · subst c2
              rw [Nat.sub_self] at hx
              cases hx
              rw [va_up_self, va_up_self]
              exact ⟨rfl, rfl⟩
            · rw [show i - (l2.length + 1) = (i - (l2.length + 2)) + 1 by omega] at hx
              have hx' : l1.reverse[i - (l2.length + 2)]? = some x := hx
              rw [va_up_ne _ _ (by omega), va_up_ne _ _ (by omega)]
              have := h1 _ x hx'
              rw [show T.length + (y :: l2).length + 1 + (i - (l2.length + 2)) = T.length + i by show T.length + (l2.length + 1) + 1 + _ = _; omega] at this
              exact this
      · rw [(hR.1.2.1 k hk).2.2.1, (hR.1.2.1 y hyl).2.2.1, nI_ltI (by omega) (by omega)] at e
        refine br81_114 (i_1 := T.length + l2.length) (i_4 := T.length + (l2.length + 1)) (i_7 := T.length + l2.length) (i_10 := T.length + (l2.length + 1)) ep (by omega) rfl (by omega) ep (by omega) rfl (by omega) ?_
        have e1 : nI (T.length + (y :: l2).length) + (-1) = nI (T.length + l2.length) := pk_m1 _
        rw [e1, gset_k _ _ _ (show (16 : Nat) ≠ 15 by decide), f1, f2]
        refine ih (l1 ++ [y]) k _ x5 hk ((htw.g5 _ _).g6 _ _) ?_ (fun x hx => hl2 x (List.mem_cons_of_mem _ hx)) (by rw [List.length_append]; show T.length + l2.length + (l1.length + 1) < 1000; omega) (fun x hx => ?_) ?_ ?_ ?_
        · intro i x he
          rw [gset_e, gset_k _ _ _ (show (15 : Nat) ≠ 16 by decide), gset_e, gset_k _ _ _ (show (16 : Nat) ≠ 15 by decide)]
          have hi := (List.getElem?_eq_some_iff.mp he).1
          rw [va_up_ne _ _ (by omega), va_up_ne _ _ (by omega)]
          exact hT1 i x he
        · rcases List.mem_append.mp hx with hx | hx
          · exact ho x hx
          · rw [List.mem_singleton.mp hx]; omega
        · intro i x hx
          have hi := (List.getElem?_eq_some_iff.mp hx).1
          rw [List.length_reverse] at hi
          rw [gset_e, gset_k _ _ _ (show (15 : Nat) ≠ 16 by decide), gset_e, gset_k _ _ _ (show (16 : Nat) ≠ 15 by decide)]
          rw [va_up_ne _ _ (by omega), va_up_ne _ _ (by omega)]
          refine h2 i x ?_
          rw [List.reverse_cons, List.getElem?_append_left (by rw [List.length_reverse]; exact hi)]
          exact hx
        · intro i x hx
          rw [gset_e, gset_k _ _ _ (show (15 : Nat) ≠ 16 by decide), gset_e, gset_k _ _ _ (show (16 : Nat) ≠ 15 by decide)]
          rw [List.reverse_append] at hx
          cases i with
          | zero =>
            cases hx
            rw [show T.length + l2.length + 1 + 0 = T.length + (l2.length + 1) by omega, va_up_self, va_up_self]
            exact ⟨rfl, rfl⟩
          | succ i =>
            have hx' : l1.reverse[i]? = some x := hx
            rw [va_up_ne _ _ (by omega), va_up_ne _ _ (by omega)]
            have := h1 i x hx'
            rw [show T.length + (y :: l2).length + 1 + i = T.length + l2.length + 1 + (i + 1) by show T.length + (l2.length + 1) + 1 + i = _; omega] at this
            exact this
        · intro W2 x6 q1 q2 q3 q4
          rw [List.append_assoc] at q4
          exact kk W2 x6 q1 q2 q3 q4
  -- all of them
  have loop : ∀ (n k : Nat) (W1 : rW) (o5 o6 : Option Value), k + n = m_nD A → r_tw W W1 → W1.2 17 = nI (T.length + (m_kf A c k).length) → r_hT (W1.1 15) (W1.1 16) T → r_hd (W1.1 15) (W1.1 16) T.length (m_kf A c k).reverse a → rA ext X 0 81 8 [some (.ref X.1), some (.int (m_cI c)), some (.int a), some (.int (nI T.length)), some (.int (nI k)), o5, o6] [] W1 Q := by
    intro n
    induction n with
    | zero =>
      intro k W1 o5 o6 hk htw h17 hT1 h1
      have hn : W1.2 5 = nI (m_nD A) := (htw.RD h).1.1
      have ek : k = m_nD A := by omega
      refine br81_8 (fun _ => ?_) (fun e => absurd (by rw [hn]; exact nI_le (by omega) (by omega)) e)
      refine br81_185 ?_
      rw [← hQ]
      subst ek
      refine ⟨rfl, htw, ?_, r_hT_app hT1 h1⟩
      rw [h17, List.length_append, List.length_map, List.length_reverse]
      rfl
    | succ n ih =>
      intro k W1 o5 o6 hk htw h17 hT1 h1
      have hR := htw.RD h
      have hn : W1.2 5 = nI (m_nD A) := hR.1.1
      have hkl : k < m_nD A := by omega
      have hu := r_un hI.J hR hkl
      have hu2 : ∀ p, m_un A k = some p → p < 2147483648 := fun p hp => by have := hu.2 p hp; omega
      have hkf := m_kf_len A c k
      refine br81_8 (fun e => absurd e (by rw [hn]; exact nI_ge (by omega) (by omega))) (fun _ => ?_)
      have fin : rA ext X 0 81 68 [some (.ref X.1), some (.int (m_cI c)), some (.int a), some (.int (nI T.length)), some (.int (nI k)), o5, o6] [.int (bI (m_isK A c k))] W1 Q := by
        refine br81_68 (fun e => ?_) (fun e => ?_)
        · have ek : m_isK A c k = true := by
            cases hq : m_isK A c k with
            | true => rfl
            | false => rw [hq] at e; exact absurd rfl e
          refine br81_78 ?_
          rw [h17]
          refine shift (m_kf A c k) [] k W1 _ hkl htw hT1 (fun x hx => by have := ((m_kf_mem A c k x).mp hx).1; omega) (by show T.length + (m_kf A c k).length + 0 < 1000; omega) (fun x hx => by cases hx) h1 (fun i x hx => by cases hx) (fun W2 x6 q1 q2 q3 q4 => ?_)
          refine br81_179 ?_
          rw [nI_1]
          have e2 : m_kf A c (k + 1) = m_ins (m_od A) k ([] ++ m_kf A c k) := by rw [m_kf, if_pos ek]; rfl
          refine ih (k + 1) W2 _ _ (by omega) q1 ?_ q3 (by rw [e2]; exact q4)
          rw [q2, h17, e2, m_ins_len, nI_1]
          rfl
        · have ek : m_isK A c k = false := bI_0.mp e
          refine br81_75 (br81_179 ?_)
          rw [nI_1]
          have e2 : m_kf A c (k + 1) = m_kf A c k := by rw [m_kf, if_neg (by rw [ek]; decide)]
          exact ih (k + 1) W1 _ _ (by omega) htw (by rw [e2]; exact h17) hT1 (by rw [e2]; exact h1)
      cases c with
      | inl p =>
        have hp : p < m_nD A := hc
        refine br81_17 (fun e => absurd e (nI_pos (by omega))) (fun _ => ?_)
        refine br81_21 (i_1 := k) rfl (by omega) (fun e => ?_) (fun e => ?_)
        · have e : ¬ W1.1 7 k = nI p := e
          rw [hu.1, oI_eq hu2 (by omega)] at e
          rw [show m_isK A (.inl p) k = false from decide_eq_false e] at fin
          exact br81_36 fin
        · have e : W1.1 7 k = nI p := e
          rw [hu.1, oI_eq hu2 (by omega)] at e
          rw [show m_isK A (.inl p) k = true from decide_eq_true e] at fin
          exact br81_32 fin
      | inr mm =>
        have hm : mm < m_nM A := hc
        have hneg : m_cI (.inr mm) < 0 := by
          show -1 - nI mm < 0
          have : mm = 0 ∨ mm = 1 ∨ mm = 2 ∨ mm = 3 ∨ mm = 4 := by omega
          rcases this with rfl | rfl | rfl | rfl | rfl <;> decide
        have hback : -1 - m_cI (.inr mm) = nI mm := by
          show -1 - (-1 - nI mm) = nI mm
          have : mm = 0 ∨ mm = 1 ∨ mm = 2 ∨ mm = 3 ∨ mm = 4 := by omega
          rcases this with rfl | rfl | rfl | rfl | rfl <;> decide
        refine br81_17 (fun _ => ?_) (fun e => absurd hneg e)
        refine br81_40 (i_1 := k) rfl (by omega) (fun e => ?_) (fun e => ?_)
        · rw [hu.1] at e
          have hz : m_un A k ≠ none := fun q => by rw [q] at e; exact absurd e (by decide)
          rw [show m_isK A (.inr mm) k = false by show (decide (m_un A k = none) && decide (m_mp A k = mm)) = false; rw [decide_eq_false hz]; rfl] at fin
          exact br81_67 fin
        · rw [hu.1] at e
          have hz : m_un A k = none := (oI_neg hu2).mp (Int32.not_le.mp e)
          refine br81_50 (i_1 := k) rfl (by omega) (fun e2 => ?_) (fun e2 => ?_)
          · rw [hback, (hR.1.2.1 k hkl).1] at e2
            have hz2 : m_mp A k ≠ mm := fun q => e2 (by rw [q])
            rw [show m_isK A (.inr mm) k = false by show (decide (m_un A k = none) && decide (m_mp A k = mm)) = false; rw [decide_eq_false hz2, Bool.and_false]] at fin
            exact br81_67 fin
          · rw [hback, (hR.1.2.1 k hkl).1] at e2
            have hmp := (hI.2.2.2.1 k hkl).1
            have hz2 : m_mp A k = mm := (nI_eq (by omega) (by omega)).mp e2
            rw [show m_isK A (.inr mm) k = true by show (decide (m_un A k = none) && decide (m_mp A k = mm)) = true; rw [decide_eq_true hz, decide_eq_true hz2]; rfl] at fin
            exact br81_63 fin
  exact loop (m_nD A) 0 W _ _ (Nat.zero_add _) (r_tw.rf W) h17 hT (fun i x hx => by cases hx)
end RL
