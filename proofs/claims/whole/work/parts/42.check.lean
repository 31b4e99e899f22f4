/-! FAULTS -/
def m_same (A : mS) (d k : Nat) : Bool := decide (m_mp A k = m_mp A d) && (decide (m_un A k = m_un A d) && decide (m_od A k = m_od A d))
def m_far1 (A : mS) (e : Nat × Nat × Nat) : Bool := decide (m_fz A e.1 < e.2.2)
def m_far (A : mS) (d : Nat) : Bool := (m_lk A d).any (m_far1 A)
def m_emp (A : mS) (d : Nat) : Bool := decide ((m_lk A d).length = 0) && (decide (m_kidn A (m_nD A) d = 0) && decide (m_rp A d = none))
def m_w1 (b : Bool) (w f : Nat) : List (Nat × Nat) := if b = true then [(w, f)] else []
def m_fd (A : mS) (d : Nat) : List (Nat × Nat) := m_w1 (m_emp A d) 1 d ++ (m_w1 (m_any (m_same A d) 0 d) 2 d ++ m_w1 (m_far A d) 3 d)
/-- in how many steps a place of a file is -/
def m_in (f x : Nat) (e : Nat × Nat × Nat × Nat × Nat) : Bool := decide (e.2.1 = f) && (decide (e.2.2.1 ≤ x) && decide (x < e.2.2.2.1))
def m_cov (ss : List (Nat × Nat × Nat × Nat × Nat)) (f x : Nat) : Nat := (ss.filter (m_in f x)).length
noncomputable def m_twi (ss : List (Nat × Nat × Nat × Nat × Nat)) (f n : Nat) : Bool := @decide (∃ x, x < n ∧ 1 < m_cov ss f x) (Classical.propDecidable _)
noncomputable def m_non (ss : List (Nat × Nat × Nat × Nat × Nat)) (f n : Nat) : Bool := @decide (∃ x, x < n ∧ m_cov ss f x = 0) (Classical.propDecidable _)
theorem m_twi_iff {ss : List (Nat × Nat × Nat × Nat × Nat)} {f n : Nat} : m_twi ss f n = true ↔ ∃ x, x < n ∧ 1 < m_cov ss f x := @decide_eq_true_iff _ (Classical.propDecidable _)
theorem m_non_iff {ss : List (Nat × Nat × Nat × Nat × Nat)} {f n : Nat} : m_non ss f n = true ↔ ∃ x, x < n ∧ m_cov ss f x = 0 := @decide_eq_true_iff _ (Classical.propDecidable _)
noncomputable def m_ff (A : mS) (ss : List (Nat × Nat × Nat × Nat × Nat)) (f : Nat) : List (Nat × Nat) := m_w1 (m_twi ss f (m_fz A f)) 4 f ++ m_w1 (m_non ss f (m_fz A f)) 5 f
noncomputable def m_faults (A : mS) (m : Nat) : List (Nat × Nat) := ((List.range (m_nD A)).filter (fun d => decide (m_mp A d = m))).flatMap (m_fd A) ++ (if m_kd A m = 0 then (List.range (m_nF A)).flatMap (m_ff A (m_steps A m)) else [])
noncomputable def sp_check (A : mS) (m : Int32) : Int32 × mS := if 0 ≤ m ∧ m ≤ nI (m_nM A) - 1 then (nI (m_faults A m.toNatClampNeg).length, m_wT A (m_faults A m.toNatClampNeg)) else (-1, A)
theorem m_w1_len (b : Bool) (w f : Nat) : (m_w1 b w f).length = if b = true then 1 else 0 := by
  unfold m_w1
  cases b <;> rfl
theorem m_fd_len (A : mS) (d : Nat) : (m_fd A d).length ≤ 2 := by
  unfold m_fd
  rw [List.length_append, List.length_append, m_w1_len, m_w1_len, m_w1_len]
  cases h1 : m_emp A d with
  | false =>
    rw [if_neg (by decide)]
    cases m_any (m_same A d) 0 d <;> cases m_far A d <;> decide
  | true =>
    have h2 : m_far A d = false := by
      unfold m_emp at h1
      rw [Bool.and_eq_true, decide_eq_true_eq] at h1
      unfold m_far
      rw [List.eq_nil_of_length_eq_zero h1.1]
      rfl
    rw [h2]
    cases m_any (m_same A d) 0 d <;> decide
theorem flat2_len {α : Type} {f : Nat → List α} (h : ∀ x, (f x).length ≤ 2) : ∀ (l : List Nat), (l.flatMap f).length ≤ 2 * l.length
  | [] => Nat.le_refl _
  | a :: l => by
    rw [List.flatMap_cons, List.length_append, List.length_cons]
    have := flat2_len h l
    have := h a
    omega
theorem m_faults_len {A : mS} (hI : m_Inv A) (m : Nat) : (m_faults A m).length ≤ 300 := by
  have hD := hI.2.2.1
  have hF := hI.1.1
  unfold m_faults
  rw [List.length_append]
  have h1 := flat2_len (m_fd_len A) ((List.range (m_nD A)).filter (fun d => decide (m_mp A d = m)))
  have h2 : ((List.range (m_nD A)).filter (fun d => decide (m_mp A d = m))).length ≤ m_nD A := Nat.le_trans (List.length_filter_le _ _) (by rw [List.length_range]; exact Nat.le_refl _)
  have h3 : (if m_kd A m = 0 then (List.range (m_nF A)).flatMap (m_ff A (m_steps A m)) else []).length ≤ 60 := by
    by_cases e : m_kd A m = 0
    · rw [if_pos e]
      have := flat2_len (f := m_ff A (m_steps A m)) (fun x => by
        unfold m_ff
        rw [List.length_append, m_w1_len, m_w1_len]
        cases m_twi (m_steps A m) x (m_fz A x) <;> cases m_non (m_steps A m) x (m_fz A x) <;> decide) (List.range (m_nF A))
      rw [List.length_range] at this
      omega
    · rw [if_neg e]
      exact Nat.zero_le _
  omega
/-- what blaming changes -/
def r_bw (W0 W : rW) : Prop := (∀ k, k ≠ 30 → k ≠ 31 → W.1 k = W0.1 k) ∧ ∀ k, k ≠ 29 → W.2 k = W0.2 k
theorem r_bw.rf (W : rW) : r_bw W W := ⟨fun _ _ _ => rfl, fun _ _ => rfl⟩
theorem r_bw.tr {W0 W1 W2 : rW} (h : r_bw W0 W1) (h2 : r_bw W1 W2) : r_bw W0 W2 := ⟨fun k a b => (h2.1 k a b).trans (h.1 k a b), fun k a => (h2.2 k a).trans (h.2 k a)⟩
/-- all but the faults -/
def r_RB (A : mS) (W : rW) : Prop := r_gF A (W.1 2) (W.2 1) ∧ r_gM A (W.1 4) (W.2 3) ∧ r_RD A W ∧ r_gS A (W.1 26) (W.2 25) ∧ r_gP A (W.1 33) (W.2 32)
theorem r_RA.B {A : mS} {W : rW} (h : r_RA A W) : r_RB A W := ⟨h.1, h.2.1, h.D, h.2.2.2.2.1, h.2.2.2.2.2.2⟩
theorem r_RB.cong {A : mS} {W W' : rW} (h : r_RB A W) (h1 : ∀ k, k ∈ [2, 4, 6, 7, 8, 9, 10, 11, 12, 13, 14, 26, 33] → W'.1 k = W.1 k) (h2 : ∀ k, k ∈ [1, 3, 5, 25, 32] → W'.2 k = W.2 k) : r_RB A W' := by
  refine ⟨?_, ?_, h.2.2.1.cong (fun k hk => h1 k (by revert hk; simp only [List.mem_cons, List.not_mem_nil, or_false]; omega)) (h2 5 (by decide)), ?_, ?_⟩
  · rw [h1 2 (by decide), h2 1 (by decide)]; exact h.1
  · rw [h1 4 (by decide), h2 3 (by decide)]; exact h.2.1
  · rw [h1 26 (by decide), h2 25 (by decide)]; exact h.2.2.2.1
  · rw [h1 33 (by decide), h2 32 (by decide)]; exact h.2.2.2.2
theorem r_bw.RB {A : mS} {W0 W : rW} (h : r_bw W0 W) (h0 : r_RB A W0) : r_RB A W := h0.cong (fun k hk => h.1 k (fun e => by subst e; revert hk; decide) (fun e => by subst e; revert hk; decide)) (fun k hk => h.2 k (fun e => by subst e; revert hk; decide))
theorem r_RB.T {A : mS} {W : rW} {l : List (Nat × Nat)} (h : r_RB A W) (hT : r_gT (m_wT A l) (W.1 30) (W.1 31) (W.2 29)) : r_RA (m_wT A l) W := ⟨h.1, h.2.1, h.2.2.1.1, h.2.2.1.2, h.2.2.2.1, hT, h.2.2.2.2⟩
section RC
variable {ext : av_X} {X : rX} {W : rW} {A : mS}
theorem r_blame {l : List (Nat × Nat)} (h : r_gT (m_wT A l) (W.1 30) (W.1 31) (W.2 29)) (hl : l.length < 500) (w f : Nat) : rCv ext X 0 88 [.ref X.1, .int (nI w), .int (nI f)] W (fun W' => r_bw W W' ∧ r_gT (m_wT A (l ++ [(w, f)])) (W'.1 30) (W'.1 31) (W'.2 29)) := by
  refine rCv.of (L := [some (.ref X.1), some (.int (nI w)), some (.int (nI f))]) (by rw [ml88]; rfl) ?_
  have hn : W.2 29 = nI l.length := h.1
  refine br88_0 (i_1 := l.length) (i_4 := l.length) hn hl hn hl ⟨rfl, ⟨fun k a b => ?_, fun k a => ?_⟩, ?_, fun i x hx => ?_⟩
  · rw [hset_1, gset_k _ _ _ b, gset_k _ _ _ a]
  · rw [hset_n _ _ a]; rfl
  · rw [hset_s]
    show W.2 29 + 1 = nI (l ++ [(w, f)]).length
    rw [hn, nI_1, List.length_append]
    rfl
  · rw [hset_1, gset_k _ _ _ (show (30 : Nat) ≠ 31 by decide), gset_e, gset_e, gset_k _ _ _ (show (31 : Nat) ≠ 30 by decide)]
    have hx' : (l ++ [(w, f)])[i]? = some x := hx
    by_cases c1 : i < l.length
    · rw [List.getElem?_append_left c1] at hx'
      rw [va_up_ne _ _ (by omega), va_up_ne _ _ (by omega)]
      exact h.2 i x hx'
    · rw [List.getElem?_append_right (by omega)] at hx'
      have hj : i - l.length < 1 := (List.getElem?_eq_some_iff.mp hx').1
      have ej : i = l.length := by omega
      subst ej
      rw [Nat.sub_self] at hx'
      cases hx'
      rw [va_up_self, va_up_self]
      exact ⟨rfl, rfl⟩
theorem oI_inj {a b : Option Nat} (ha : ∀ p, a = some p → p < 2147483648) (hb : ∀ p, b = some p → p < 2147483648) : oI a = oI b ↔ a = b := by
  cases b with
  | none => exact ⟨fun e => (oI_neg ha).mp (by rw [e]; decide), fun e => by rw [e]⟩
  | some q => exact oI_eq ha (hb q rfl)
set_option maxHeartbeats 1000000 in
theorem r_checkDiv (hI : m_Inv A) (h : r_RB A W) {l : List (Nat × Nat)} (hT : r_gT (m_wT A l) (W.1 30) (W.1 31) (W.2 29)) (hl : l.length + 3 < 500) {d : Nat} (hd : d < m_nD A) : rCv ext X 1 87 [.ref X.1, .int (nI d)] W (fun W' => r_bw W W' ∧ r_gT (m_wT A (l ++ m_fd A d)) (W'.1 30) (W'.1 31) (W'.2 29)) := by
  have hD := hI.2.2.1
  have hF30 := hI.1.1
  refine rCv.of (L := [some (.ref X.1), some (.int (nI d)), none, none, none]) (by rw [ml87]; rfl) ?_
  have hlk := hI.2.2.2.2.2.2.1 d hd
  have hrp : ∀ q, m_rp A d = some q → q < 2147483648 := fun q hq => by have := (hI.2.2.2.2.2.1 d hd q hq).1; omega
  generalize hQ : (fun (r : Option Value) (W' : rW) => r = none ∧ r_bw W W' ∧ r_gT (m_wT A (l ++ m_fd A d)) (W'.1 30) (W'.1 31) (W'.2 29)) = Q
  -- the third
  have third : ∀ (l2 : List (Nat × Nat)) (W2 : rW) (x2 x3 : Int32) (o4 : Option Value), l2.length + 1 < 500 → l2 ++ m_w1 (m_far A d) 3 d = l ++ m_fd A d → r_bw W W2 → r_gT (m_wT A l2) (W2.1 30) (W2.1 31) (W2.2 29) → rA ext X 1 87 112 [some (.ref X.1), some (.int (nI d)), some (.int x2), some (.int x3), o4] [] W2 Q := by
    intro l2 W2 x2 x3 o4 hl2 hrest hw hT2
    have hR := hw.RB h
    refine br87_112 ?_
    have loop : ∀ (n j : Nat) (c : Bool), j + n = (m_lk A d).length → (c || ((m_lk A d).drop j).any (m_far1 A)) = m_far A d → rA ext X 1 87 119 [some (.ref X.1), some (.int (nI d)), some (.int x2), some (.int (bI c)), some (.int (nI (5 * d + j)))] [] W2 Q := by
      intro n
      induction n with
      | zero =>
        intro j c hj hc
        refine br87_119 (i_1 := d) rfl (by omega) (fun _ => ?_) (fun e => absurd (by rw [(hR.2.2.1.1.2.1 d hd).2.2.2.2.2, nI_5]; exact nI_le (by omega) (by omega)) e)
        rw [List.drop_eq_nil_of_le (by omega)] at hc
        have hc' : c = m_far A d := by rw [← hc]; show c = (c || false); rw [Bool.or_false]
        refine br87_172 (fun e => ?_) (fun e => ?_)
        · have ec : c = false := bI_0.mp e
          rw [← hc', ec] at hrest
          rw [show m_w1 false 3 d = [] from rfl, List.append_nil] at hrest
          refine br87_182 ?_
          rw [← hQ, ← hrest]
          exact ⟨rfl, hw, hT2⟩
        · have ec : c = true := by
            cases c with
            | true => rfl
            | false => exact absurd rfl e
          rw [← hc', ec] at hrest
          rw [show m_w1 true 3 d = [(3, d)] from rfl] at hrest
          refine br87_176 (r_blame (A := A) hT2 (by omega) 3 d) ?_
          rintro W3 ⟨p1, p2⟩
          refine br87_182 ?_
          rw [← hQ, ← hrest]
          exact ⟨rfl, hw.tr p1, p2⟩
      | succ n ih =>
        intro j c hj hc
        have hjl : j < (m_lk A d).length := by omega
        have he : (m_lk A d)[j]? = some ((m_lk A d)[j]) := List.getElem?_eq_getElem hjl
        have hmem := List.getElem_mem hjl
        rw [List.drop_eq_getElem_cons hjl, List.any_cons] at hc
        generalize hee : (m_lk A d)[j] = e at he hc hmem
        have hL := hR.2.2.1.2 d j e hd he
        obtain ⟨m1, m2, m3⟩ := hlk.2 e hmem
        have hsz := hI.1.2 e.1 m1
        refine br87_119 (i_1 := d) rfl (by omega) (fun z => absurd z (by rw [(hR.2.2.1.1.2.1 d hd).2.2.2.2.2, nI_5]; exact nI_ge (by omega) (by omega))) (fun _ => ?_)
        have nxt : rA ext X 1 87 165 [some (.ref X.1), some (.int (nI d)), some (.int x2), some (.int (bI c)), some (.int (nI (5 * d + j)))] [.int (bI (c || m_far1 A e))] W2 Q := by
          refine br87_165 ?_
          rw [nI_1]
          exact ih (j + 1) _ (by omega) (by rw [Bool.or_assoc]; exact hc)
        refine br87_134 (fun z => ?_) (fun z => ?_)
        · have ec : c = true := by
            cases c with
            | true => rfl
            | false => exact absurd rfl z
          rw [ec, Bool.true_or] at nxt
          rw [ec]
          exact br87_160 nxt
        · have ec : c = false := bI_0.mp z
          rw [ec, Bool.false_or] at nxt
          rw [ec]
          refine br87_138 (i_1 := 5 * d + j) (i_4 := 5 * d + j) (i_7 := e.1) rfl (by omega) rfl (by omega) hL.1 (by omega) (fun y => ?_) (fun y => ?_)
          · rw [hL.2.2, hR.1.2 e.1 m1, nI_leI (by omega) (by omega)] at y
            rw [show m_far1 A e = false from decide_eq_false (by omega)] at nxt
            exact br87_164 nxt
          · rw [hL.2.2, hR.1.2 e.1 m1, nI_leI (by omega) (by omega)] at y
            rw [show m_far1 A e = true from decide_eq_true (by omega)] at nxt
            exact br87_160 nxt
    have := loop (m_lk A d).length 0 false (Nat.zero_add _) (by rw [Bool.false_or]; rfl)
    rw [show (5 : Int32) * nI d = nI (5 * d + 0) by show nI 5 * nI d = _; rw [pk_mul]; rfl]
    exact this
  -- the second
  have second : ∀ (l1 : List (Nat × Nat)) (W2 : rW) (o2 o3 o4 : Option Value), l1.length + 2 < 500 → l1 ++ (m_w1 (m_any (m_same A d) 0 d) 2 d ++ m_w1 (m_far A d) 3 d) = l ++ m_fd A d → r_bw W W2 → r_gT (m_wT A l1) (W2.1 30) (W2.1 31) (W2.2 29) → rA ext X 1 87 32 [some (.ref X.1), some (.int (nI d)), o2, o3, o4] [] W2 Q := by
    intro l1 W2 o2 o3 o4 hl1 hrest hw hT2
    have hR := hw.RB h
    refine br87_32 ?_
    have loop : ∀ (n k : Nat) (c : Bool), k + n = d → (c || m_any (m_same A d) k n) = m_any (m_same A d) 0 d → rA ext X 1 87 36 [some (.ref X.1), some (.int (nI d)), some (.int (bI c)), some (.int (nI k)), o4] [] W2 Q := by
      intro n
      induction n with
      | zero =>
        intro k c hk hc
        rw [m_any, Bool.or_false] at hc
        refine br87_36 (fun _ => ?_) (fun e => absurd (nI_le (by omega) (by omega)) e)
        refine br87_102 (fun e => ?_) (fun e => ?_)
        · have ec : c = false := bI_0.mp e
          rw [← hc, ec, show m_w1 false 2 d = [] from rfl, List.nil_append] at hrest
          exact third l1 W2 _ _ _ (by omega) hrest hw hT2
        · have ec : c = true := by
            cases c with
            | true => rfl
            | false => exact absurd rfl e
          rw [← hc, ec, show m_w1 true 2 d = [(2, d)] from rfl, ← List.append_assoc] at hrest
          refine br87_106 (r_blame (A := A) hT2 (by omega) 2 d) ?_
          rintro W3 ⟨p1, p2⟩
          exact third (l1 ++ [(2, d)]) W3 _ _ _ (by rw [List.length_append]; show l1.length + 1 + 1 < 500; omega) hrest (hw.tr p1) p2
      | succ n ih =>
        intro k c hk hc
        have hkl : k < m_nD A := by omega
        rw [m_any, ← Bool.or_assoc] at hc
        refine br87_36 (fun e => absurd e (nI_ge (by omega) (by omega))) (fun _ => ?_)
        have nxt : rA ext X 1 87 95 [some (.ref X.1), some (.int (nI d)), some (.int (bI c)), some (.int (nI k)), o4] [.int (bI (c || m_same A d k))] W2 Q := by
          refine br87_95 ?_
          rw [nI_1]
          exact ih (k + 1) _ (by omega) hc
        have rd := hR.2.2.1.1.2.1 d hd
        have rk := hR.2.2.1.1.2.1 k hkl
        refine br87_41 (fun z => ?_) (fun z => ?_)
        · have ec : c = true := by
            cases c with
            | true => rfl
            | false => exact absurd rfl z
          rw [ec, Bool.true_or] at nxt
          rw [ec]
          exact br87_90 nxt
        · have ec : c = false := bI_0.mp z
          rw [ec, Bool.false_or] at nxt
          rw [ec]
          have id := hI.2.2.2.1 d hd
          have ik := hI.2.2.2.1 k hkl
          have hM5 := hI.2.1.1
          have no : m_same A d k = false → rA ext X 1 87 94 [some (.ref X.1), some (.int (nI d)), some (.int (bI false)), some (.int (nI k)), o4] [] W2 Q := fun z => by
            rw [z] at nxt
            exact br87_94 nxt
          refine br87_45 (i_1 := k) (i_4 := d) rfl (by omega) rfl (by omega) (fun e1 => ?_) (fun e1 => ?_)
          · rw [rk.1, rd.1] at e1
            refine no ?_
            unfold m_same
            rw [decide_eq_false (fun q => e1 (by rw [q]))]
            rfl
          · rw [rk.1, rd.1] at e1
            have q1 : m_mp A k = m_mp A d := (nI_eq (by omega) (by omega)).mp e1
            refine br87_60 (i_1 := k) (i_4 := d) rfl (by omega) rfl (by omega) (fun e2 => ?_) (fun e2 => ?_)
            · rw [rk.2.1, rd.2.1, oI_inj (fun p hp => by have := hI.J.un hkl hp; omega) (fun p hp => by have := hI.J.un hd hp; omega)] at e2
              refine no ?_
              unfold m_same
              rw [decide_eq_false e2]
              simp
            · rw [rk.2.1, rd.2.1, oI_inj (fun p hp => by have := hI.J.un hkl hp; omega) (fun p hp => by have := hI.J.un hd hp; omega)] at e2
              refine br87_75 (i_1 := k) (i_4 := d) rfl (by omega) rfl (by omega) (fun e3 => ?_) (fun e3 => ?_)
              · rw [rk.2.2.1, rd.2.2.1] at e3
                refine no ?_
                unfold m_same
                rw [decide_eq_false (show ¬ m_od A k = m_od A d from fun q => e3 (by rw [q])), Bool.and_false, Bool.and_false]
              · rw [rk.2.2.1, rd.2.2.1] at e3
                have q3 : m_od A k = m_od A d := (nI_eq (by omega) (by omega)).mp e3
                rw [show m_same A d k = true by unfold m_same; rw [decide_eq_true q1, decide_eq_true e2, decide_eq_true q3]; rfl] at nxt
                exact br87_90 nxt
    exact loop d 0 false (Nat.zero_add _) (by rw [Bool.false_or])
  -- the first
  have hRD := h.2.2.1
  have rd := hRD.1.2.1 d hd
  have no : m_emp A d = false → ∀ (o2 o3 o4 : Option Value), rA ext X 1 87 32 [some (.ref X.1), some (.int (nI d)), o2, o3, o4] [] W Q := fun z o2 o3 o4 =>
    second l W o2 o3 o4 (by omega) (by unfold m_fd; rw [z]; rfl) (r_bw.rf W) hT
  refine br87_0 (i_1 := d) rfl (by omega) (fun e => ?_) (fun e => ?_)
  · rw [rd.2.2.2.2.2] at e
    refine no ?_ _ _ _
    unfold m_emp
    rw [decide_eq_false (fun q => e (by rw [q]; rfl))]
    rfl
  · rw [rd.2.2.2.2.2] at e
    have e1 : (m_lk A d).length = 0 := (nI_eq (by omega) (by decide)).mp e
    refine br87_9 (r_children hI.J hRD hd) ?_
    rintro v W2 ⟨rfl, rfl⟩
    have hkn := m_kidn_le A (m_nD A) d
    refine br87_14 (fun e => ?_) (fun e => ?_)
    · refine no ?_ _ _ _
      unfold m_emp
      rw [decide_eq_false (show ¬ m_kidn A (m_nD A) d = 0 from fun q => e (by rw [q]; rfl))]
      simp
    · have e2 : m_kidn A (m_nD A) d = 0 := (nI_eq (by omega) (by decide)).mp e
      refine br87_17 (i_1 := d) rfl (by omega) (fun e => ?_) (fun e => ?_)
      · rw [rd.2.2.2.2.1] at e
        refine no ?_ _ _ _
        unfold m_emp
        rw [decide_eq_false (show ¬ m_rp A d = none from fun q => by rw [q] at e; exact absurd e (by decide)), Bool.and_false, Bool.and_false]
      · rw [rd.2.2.2.2.1] at e
        have e3 : m_rp A d = none := (oI_neg hrp).mp (Int32.not_le.mp e)
        have he : m_emp A d = true := by unfold m_emp; rw [decide_eq_true e1, decide_eq_true e2, decide_eq_true e3]; rfl
        refine br87_26 (r_blame (A := A) hT (by omega) 1 d) ?_
        rintro W3 ⟨p1, p2⟩
        refine second (l ++ [(1, d)]) W3 _ _ _ (by rw [List.length_append]; show l.length + 1 + 2 < 500; omega) ?_ p1 p2
        unfold m_fd
        rw [he, show m_w1 true 1 d = [(1, d)] from rfl, List.append_assoc]
end RC
