/-! THE REFERENCE'S CALLS: read, print -/
noncomputable def sp_read (A : mS) (m : Int32) : Int32 × mS := if 0 ≤ m ∧ m ≤ nI (m_nM A) - 1 then (nI (m_steps A m.toNatClampNeg).length, m_wS A (m_steps A m.toNatClampNeg)) else (-1, A)
def m_dg1 (n p : Nat) : List Nat := if p ≤ n ∨ p = 1 then [48 + n / p % 10] else []
def m_dig (n : Nat) : List Nat := m_dg1 n 1000 ++ (m_dg1 n 100 ++ (m_dg1 n 10 ++ m_dg1 n 1))
def m_eq1 (A : mS) (d : Nat) : List Nat := if m_rp A d = none then [] else [61]
def m_line (A : mS) (d : Nat) : List Nat := List.replicate (m_depth A d) 32 ++ (m_dig (m_lb A d) ++ (m_eq1 A d ++ [10]))
def m_print (A : mS) (m : Nat) : List Nat := (m_order A m).flatMap (m_line A)
def sp_print (A : mS) (m : Int32) : Int32 × mS := if 0 ≤ m ∧ m ≤ nI (m_nM A) - 1 then (nI (m_print A m.toNatClampNeg).length, m_wP A (m_print A m.toNatClampNeg)) else (-1, A)
/-- the i-th in THE ORDER is under at most i -/
theorem m_ord_dep {A : mS} (hI : m_Inv A) : ∀ (n : Nat) (vs st : List Nat), m_way A vs st → (∀ i x, vs[i]? = some x → m_depth A x ≤ i) → ∀ i x, (vs ++ m_ord A n st)[i]? = some x → m_depth A x ≤ i
  | 0, vs, st, hw, hv => by
    show ∀ i x, (vs ++ [])[i]? = some x → _
    rw [List.append_nil]
    exact hv
  | n + 1, vs, [], hw, hv => by
    show ∀ i x, (vs ++ [])[i]? = some x → _
    rw [List.append_nil]
    exact hv
  | n + 1, vs, d :: st, hw, hv => by
    have e : vs ++ m_ord A (n + 1) (d :: st) = (vs ++ [d]) ++ m_ord A n (m_kids A (.inl d) ++ st) := by rw [List.append_assoc]; rfl
    rw [e]
    refine m_ord_dep hI n (vs ++ [d]) _ (m_way_s hw) (fun i x hx => ?_)
    by_cases c1 : i < vs.length
    · rw [List.getElem?_append_left c1] at hx
      exact hv i x hx
    · rw [List.getElem?_append_right (by omega)] at hx
      have hj : i - vs.length < 1 := (List.getElem?_eq_some_iff.mp hx).1
      have ej : i = vs.length := by omega
      subst ej
      rw [Nat.sub_self] at hx
      cases hx
      have hd : d < m_nD A := hw.2.1 d (List.mem_append_right _ List.mem_cons_self)
      cases hu : m_un A d with
      | none => rw [m_depth_none hu]; exact Nat.zero_le _
      | some p =>
        rw [m_depth_some hI.J hd hu]
        obtain ⟨j, hj⟩ := List.getElem?_of_mem (hw.2.2 d (List.mem_append_right _ List.mem_cons_self) p hu)
        have h1 := hv j p hj
        have h2 := (List.getElem?_eq_some_iff.mp hj).1
        omega
theorem m_dig_len (n : Nat) : (m_dig n).length ≤ 4 := by
  have h : ∀ p, (m_dg1 n p).length ≤ 1 := fun p => by
    unfold m_dg1
    by_cases e : p ≤ n ∨ p = 1
    · rw [if_pos e]; exact Nat.le_refl _
    · rw [if_neg e]; exact Nat.zero_le _
  unfold m_dig
  rw [List.length_append, List.length_append, List.length_append]
  have a := h 1000
  have b := h 100
  have c := h 10
  have d := h 1
  omega
theorem m_line_len (A : mS) (d : Nat) : (m_line A d).length ≤ m_depth A d + 6 := by
  have h := m_dig_len (m_lb A d)
  have h2 : (m_eq1 A d).length ≤ 1 := by
    unfold m_eq1
    by_cases e : m_rp A d = none
    · rw [if_pos e]; exact Nat.zero_le _
    · rw [if_neg e]; exact Nat.le_refl _
  unfold m_line
  rw [List.length_append, List.length_append, List.length_append, List.length_replicate]
  show m_depth A d + ((m_dig (m_lb A d)).length + ((m_eq1 A d).length + 1)) ≤ _
  omega
theorem m_flat_len {A : mS} : ∀ (l : List Nat) (k : Nat), (∀ i x, l[i]? = some x → m_depth A x ≤ k + i) → 2 * (l.flatMap (m_line A)).length ≤ l.length * (2 * k + l.length + 11)
  | [], k, _ => Nat.zero_le _
  | a :: l, k, h => by
    have h1 := h 0 a rfl
    have ih := m_flat_len (A := A) l (k + 1) (fun i x hx => by have := h (i + 1) x hx; omega)
    have h2 := m_line_len A a
    rw [List.flatMap_cons, List.length_append, List.length_cons]
    have e1 : (l.length + 1) * (2 * k + (l.length + 1) + 11) = l.length * (2 * k + (l.length + 1) + 11) + (2 * k + (l.length + 1) + 11) := Nat.succ_mul _ _
    have e2 : l.length * (2 * (k + 1) + l.length + 11) = l.length * (2 * k + (l.length + 1) + 11) + l.length := by
      rw [show 2 * (k + 1) + l.length + 11 = (2 * k + (l.length + 1) + 11) + 1 by omega, Nat.mul_succ]
    have e0 : m_depth A a ≤ k := h1
    omega
theorem m_print_len {A : mS} (hI : m_Inv A) (m : Nat) (hl : (m_order A m).length ≤ m_nD A) : (m_print A m).length ≤ 7860 := by
  have hD := hI.2.2.1
  have h1 := m_ord_dep hI (m_nD A + 1) [] (m_kids A (.inr m)) (m_way_0 m) (fun i x hx => by cases hx)
  have h2 := m_flat_len (A := A) (m_order A m) 0 (fun i x hx => by have := h1 i x hx; omega)
  have h3 : (m_order A m).length * (2 * 0 + (m_order A m).length + 11) ≤ 120 * 131 := Nat.mul_le_mul (by omega) (by omega)
  unfold m_print
  omega
def r_pw (W0 W : rW) : Prop := (∀ k, k ≠ 33 → W.1 k = W0.1 k) ∧ ∀ k, k ≠ 32 → W.2 k = W0.2 k
theorem r_pw.tr {W0 W1 W2 : rW} (h : r_pw W0 W1) (h2 : r_pw W1 W2) : r_pw W0 W2 := ⟨fun k a => (h2.1 k a).trans (h.1 k a), fun k a => (h2.2 k a).trans (h.2 k a)⟩
theorem r_RA.wP {A : mS} {W W' : rW} {l : List Nat} (h : r_RA A W) (hw : r_pw W W') (hP : r_gP (m_wP A l) (W'.1 33) (W'.2 32)) : r_RA (m_wP A l) W' := by
  refine ⟨?_, ?_, ?_, ?_, ?_, ?_, hP⟩
  · rw [hw.1 2 (by decide), hw.2 1 (by decide)]; exact h.1
  · rw [hw.1 4 (by decide), hw.2 3 (by decide)]; exact h.2.1
  · rw [hw.1 6 (by decide), hw.1 7 (by decide), hw.1 8 (by decide), hw.1 9 (by decide), hw.1 10 (by decide), hw.1 11 (by decide), hw.2 5 (by decide)]; exact h.2.2.1
  · rw [hw.1 12 (by decide), hw.1 13 (by decide), hw.1 14 (by decide)]; exact h.2.2.2.1
  · rw [hw.1 26 (by decide), hw.2 25 (by decide)]; exact h.2.2.2.2.1
  · rw [hw.1 30 (by decide), hw.1 31 (by decide), hw.2 29 (by decide)]; exact h.2.2.2.2.2.1
theorem byte_c : ∀ c, c < 128 → ((nI c).toInt8.toInt32).toInt8.toInt32 = nI c := by decide +kernel
section RP
variable {ext : av_X} {X : rX} {W : rW} {A : mS}
theorem r_put {l : List Nat} (h : r_gP (m_wP A l) (W.1 33) (W.2 32)) (hl : l.length < 9000) {c : Nat} (hc : c < 128) : rCv ext X 0 92 [.ref X.1, .int (nI c)] W (fun W' => r_pw W W' ∧ r_gP (m_wP A (l ++ [c])) (W'.1 33) (W'.2 32)) := by
  refine rCv.of (L := [some (.ref X.1), some (.int (nI c))]) (by rw [ml92]; rfl) ?_
  have hn : W.2 32 = nI l.length := h.1
  refine br92_0 (i_1 := l.length) hn hl ⟨rfl, ⟨fun k a => ?_, fun k a => ?_⟩, ?_, fun i x hx => ?_⟩
  · rw [hset_1, gset_k _ _ _ a]
  · rw [hset_n _ _ a]; rfl
  · rw [hset_s]
    show W.2 32 + 1 = nI (l ++ [c]).length
    rw [hn, nI_1, List.length_append]
    rfl
  · rw [hset_1, gset_e, byte_c c hc]
    have hx' : (l ++ [c])[i]? = some x := hx
    by_cases c1 : i < l.length
    · rw [List.getElem?_append_left c1] at hx'
      rw [va_up_ne _ _ (by omega)]
      exact h.2 i x hx'
    · rw [List.getElem?_append_right (by omega)] at hx'
      have hj : i - l.length < 1 := (List.getElem?_eq_some_iff.mp hx').1
      have ej : i = l.length := by omega
      subst ej
      rw [Nat.sub_self] at hx'
      cases hx'
      rw [va_up_self]
theorem r_read (hI : m_Inv A) (h : r_RA A W) (m : Int32) : rCi ext X 2 83 [.ref X.1, .int m] W (fun x W' => x = (sp_read A m).1 ∧ r_RA (sp_read A m).2 W') := by
  refine rCi.of (L := [some (.ref X.1), some (.int m)]) (by rw [ml83]; rfl) ?_
  refine br83_0 (r_isMap _) ?_
  rintro v W1 ⟨rfl, rfl⟩
  have h0 : r_RA A (hset W 0 0) := h.hset 0 0 (by decide)
  generalize hset W 0 0 = W at h0 ⊢
  have hnM : W.2 3 = nI (m_nM A) := h0.2.1.1
  have hM5 := hI.2.1.1
  unfold sp_read
  rw [hnM]
  by_cases hm : 0 ≤ m ∧ m ≤ nI (m_nM A) - 1
  case neg =>
    rw [if_neg hm, if_neg hm]
    exact br83_10 (fun e => absurd rfl e) (fun _ => br83_13 ⟨_, rfl, rfl, h0⟩)
  rw [if_pos hm, if_pos hm]
  refine br83_10 (fun _ => ?_) (fun e => absurd e (by decide))
  obtain ⟨mi, hmi, rfl⟩ := (rI_rng (by omega)).mp hm
  rw [nI_clamp (by omega)]
  refine br83_15 (r_goes hI h0.D hmi (Or.inl rfl)) ?_
  rintro v W2 ⟨a1, rfl, a3, a4⟩
  refine br83_25 ⟨_, rfl, by rw [hset_s], ?_⟩
  have k1 : ∀ k, k ∈ [2, 4, 6, 7, 8, 9, 10, 11, 12, 13, 14, 30, 31, 33] → (hset W2 25 (nI (m_steps A mi).length)).1 k = W.1 k := fun k hk => by
    rw [hset_1]
    exact a1.1 k (fun e => by subst e; revert hk; decide) (fun e => by subst e; revert hk; decide) (fun e => by subst e; revert hk; decide)
  have k2 : ∀ k, k ∈ [1, 3, 5, 29, 32] → (hset W2 25 (nI (m_steps A mi).length)).2 k = W.2 k := fun k hk => by
    rw [hset_n _ _ (fun e => by subst e; revert hk; decide)]
    exact a1.2 k (fun e => by subst e; revert hk; decide)
  refine ⟨?_, ?_, ?_, ?_, ⟨hset_s _ _ _, a3⟩, ?_, ?_⟩
  · rw [k1 2 (by decide), k2 1 (by decide)]; exact h0.1
  · rw [k1 4 (by decide), k2 3 (by decide)]; exact h0.2.1
  · rw [k1 6 (by decide), k1 7 (by decide), k1 8 (by decide), k1 9 (by decide), k1 10 (by decide), k1 11 (by decide), k2 5 (by decide)]; exact h0.2.2.1
  · rw [k1 12 (by decide), k1 13 (by decide), k1 14 (by decide)]; exact h0.2.2.2.1
  · rw [k1 30 (by decide), k1 31 (by decide), k2 29 (by decide)]; exact h0.2.2.2.2.2.1
  · rw [k1 33 (by decide), k2 32 (by decide)]; exact h0.2.2.2.2.2.2
theorem r_print (hI : m_Inv A) (h : r_RA A W) (m : Int32) : rCi ext X 2 91 [.ref X.1, .int m] W (fun x W' => x = (sp_print A m).1 ∧ r_RA (sp_print A m).2 W') := by
  refine rCi.of (L := [some (.ref X.1), some (.int m), none, none, none]) (by rw [ml91]; rfl) ?_
  refine br91_0 (r_isMap _) ?_
  rintro v W1 ⟨rfl, rfl⟩
  have h0 : r_RA A (hset W 0 0) := h.hset 0 0 (by decide)
  generalize hset W 0 0 = W at h0 ⊢
  have hnM : W.2 3 = nI (m_nM A) := h0.2.1.1
  have hM5 := hI.2.1.1
  have hD := hI.2.2.1
  unfold sp_print
  rw [hnM]
  by_cases hm : 0 ≤ m ∧ m ≤ nI (m_nM A) - 1
  case neg =>
    rw [if_neg hm, if_neg hm]
    exact br91_10 (fun e => absurd rfl e) (fun _ => br91_13 ⟨_, rfl, rfl, h0⟩)
  rw [if_pos hm, if_pos hm]
  refine br91_10 (fun _ => ?_) (fun e => absurd e (by decide))
  obtain ⟨mi, hmi, rfl⟩ := (rI_rng (by omega)).mp hm
  rw [nI_clamp (by omega)]
  refine br91_15 (r_go hI h0 hmi) ?_
  rintro W2 ⟨g1, g2, g3, g4, g5⟩
  have hR2 := g1.RA h0
  have hlen := m_print_len hI mi g4
  refine br91_20 ?_
  generalize hQ : (fun (r : Option Value) (W' : rW) => ∃ x, r = some (.int x) ∧ x = (nI (m_print A mi).length, m_wP A (m_print A mi)).1 ∧ r_RA (nI (m_print A mi).length, m_wP A (m_print A mi)).2 W') = Q
  have ln : ∀ (l1 l2 : List Nat), l1 ++ l2 = m_print A mi → l1.length < 9000 := fun l1 l2 e => by
    have := congrArg List.length e
    rw [List.length_append] at this
    omega
  -- blanks
  have blanks : ∀ (q j i d : Nat) (l rest : List Nat) (W3 : rW) (x3 : Int32), i < 120 → W3.1 21 i = nI (j + q) → j + q < 120 → r_pw W2 W3 → (l ++ List.replicate q 32) ++ rest = m_print A mi → r_gP (m_wP A l) (W3.1 33) (W3.2 32) → (∀ (W4 : rW) (x4 : Int32), r_pw W2 W4 → r_gP (m_wP A (l ++ List.replicate q 32)) (W4.1 33) (W4.2 32) → rA ext X 2 91 68 [some (.ref X.1), some (.int (nI mi)), some (.int (nI i)), some (.int x3), some (.int x4)] [] W4 Q) → rA ext X 2 91 45 [some (.ref X.1), some (.int (nI mi)), some (.int (nI i)), some (.int x3), some (.int (nI j))] [] W3 Q := by
    intro q
    induction q with
    | zero =>
      intro j i d l rest W3 x3 hi h21 hj hw hrest hP kk
      refine br91_45 (i_1 := i) rfl hi (fun _ => ?_) (fun e => absurd (by rw [h21]; exact nI_le (by omega) (by omega)) e)
      refine kk W3 _ hw ?_
      rw [List.replicate_zero, List.append_nil]
      exact hP
    | succ q ih =>
      intro j i d l rest W3 x3 hi h21 hj hw hrest hP kk
      refine br91_45 (i_1 := i) rfl hi (fun e => absurd e (by rw [h21]; exact nI_ge (by omega) (by omega))) (fun _ => ?_)
      have el : l ++ List.replicate (q + 1) 32 = (l ++ [32]) ++ List.replicate q 32 := by rw [List.append_assoc]; rfl
      refine br91_56 ((r_put (A := A) hP (ln l (List.replicate (q + 1) 32 ++ rest) (by rw [← List.append_assoc]; exact hrest)) (c := 32) (by decide)).mono (Nat.zero_le _)) ?_
      rintro W4 ⟨p1, p2⟩
      refine br91_62 ?_
      rw [nI_1]
      refine ih (j + 1) i d (l ++ [32]) rest W4 x3 hi (by rw [p1.1 21 (by decide), h21]; congr 1; omega) (by omega) (hw.tr p1) (by rw [← el]; exact hrest) p2 (fun W5 x4 b1 b2 => ?_)
      rw [← el] at b2
      exact kk W5 x4 b1 b2
  -- digits
  have digit : ∀ (p i d : Nat) (l rest : List Nat) (W3 : rW), 0 < p → p ≤ 1000 → d < m_nD A → r_pw W2 W3 → (l ++ m_dg1 (m_lb A d) p) ++ rest = m_print A mi → r_gP (m_wP A l) (W3.1 33) (W3.2 32) → (∀ (W4 : rW), r_pw W2 W4 → r_gP (m_wP A (l ++ m_dg1 (m_lb A d) p)) (W4.1 33) (W4.2 32) → rA ext X 2 91 73 [some (.ref X.1), some (.int (nI mi)), some (.int (nI i)), some (.int (nI d)), some (.int (nI (p / 10)))] [] W4 Q) → rA ext X 2 91 73 [some (.ref X.1), some (.int (nI mi)), some (.int (nI i)), some (.int (nI d)), some (.int (nI p))] [] W3 Q := by
    intro p i d l rest W3 hp0 hp hd hw hrest hP kk
    have hlb := (hI.2.2.2.1 d hd).2.2
    have h9 : W3.1 9 d = nI (m_lb A d) := by rw [hw.1 9 (by decide)]; exact (hR2.2.2.1.2.1 d hd).2.2.2.1
    have ediv : nI p / 10 = nI (p / 10) := pk_div (a := p) (d := 10) (by omega) (by decide) (by decide)
    refine br91_73 (fun e => absurd e (nI_nle hp0 (by omega))) (fun _ => ?_)
    have yes : (p ≤ m_lb A d ∨ p = 1) → rA ext X 2 91 95 [some (.ref X.1), some (.int (nI mi)), some (.int (nI i)), some (.int (nI d)), some (.int (nI p))] [] W3 Q := by
      intro hy
      have edg : m_dg1 (m_lb A d) p = [48 + m_lb A d / p % 10] := by unfold m_dg1; rw [if_pos hy]
      rw [edg] at hrest kk
      have e1 : (48 : Int32) + (W3.1 9 d / nI p - W3.1 9 d / nI p / 10 * 10) = nI (48 + m_lb A d / p % 10) := by
        have hq : m_lb A d / p ≤ m_lb A d := Nat.div_le_self _ _
        rw [h9, pk_div (by omega) hp0 (by omega)]
        show nI 48 + (nI (m_lb A d / p) - nI (m_lb A d / p) / nI 10 * nI 10) = _
        rw [pk_rem (by omega) (by decide) (by decide), nI_add]
      refine br91_95 (i_1 := d) rfl (by omega) (nI_ne0 hp0 (by omega)) (by rw [e1]; exact (r_put (A := A) hP (ln l _ (by rw [← List.append_assoc]; exact hrest)) (c := 48 + m_lb A d / p % 10) (by have := Nat.mod_lt (m_lb A d / p) (show 0 < 10 by decide); omega)).mono (Nat.zero_le _)) ?_
      rintro W4 ⟨p1, p2⟩
      refine br91_114 ?_
      rw [ediv]
      exact kk W4 (hw.tr p1) p2
    refine br91_78 (i_1 := d) rfl (by omega) (fun e => ?_) (fun e => ?_)
    · rw [h9, nI_leI (by omega) (by omega)] at e
      exact yes (Or.inl e)
    · rw [h9, nI_leI (by omega) (by omega)] at e
      refine br91_89 (fun e2 => ?_) (fun e2 => yes (Or.inr ((nI_eq (b := 1) (by omega) (by decide)).mp e2)))
      have hno : ¬ (p ≤ m_lb A d ∨ p = 1) := fun z => z.elim e (fun z => e2 (by rw [z]; rfl))
      have edg : m_dg1 (m_lb A d) p = [] := by unfold m_dg1; rw [if_neg hno]
      rw [edg, List.append_nil] at kk
      refine br91_114 ?_
      rw [ediv]
      exact kk W3 hw hP
  have loop : ∀ (todo done : List Nat) (W3 : rW) (o3 o4 : Option Value), done ++ todo = m_order A mi → r_pw W2 W3 → r_gP (m_wP A (done.flatMap (m_line A))) (W3.1 33) (W3.2 32) → rA ext X 2 91 27 [some (.ref X.1), some (.int (nI mi)), some (.int (nI done.length)), o3, o4] [] W3 Q := by
    intro todo
    induction todo with
    | nil =>
      intro done W3 o3 o4 hsum hw hP
      rw [List.append_nil] at hsum
      have h19 : W3.2 19 = nI done.length := by rw [hw.2 19 (by decide), g2, hsum]
      refine br91_27 (fun _ => ?_) (fun e => absurd (by rw [h19]; exact nI_le (Nat.le_refl _) (by rw [hsum]; omega)) e)
      refine br91_151 ?_
      rw [← hQ]
      have ep : done.flatMap (m_line A) = m_print A mi := by rw [hsum]; rfl
      rw [ep] at hP
      exact ⟨_, rfl, hP.1, hR2.wP hw hP⟩
    | cons d todo ih =>
      intro done W3 o3 o4 hsum hw hP
      have hdl : done.length < (m_order A mi).length := by rw [← hsum, List.length_append]; show _ < _ + (todo.length + 1); omega
      have hget : (m_order A mi)[done.length]? = some d := by rw [← hsum, List.getElem?_append_right (Nat.le_refl _), Nat.sub_self]; rfl
      have hd : d < m_nD A := g5 d (by rw [← hsum]; exact List.mem_append_right _ List.mem_cons_self)
      have h19 : W3.2 19 = nI (m_order A mi).length := by rw [hw.2 19 (by decide), g2]
      have h20 : W3.1 20 done.length = nI d := by rw [hw.1 20 (by decide)]; exact (g3 _ _ hget).1
      have h21 : W3.1 21 done.length = nI (0 + m_depth A d) := by rw [hw.1 21 (by decide), Nat.zero_add]; exact (g3 _ _ hget).2
      have hdep := m_depth_lt hI.J hd
      refine br91_27 (fun e => absurd e (by rw [h19]; exact nI_ge hdl (by omega))) (fun _ => ?_)
      refine br91_35 (i_1 := done.length) rfl (by omega) ?_
      rw [h20]
      have erest : m_print A mi = done.flatMap (m_line A) ++ (m_line A d ++ todo.flatMap (m_line A)) := by
        unfold m_print
        rw [← hsum, List.flatMap_append, List.flatMap_cons]
      generalize hF : done.flatMap (m_line A) = F at hP erest
      generalize hG : todo.flatMap (m_line A) = G at erest
      have eline : m_line A d = List.replicate (m_depth A d) 32 ++ (m_dig (m_lb A d) ++ (m_eq1 A d ++ [10])) := rfl
      refine blanks (m_depth A d) 0 done.length d F (m_dig (m_lb A d) ++ (m_eq1 A d ++ [10]) ++ G) W3 _ (by omega) h21 (by omega) hw (by rw [erest, eline]; simp only [List.append_assoc]) hP (fun W4 x4 w4 p4 => ?_)
      refine br91_68 ?_
      generalize hB : F ++ List.replicate (m_depth A d) 32 = B at p4
      have erest2 : m_print A mi = B ++ (m_dig (m_lb A d) ++ ((m_eq1 A d ++ [10]) ++ G)) := by rw [erest, eline, ← hB]; simp only [List.append_assoc]
      unfold m_dig at erest2
      refine digit 1000 done.length d B (m_dg1 (m_lb A d) 100 ++ (m_dg1 (m_lb A d) 10 ++ (m_dg1 (m_lb A d) 1 ++ (m_eq1 A d ++ ([10] ++ G))))) W4 (by decide) (by decide) hd w4 (by rw [erest2]; simp only [List.append_assoc]) p4 (fun W5 w5 p5 => ?_)
      refine digit 100 done.length d _ (m_dg1 (m_lb A d) 10 ++ (m_dg1 (m_lb A d) 1 ++ (m_eq1 A d ++ ([10] ++ G)))) W5 (by decide) (by decide) hd w5 (by rw [erest2]; simp only [List.append_assoc]) p5 (fun W6 w6 p6 => ?_)
      refine digit 10 done.length d _ (m_dg1 (m_lb A d) 1 ++ (m_eq1 A d ++ ([10] ++ G))) W6 (by decide) (by decide) hd w6 (by rw [erest2]; simp only [List.append_assoc]) p6 (fun W7 w7 p7 => ?_)
      refine digit 1 done.length d _ (m_eq1 A d ++ ([10] ++ G)) W7 (by decide) (by decide) hd w7 (by rw [erest2]; simp only [List.append_assoc]) p7 (fun W8 w8 p8 => ?_)
      refine br91_73 (fun _ => ?_) (fun e => absurd (by decide) e)
      generalize hC : B ++ m_dg1 (m_lb A d) 1000 ++ m_dg1 (m_lb A d) 100 ++ m_dg1 (m_lb A d) 10 ++ m_dg1 (m_lb A d) 1 = C at p8
      have erest3 : m_print A mi = C ++ (m_eq1 A d ++ ([10] ++ G)) := by rw [erest2, ← hC]; simp only [List.append_assoc]
      have h10 : W8.1 10 d = oI (m_rp A d) := by rw [w8.1 10 (by decide)]; exact (hR2.2.2.1.2.1 d hd).2.2.2.2.1
      have hrp : ∀ q, m_rp A d = some q → q < 2147483648 := fun q hq => by have := (hI.2.2.2.2.2.1 d hd q hq).1; omega
      have fin : ∀ (W9 : rW), r_pw W2 W9 → r_gP (m_wP A (C ++ m_eq1 A d)) (W9.1 33) (W9.2 32) → rA ext X 2 91 139 [some (.ref X.1), some (.int (nI mi)), some (.int (nI done.length)), some (.int (nI d)), some (.int (nI (1 / 10)))] [] W9 Q := by
        intro W9 w9 p9
        refine br91_139 ((r_put (A := A) p9 (ln _ ([10] ++ G) (by rw [erest3, List.append_assoc])) (c := 10) (by decide)).mono (Nat.zero_le _)) ?_
        rintro W10 ⟨q1, q2⟩
        refine br91_145 ?_
        rw [nI_1]
        have el : (done ++ [d]).length = done.length + 1 := by rw [List.length_append]; rfl
        have := ih (done ++ [d]) W10 (some (.int (nI d))) (some (.int (nI (1 / 10)))) (by rw [List.append_assoc]; exact hsum) (w9.tr q1) ?_
        · rw [el] at this
          exact this
        · rw [List.flatMap_append, hF]
          have e5 : F ++ List.flatMap (m_line A) [d] = C ++ m_eq1 A d ++ [10] := by
            rw [List.flatMap_cons, List.flatMap_nil, List.append_nil, eline, ← hC, ← hB]
            unfold m_dig
            simp only [List.append_assoc]
          rw [e5]
          exact q2
      refine br91_124 (i_1 := d) rfl (by omega) (fun e => ?_) (fun e => ?_)
      · rw [h10, oI_neg hrp] at e
        have e6 : m_eq1 A d = [] := by unfold m_eq1; rw [if_pos e]
        refine fin W8 w8 ?_
        rw [e6, List.append_nil]
        exact p8
      · rw [h10, oI_neg hrp] at e
        have e6 : m_eq1 A d = [61] := by unfold m_eq1; rw [if_neg e]
        refine br91_133 ((r_put (A := A) p8 (ln C _ erest3.symm) (c := 61) (by decide)).mono (Nat.zero_le _)) ?_
        rintro W9 ⟨q1, q2⟩
        refine fin W9 (w8.tr q1) ?_
        rw [e6]
        exact q2
  have hw0 : r_pw W2 (hset W2 32 0) := ⟨fun _ _ => rfl, fun k a => hset_n _ _ a⟩
  exact loop (m_order A mi) [] (hset W2 32 0) _ _ rfl hw0 ⟨hset_s _ _ _, fun i x hx => by cases hx⟩
end RP
