/-! READING -/
def m_rd (A : mS) : Nat → List (Nat × Option Nat) → List (Nat × Nat)
  | 0, _ => []
  | _ + 1, [] => []
  | n + 1, (d, a) :: st => (d, a.getD d) :: m_rd A n (match m_rp A d with
    | some r => (r, some (a.getD d)) :: st
    | none => (m_kids A (.inl d)).map (fun x => (x, a)) ++ st)
def m_visit (A : mS) (m : Nat) : List (Nat × Nat) := m_rd A 1000 ((m_kids A (.inr m)).map (fun x => (x, none)))
def m_lks (A : mS) (v : Nat × Nat) : List (Nat × Nat × Nat × Nat × Nat) := (m_lk A v.1).map (fun e => (v.1, e.1, e.2.1, e.2.2, v.2))
def m_sof (A : mS) (vs : List (Nat × Nat)) : List (Nat × Nat × Nat × Nat × Nat) := vs.flatMap (m_lks A)
def m_steps (A : mS) (m : Nat) : List (Nat × Nat × Nat × Nat × Nat) := m_sof A (m_visit A m)
theorem m_sof_app (A : mS) (vs : List (Nat × Nat)) (v : Nat × Nat) : m_sof A (vs ++ [v]) = m_sof A vs ++ m_lks A v := by
  unfold m_sof
  rw [List.flatMap_append]
  simp
/-- the rank of the one that it is under: all at the top have the highest -/
def m_pr (A : mS) (rk : Nat → Nat) (x : Nat) : Nat := match m_un A x with
  | none => m_nD A
  | some p => rk p
def m_nrm (A : mS) (rk : Nat → Nat) (l : List Nat) : Prop := l.Nodup ∧ l.Pairwise (fun x y => m_pr A rk x ≤ m_pr A rk y) ∧ ∀ x ∈ l, x < m_nD A
def m_pil (A : mS) (rk : Nat → Nat) (l : List Nat) : Prop := ∀ d l', l = d :: l' → m_nrm A rk l' ∧ d < m_nD A ∧ ∀ y ∈ l', rk d < m_pr A rk y
theorem m_rk_pr {A : mS} {rk : Nat → Nat} (hr : m_Rk A rk) {d : Nat} (hd : d < m_nD A) : rk d < m_pr A rk d := by
  unfold m_pr
  cases hu : m_un A d with
  | none => exact (hr d hd).1
  | some p => exact (hr d hd).2.1 p hu
theorem m_nrm_pil {A : mS} {rk : Nat → Nat} (hr : m_Rk A rk) {l : List Nat} (h : m_nrm A rk l) : m_pil A rk l := by
  intro d l' e
  subst e
  obtain ⟨h1, h2, h3⟩ := h
  rw [List.nodup_cons] at h1
  rw [List.pairwise_cons] at h2
  have hd := h3 d List.mem_cons_self
  refine ⟨⟨h1.2, h2.2, fun x hx => h3 x (List.mem_cons_of_mem _ hx)⟩, hd, fun y hy => ?_⟩
  have a1 := h2.1 y hy
  have a2 := m_rk_pr hr hd
  omega
theorem m_pil_rp {A : mS} {rk : Nat → Nat} (hI : m_Inv A) (hr : m_Rk A rk) {d r : Nat} {l : List Nat} (h : m_pil A rk (d :: l)) (e : m_rp A d = some r) : m_pil A rk (r :: l) := by
  obtain ⟨h1, h2, h3⟩ := h d l rfl
  intro d' l' e'
  cases e'
  refine ⟨h1, (hI.2.2.2.2.2.1 d h2 r e).1, fun y hy => ?_⟩
  have := h3 y hy
  have := (hr d h2).2.2 r e
  omega
theorem m_pil_kids {A : mS} {rk : Nat → Nat} (hr : m_Rk A rk) {d : Nat} {l : List Nat} (h : m_pil A rk (d :: l)) : m_pil A rk (m_kids A (.inl d) ++ l) := by
  obtain ⟨⟨h1, h2, h3⟩, hd, h4⟩ := h d l rfl
  have hk : ∀ x ∈ m_kids A (.inl d), x < m_nD A ∧ m_pr A rk x = rk d := fun x hx => by
    have hu : m_un A x = some d := of_decide_eq_true (m_kids_mem.mp hx).2
    refine ⟨(m_kids_mem.mp hx).1, ?_⟩
    unfold m_pr
    rw [hu]
  refine m_nrm_pil hr ⟨List.nodup_append.mpr ⟨m_kids_nodup A _, h1, fun x hx y hy e => ?_⟩, List.pairwise_append.mpr ⟨?_, h2, fun x hx y hy => ?_⟩, fun x hx => ?_⟩
  · subst e
    have a1 := (hk x hx).2
    have a2 := h4 x hy
    omega
  · refine (m_kids_nodup A (.inl d)).imp_of_mem ?_
    intro x y hx hy _
    rw [(hk x hx).2, (hk y hy).2]
    exact Nat.le_refl _
  · have a1 := (hk x hx).2
    have a2 := h4 y hy
    omega
  · rcases List.mem_append.mp hx with hx | hx
    · exact (hk x hx).1
    · exact h3 x hx
theorem m_pil_0 {A : mS} {rk : Nat → Nat} (hr : m_Rk A rk) (m : Nat) : m_pil A rk (m_kids A (.inr m)) := by
  refine m_nrm_pil hr ⟨m_kids_nodup A _, (m_kids_nodup A (.inr m)).imp_of_mem ?_, fun x hx => (m_kids_mem.mp hx).1⟩
  intro x y hx hy _
  have hz : ∀ z ∈ m_kids A (.inr m), m_pr A rk z = m_nD A := fun z hz => by
    have h2 : (decide (m_un A z = none) && decide (m_mp A z = m)) = true := (m_kids_mem.mp hz).2
    rw [Bool.and_eq_true, decide_eq_true_eq] at h2
    unfold m_pr
    rw [h2.1]
  rw [hz x hx, hz y hy]
  exact Nat.le_refl _
theorem m_pil_len {A : mS} {rk : Nat → Nat} {d : Nat} {l : List Nat} (h : m_pil A rk (d :: l)) : l.length ≤ m_nD A := nd_len _ _ (h d l rfl).1.1 (h d l rfl).1.2.2
/-- what reading may change: the pile, and the row -/
def r_vw (kr : Nat) (W0 W : rW) : Prop := (∀ k, k ≠ 15 → k ≠ 16 → k ≠ kr → W.1 k = W0.1 k) ∧ ∀ k, k ≠ 17 → W.2 k = W0.2 k
theorem r_vw.RD {A : mS} {kr : Nat} {W0 W : rW} (hk : kr = 26 ∨ kr = 28) (h : r_vw kr W0 W) (h0 : r_RD A W0) : r_RD A W := h0.cong (fun k hk' => h.1 k (fun e => by subst e; revert hk'; decide) (fun e => by subst e; revert hk'; decide) (fun e => by subst e; rcases hk with rfl | rfl <;> (revert hk'; decide))) (h.2 5 (by decide))
theorem r_vw.tw {kr : Nat} {W0 W1 W2 : rW} (h : r_vw kr W0 W1) (h2 : r_tw W1 W2) : r_vw kr W0 W2 := ⟨fun k a b c => (h2.1 k a b).trans (h.1 k a b c), fun k a => (h2.2 k a).trans (h.2 k a)⟩
theorem r_vw.g {kr : Nat} {W0 W : rW} (h : r_vw kr W0 W) (i : Nat) (x : Int32) : r_vw kr W0 (gset W kr i x) := ⟨fun k a b c => by rw [gset_k _ _ _ c]; exact h.1 k a b c, h.2⟩
theorem r_vw.h7 {kr : Nat} {W0 W : rW} (h : r_vw kr W0 W) (x : Int32) : r_vw kr W0 (hset W 17 x) := ⟨h.1, fun k a => by rw [hset_n _ _ a]; exact h.2 k a⟩
theorem r_st5_app {f : Nat → Int32} {l : List (Nat × Nat × Nat × Nat × Nat)} {e : Nat × Nat × Nat × Nat × Nat} (h : r_st5 f l) (h1 : f (5 * l.length) = nI e.1 ∧ f (5 * l.length + 1) = nI e.2.1 ∧ f (5 * l.length + 2) = nI e.2.2.1 ∧ f (5 * l.length + 3) = nI e.2.2.2.1 ∧ f (5 * l.length + 4) = nI e.2.2.2.2) : r_st5 f (l ++ [e]) := by
  intro i z hz
  by_cases c1 : i < l.length
  · rw [List.getElem?_append_left c1] at hz
    exact h i z hz
  · rw [List.getElem?_append_right (by omega)] at hz
    have hj : i - l.length < 1 := (List.getElem?_eq_some_iff.mp hz).1
    have ej : i = l.length := by omega
    subst ej
    rw [Nat.sub_self] at hz
    cases hz
    exact h1
theorem r_st5_keep {f g : Nat → Int32} {l : List (Nat × Nat × Nat × Nat × Nat)} (h : r_st5 f l) (hg : ∀ i, i < 5 * l.length → g i = f i) : r_st5 g l := by
  intro i z hz
  have hi := (List.getElem?_eq_some_iff.mp hz).1
  rw [hg _ (by omega), hg _ (by omega), hg _ (by omega), hg _ (by omega), hg _ (by omega)]
  exact h i z hz
theorem oI_pos {o : Option Nat} (h : ∀ p, o = some p → p < 2147483648) {d : Nat} (hd : d < 2147483648) : (oI o < 0 → o = none) ∧ (¬ oI o < 0 → oI o = nI (o.getD d)) := by
  cases o with
  | none => exact ⟨fun _ => rfl, fun e => absurd (by decide) e⟩
  | some p => exact ⟨fun e => absurd e (nI_pos (h p rfl)), fun _ => rfl⟩
section RRd
variable {ext : av_X} {X : rX} {W : rW} {A : mS}
set_option maxHeartbeats 1000000 in
theorem r_goes (hI : m_Inv A) (h : r_RD A W) {m kr : Nat} (hm : m < m_nM A) (hk : kr = 26 ∨ kr = 28) : rCi ext X 1 84 [.ref X.1, .int (nI m), .ref (X.2.1 kr)] W (fun x W' => r_vw kr W W' ∧ x = nI (m_steps A m).length ∧ r_st5 (W'.1 kr) (m_steps A m) ∧ (m_steps A m).length ≤ 5000) := by
  have hD := hI.2.2.1
  obtain ⟨rk, hr⟩ := m_rank hI
  have hw : rl_ar kr = true ∧ rl_kd kr = 0 ∧ rl_len kr = 25000 := by rcases hk with rfl | rfl <;> exact ⟨rfl, rfl, rfl⟩
  refine rCi.of (L := [some (.ref X.1), some (.int (nI m)), some (.ref (X.2.1 kr)), none, none, none, none, none]) (by rw [ml84]; rfl) ?_
  have h1 : r_RD A (hset W 17 0) := h.cong (fun _ _ => rfl) (hset_n _ _ (by decide))
  refine br84_0 hw (r_lay hI h1 (.inr m) hm (-1) [] (by rw [hset_s]; rfl) (fun i e he => by cases he) (by show 0 + m_nD A ≤ 1000; omega)) ?_
  rintro W2 ⟨q1, q2, q3⟩
  generalize hQ : (fun (r : Option Value) (W' : rW) => ∃ x, r = some (.int x) ∧ r_vw kr W W' ∧ x = nI (m_steps A m).length ∧ r_st5 (W'.1 kr) (m_steps A m) ∧ (m_steps A m).length ≤ 5000) = Q
  have k5 : ∀ k, k ≠ 26 → k ≠ 28 → k ≠ kr := fun k a b e => by rcases hk with e2 | e2 <;> omega
  -- the links of one
  have links : ∀ (q j : Nat) (ss : List (Nat × Nat × Nat × Nat × Nat)) (d at' : Nat) (W1 : rW) (x4 : Int32), d < m_nD A → j + q = (m_lk A d).length → r_vw kr W W1 → ss.length + q ≤ 5000 → r_st5 (W1.1 kr) ss →
      (∀ (W3 : rW) (x7 : Int32), r_vw kr W W3 → W3.2 17 = W1.2 17 → W3.1 15 = W1.1 15 → W3.1 16 = W1.1 16 → r_st5 (W3.1 kr) (ss ++ ((m_lk A d).drop j).map (fun e => (d, e.1, e.2.1, e.2.2, at'))) → rA ext X 1 84 175 [some (.ref X.1), some (.int (nI m)), some (.ref (X.2.1 kr)), some (.int (nI (ss.length + q))), some (.int x4), some (.int (nI d)), some (.int (nI at')), some (.int x7)] [] W3 Q) →
      rA ext X 1 84 91 [some (.ref X.1), some (.int (nI m)), some (.ref (X.2.1 kr)), some (.int (nI ss.length)), some (.int x4), some (.int (nI d)), some (.int (nI at')), some (.int (nI (5 * d + j)))] [] W1 Q := by
    intro q
    induction q with
    | zero =>
      intro j ss d at' W1 x4 hd hj hv hs hst kk
      have hR := hv.RD hk h
      refine br84_91 hw (i_2 := d) rfl (by omega) (fun _ => ?_) (fun e => absurd (by rw [(hR.1.2.1 d hd).2.2.2.2.2, nI_5]; exact nI_le (by omega) (by have := (hI.2.2.2.2.2.2.1 d hd).1; omega)) e)
      refine kk W1 _ hv rfl rfl rfl ?_
      rw [List.drop_eq_nil_of_le (by omega)]
      rw [List.map_nil, List.append_nil]
      exact hst
    | succ q ih =>
      intro j ss d at' W1 x4 hd hj hv hs hst kk
      have hR := hv.RD hk h
      have hl5 := (hI.2.2.2.2.2.2.1 d hd).1
      have hjl : j < (m_lk A d).length := by omega
      have he : (m_lk A d)[j]? = some ((m_lk A d)[j]) := List.getElem?_eq_getElem hjl
      have hL := hR.2 d j _ hd he
      generalize hee : (m_lk A d)[j] = e at he hL
      refine br84_91 hw (i_2 := d) rfl (by omega) (fun z => absurd z (by rw [(hR.1.2.1 d hd).2.2.2.2.2, nI_5]; exact nI_ge (by omega) (by omega))) (fun _ => ?_)
      have n5 : ∀ t, (5 : Int32) * nI ss.length + nI t = nI (5 * ss.length + t) := fun t => nI_5
      have n50 : (5 : Int32) * nI ss.length = nI (5 * ss.length) := by show nI 5 * nI ss.length = _; rw [pk_mul]
      refine br84_108 hw (i_2 := 5 * ss.length) (i_5 := 5 * d + j) (i_8 := 5 * ss.length + 1) (i_11 := 5 * d + j) (i_14 := 5 * ss.length + 2) (i_17 := 5 * d + j) (i_20 := 5 * ss.length + 3) (i_23 := 5 * ss.length + 4) n50 (by omega) rfl (by omega) (n5 1) (by omega) rfl (by omega) (n5 2) (by omega) rfl (by omega) (n5 3) (by omega) (n5 4) (by omega) ?_
      simp only [gset_k _ _ _ (k5 12 (by decide) (by decide)), gset_k _ _ _ (k5 13 (by decide) (by decide)), gset_k _ _ _ (k5 14 (by decide) (by decide))]
      rw [hL.1, hL.2.1, hL.2.2, nI_1, nI_1]
      generalize hW4 : gset (gset (gset (gset (gset W1 kr (5 * ss.length) (nI d)) kr (5 * ss.length + 1) (nI e.1)) kr (5 * ss.length + 2) (nI e.2.1)) kr (5 * ss.length + 3) (nI e.2.2)) kr (5 * ss.length + 4) (nI at') = W4
      have f4 : W4.1 kr = va_up (va_up (va_up (va_up (va_up (W1.1 kr) (5 * ss.length) (nI d)) (5 * ss.length + 1) (nI e.1)) (5 * ss.length + 2) (nI e.2.1)) (5 * ss.length + 3) (nI e.2.2)) (5 * ss.length + 4) (nI at') := by rw [← hW4, gset_e, gset_e, gset_e, gset_e, gset_e]
      have v4 : r_vw kr W W4 := by rw [← hW4]; exact ((((hv.g _ _).g _ _).g _ _).g _ _).g _ _
      have o4 : ∀ k, k ≠ kr → W4.1 k = W1.1 k := fun k hk => by rw [← hW4, gset_k _ _ _ hk, gset_k _ _ _ hk, gset_k _ _ _ hk, gset_k _ _ _ hk, gset_k _ _ _ hk]
      have s4 : r_st5 (W4.1 kr) (ss ++ [(d, e.1, e.2.1, e.2.2, at')]) := by
        refine r_st5_app (r_st5_keep hst (fun i hi => ?_)) ?_
        · rw [f4, va_up_ne _ _ (by omega), va_up_ne _ _ (by omega), va_up_ne _ _ (by omega), va_up_ne _ _ (by omega), va_up_ne _ _ (by omega)]
        · rw [f4]
          refine ⟨?_, ?_, ?_, ?_, ?_⟩
          · rw [va_up_ne _ _ (by omega), va_up_ne _ _ (by omega), va_up_ne _ _ (by omega), va_up_ne _ _ (by omega), va_up_self]
          · rw [va_up_ne _ _ (by omega), va_up_ne _ _ (by omega), va_up_ne _ _ (by omega), va_up_self]
          · rw [va_up_ne _ _ (by omega), va_up_ne _ _ (by omega), va_up_self]
          · rw [va_up_ne _ _ (by omega), va_up_self]
          · rw [va_up_self]
      have el : (ss ++ [(d, e.1, e.2.1, e.2.2, at')]).length = ss.length + 1 := by rw [List.length_append]; rfl
      have := ih (j + 1) (ss ++ [(d, e.1, e.2.1, e.2.2, at')]) d at' W4 x4 hd (by omega) v4 (by rw [el]; omega) s4 (fun W3 x7 a1 a2 a3 a4 a5 => ?_)
      · rw [el] at this
        exact this
      · rw [el, show ss.length + 1 + q = ss.length + (q + 1) by omega]
        refine kk W3 x7 a1 (by rw [a2, ← hW4]; rfl) (by rw [a3]; exact o4 15 (k5 15 (by decide) (by decide))) (by rw [a4]; exact o4 16 (k5 16 (by decide) (by decide))) ?_
        rw [List.append_assoc] at a5
        rw [List.drop_eq_getElem_cons hjl, List.map_cons, hee]
        exact a5
  have loop : ∀ (n v : Nat) (vs : List (Nat × Nat)) (st : List (Nat × Option Nat)) (W1 : rW) (o5 o6 o7 : Option Value), v + n = 1000 → m_visit A m = vs ++ m_rd A n st → (m_sof A vs).length ≤ 5 * v → m_pil A rk (st.map (fun e => e.1)) → (∀ e ∈ st, ∀ p, e.2 = some p → p < m_nD A) → r_vw kr W W1 → r_st5 (W1.1 kr) (m_sof A vs) → W1.2 17 = nI st.length → st.length ≤ m_nD A + 1 → r_hT (W1.1 15) (W1.1 16) (st.reverse.map (fun e => (e.1, oI e.2))) → rA ext X 1 84 18 [some (.ref X.1), some (.int (nI m)), some (.ref (X.2.1 kr)), some (.int (nI (m_sof A vs).length)), some (.int (nI v)), o5, o6, o7] [] W1 Q := by
    intro n
    induction n with
    | zero =>
      intro v vs st W1 o5 o6 o7 hv hvis hs5 hp hat hvw hst h17 hsl hT
      have fin : rA ext X 1 84 243 [some (.ref X.1), some (.int (nI m)), some (.ref (X.2.1 kr)), some (.int (nI (m_sof A vs).length)), some (.int (nI v)), o5, o6, o7] [] W1 Q := by
        refine br84_243 hw ?_
        rw [← hQ]
        have e : m_steps A m = m_sof A vs := by unfold m_steps; rw [hvis]; show m_sof A (vs ++ []) = _; rw [List.append_nil]
        rw [e]
        exact ⟨_, rfl, hvw, rfl, hst, by omega⟩
      refine br84_18 hw (fun _ => fin) (fun _ => ?_)
      exact br84_25 hw (fun _ => fin) (fun e => absurd (nI_le (a := 1000) (b := v) (by omega) (by omega)) e)
    | succ n ih =>
      intro v vs st W1 o5 o6 o7 hv hvis hs5 hp hat hvw hst h17 hsl hT
      cases st with
      | nil =>
        refine br84_18 hw (fun _ => ?_) (fun e => absurd (by rw [h17]; decide) e)
        refine br84_243 hw ?_
        rw [← hQ]
        have e : m_steps A m = m_sof A vs := by unfold m_steps; rw [hvis]; show m_sof A (vs ++ []) = _; rw [List.append_nil]
        rw [e]
        exact ⟨_, rfl, hvw, rfl, hst, by omega⟩
      | cons da st =>
        obtain ⟨d, a⟩ := da
        have hsl' : st.length + 1 ≤ m_nD A + 1 := hsl
        obtain ⟨-, hdl, -⟩ := hp d (st.map (fun e => e.1)) rfl
        have ha : ∀ p, a = some p → p < m_nD A := fun p hp => hat (d, a) List.mem_cons_self p hp
        have ha2 : ∀ p, a = some p → p < 2147483648 := fun p hp => by have := ha p hp; omega
        refine br84_18 hw (fun e => absurd e (by rw [h17]; exact nI_nle (Nat.succ_pos _) (by show st.length + 1 < _; omega))) (fun _ => ?_)
        refine br84_25 hw (fun e => absurd e (nI_ge (a := v) (b := 1000) (by omega) (by decide))) (fun _ => ?_)
        have e17 : W1.2 17 - 1 = nI st.length := by rw [h17]; exact nI_pred _
        obtain ⟨W2, hW2⟩ : ∃ W2, hset W1 17 (nI st.length) = W2 := ⟨_, rfl⟩
        have w17 : W2.2 17 = nI st.length := by rw [← hW2, hset_s]
        have w15 : W2.1 = W1.1 := by rw [← hW2]; rfl
        have v2 : r_vw kr W W2 := by rw [← hW2]; exact hvw.h7 _
        have hTop : W2.1 15 st.length = nI d ∧ W2.1 16 st.length = oI a := by
          rw [w15]
          refine hT st.length (d, oI a) ?_
          rw [List.getElem?_map, List.reverse_cons, List.getElem?_append_right (by rw [List.length_reverse]; exact Nat.le_refl _), List.length_reverse, Nat.sub_self]
          rfl
        have hT2 : r_hT (W2.1 15) (W2.1 16) (st.reverse.map (fun e => (e.1, oI e.2))) := by
          rw [w15]
          intro i e he
          refine hT i e ?_
          have hi := (List.getElem?_eq_some_iff.mp he).1
          rw [List.length_map, List.length_reverse] at hi
          rw [List.reverse_cons, List.map_append, List.getElem?_append_left (by rw [List.length_map, List.length_reverse]; exact hi)]
          exact he
        have hatl : a.getD d < m_nD A := by
          cases a with
          | none => exact hdl
          | some p => exact ha p rfl
        have hl5 := (hI.2.2.2.2.2.2.1 d hdl).1
        -- behind the popping
        have go : rA ext X 1 84 83 [some (.ref X.1), some (.int (nI m)), some (.ref (X.2.1 kr)), some (.int (nI (m_sof A vs).length)), some (.int (nI (v + 1))), some (.int (nI d)), o6, o7] [.int (nI (a.getD d))] W2 Q := by
          refine br84_83 hw ?_
          rw [show (5 : Int32) * nI d = nI (5 * d + 0) by show nI 5 * nI d = _; rw [pk_mul]; rfl]
          refine links (m_lk A d).length 0 (m_sof A vs) d (a.getD d) W2 _ hdl (Nat.zero_add _) v2 (by omega) (by rw [w15]; exact hst) (fun W3 x7 a1 a2 a3 a4 a5 => ?_)
          have hR3 := a1.RD hk h
          have esof : m_sof A (vs ++ [(d, a.getD d)]) = m_sof A vs ++ ((m_lk A d).drop 0).map (fun e => (d, e.1, e.2.1, e.2.2, a.getD d)) := by rw [m_sof_app]; rfl
          rw [← esof] at a5
          have elen : (m_sof A vs).length + (m_lk A d).length = (m_sof A (vs ++ [(d, a.getD d)])).length := by rw [m_sof_app, List.length_append]; unfold m_lks; rw [List.length_map]
          rw [elen]
          have t17 : W3.2 17 = nI st.length := by rw [a2, w17]
          have t15 : r_hT (W3.1 15) (W3.1 16) (st.reverse.map (fun e => (e.1, oI e.2))) := by rw [a3, a4]; exact hT2
          have hrp : ∀ q, m_rp A d = some q → q < 2147483648 := fun q hq => by have := (hI.2.2.2.2.2.1 d hdl q hq).1; omega
          have hvis2 : ∀ st', (match m_rp A d with | some r => (r, some (a.getD d)) :: st | none => (m_kids A (.inl d)).map (fun x => (x, a)) ++ st) = st' → m_visit A m = (vs ++ [(d, a.getD d)]) ++ m_rd A n st' := fun st' e => by
            rw [hvis, List.append_assoc, ← e]
            rfl
          refine br84_175 hw (i_2 := d) rfl (by omega) (fun e => ?_) (fun e => ?_)
          · rw [(hR3.1.2.1 d hdl).2.2.2.2.1, oI_neg hrp] at e
            have e16 : W3.1 16 st.length = oI a := by rw [a4]; exact hTop.2
            refine br84_225 hw (i_2 := st.length) t17 (by omega) (by rw [e16]; exact r_lay hI hR3 (.inl d) hdl (oI a) (st.reverse.map (fun e => (e.1, oI e.2))) (by rw [t17, List.length_map, List.length_reverse]) t15 (by rw [List.length_map, List.length_reverse]; omega)) ?_
            rintro W5 ⟨p1, p2, p3⟩
            refine br84_240 hw ?_
            have ekey : st.reverse.map (fun e => (e.1, oI e.2)) ++ (m_kids A (.inl d)).reverse.map (fun x => (x, oI a)) = ((m_kids A (.inl d)).map (fun x => (x, a)) ++ st).reverse.map (fun e => (e.1, oI e.2)) := by
              rw [List.reverse_append, List.map_append, ← List.map_reverse, List.map_map]
              rfl
            rw [ekey] at p2 p3
            have hp2 : m_pil A rk (((m_kids A (.inl d)).map (fun x => (x, a)) ++ st).map (fun e => e.1)) := by
              rw [List.map_append, List.map_map]
              rw [show (m_kids A (.inl d)).map ((fun e : Nat × Option Nat => e.1) ∘ fun x => (x, a)) = m_kids A (.inl d) by rw [show ((fun e : Nat × Option Nat => e.1) ∘ fun x => (x, a)) = (fun x => x) from rfl, List.map_id']]
              exact m_pil_kids hr hp
            have hlen2 : ((m_kids A (.inl d)).map (fun x => (x, a)) ++ st).length ≤ m_nD A + 1 := by
              cases hq : ((m_kids A (.inl d)).map (fun x => (x, a)) ++ st).map (fun e => e.1) with
              | nil =>
                have := congrArg List.length hq
                rw [List.length_map] at this
                rw [this]
                exact Nat.zero_le _
              | cons y l =>
                rw [hq] at hp2
                have := m_pil_len hp2
                have h3 := congrArg List.length hq
                rw [List.length_map] at h3
                rw [h3]
                show l.length + 1 ≤ _
                omega
            refine ih (v + 1) (vs ++ [(d, a.getD d)]) ((m_kids A (.inl d)).map (fun x => (x, a)) ++ st) W5 _ _ _ (by omega) (hvis2 _ (by rw [e])) (by rw [← elen]; omega) hp2 (fun e he p hp => ?_) (a1.tw p1) ?_ (by rw [p2, List.length_map, List.length_reverse]) hlen2 p3
            · rcases List.mem_append.mp he with he | he
              · obtain ⟨x, -, rfl⟩ := List.mem_map.mp he
                exact ha p hp
              · exact hat e (List.mem_cons_of_mem _ he) p hp
            · rw [p1.1 kr (fun z => by rcases hk with e2 | e2 <;> omega) (fun z => by rcases hk with e2 | e2 <;> omega)]
              exact a5
          · rw [(hR3.1.2.1 d hdl).2.2.2.2.1, oI_neg hrp] at e
            cases hq : m_rp A d with
            | none => exact absurd hq e
            | some r =>
              refine br84_185 hw (i_2 := d) (i_5 := st.length) (i_8 := st.length) rfl (by omega) t17 (by omega) t17 (by omega) ?_
              have e10 : W3.1 10 d = nI r := by rw [(hR3.1.2.1 d hdl).2.2.2.2.1, hq]; rfl
              rw [e10]
              generalize hW5 : hset (gset (gset W3 15 st.length (nI r)) 16 st.length (nI (a.getD d))) 17 ((gset (gset W3 15 st.length (nI r)) 16 st.length (nI (a.getD d))).2 17 + 1) = W5
              have v5 : r_vw kr W W5 := by
                rw [← hW5]
                refine ⟨fun k b1 b2 b3 => ?_, fun k b1 => ?_⟩
                · rw [hset_1, gset_k _ _ _ b2, gset_k _ _ _ b1]
                  exact a1.1 k b1 b2 b3
                · rw [hset_n _ _ b1]
                  exact a1.2 k b1
              have x17 : W5.2 17 = nI (st.length + 1) := by
                rw [← hW5, hset_s]
                show W3.2 17 + 1 = _
                rw [t17, nI_1]
              have x15 : W5.1 15 = va_up (W3.1 15) st.length (nI r) := by rw [← hW5, hset_1, gset_k _ _ _ (by decide), gset_e]
              have x16 : W5.1 16 = va_up (W3.1 16) st.length (nI (a.getD d)) := by rw [← hW5, hset_1, gset_e, gset_k _ _ _ (by decide)]
              have xkr : W5.1 kr = W3.1 kr := by rw [← hW5, hset_1, gset_k _ _ _ (Ne.symm (k5 16 (by decide) (by decide))), gset_k _ _ _ (Ne.symm (k5 15 (by decide) (by decide)))]
              refine br84_240 hw ?_
              refine ih (v + 1) (vs ++ [(d, a.getD d)]) ((r, some (a.getD d)) :: st) W5 _ _ _ (by omega) (hvis2 _ (by rw [hq])) (by rw [← elen]; omega) (m_pil_rp hI hr hp hq) (fun e he p hp => ?_) v5 (by rw [xkr]; exact a5) x17 hsl (fun i e he => ?_)
              · rcases List.mem_cons.mp he with rfl | he
                · cases hp
                  exact hatl
                · exact hat e (List.mem_cons_of_mem _ he) p hp
              · rw [x15, x16]
                rw [List.reverse_cons, List.map_append] at he
                have hl : (st.reverse.map (fun e => (e.1, oI e.2))).length = st.length := by rw [List.length_map, List.length_reverse]
                by_cases c1 : i < st.length
                · rw [List.getElem?_append_left (by rw [hl]; exact c1)] at he
                  rw [va_up_ne _ _ (by omega), va_up_ne _ _ (by omega)]
                  exact t15 i e he
                · rw [List.getElem?_append_right (by rw [hl]; omega), hl] at he
                  have hj : i - st.length < 1 := (List.getElem?_eq_some_iff.mp he).1
                  have ej : i = st.length := by omega
                  subst ej
                  rw [Nat.sub_self] at he
                  cases he
                  rw [va_up_self, va_up_self]
                  exact ⟨rfl, rfl⟩
        refine br84_33 hw (i_2 := st.length) (i_5 := st.length) (by rw [e17, hW2]; exact w17) (by omega) (by rw [e17, hW2]; exact w17) (by omega) (fun e => ?_) (fun e => ?_)
        · rw [e17, hW2] at e ⊢
          rw [hTop.2] at e
          have ea := (oI_pos ha2 (d := d) (by omega)).1 e
          rw [hTop.1, nI_1]
          refine br84_81 hw ?_
          rw [show a.getD d = d by rw [ea]; rfl] at go
          exact go
        · rw [e17, hW2] at e ⊢
          rw [hTop.2] at e
          have ea := (oI_pos ha2 (d := d) (by omega)).2 e
          rw [hTop.1, nI_1]
          refine br84_69 hw (i_2 := st.length) w17 (by omega) ?_
          rw [hTop.2, ea]
          exact go
  have e0 : ((m_kids A (.inr m)).map (fun x => (x, (none : Option Nat)))).reverse.map (fun e => (e.1, oI e.2)) = (m_kids A (.inr m)).reverse.map (fun x => (x, -1)) := by
    rw [← List.map_reverse, List.map_map]
    rfl
  refine loop 1000 0 [] ((m_kids A (.inr m)).map (fun x => (x, none))) W2 _ _ _ rfl rfl (Nat.zero_le _) ?_ (fun e he p hp => ?_) ?_ (fun i e he => by cases he) ?_ ?_ ?_
  · rw [List.map_map]
    rw [show ((fun e : Nat × Option Nat => e.1) ∘ fun x => (x, none)) = (fun x => x) from rfl, List.map_id']
    exact m_pil_0 hr m
  · obtain ⟨x, -, rfl⟩ := List.mem_map.mp he
    cases hp
  · refine ⟨fun k a b _ => q1.1 k a b, fun k a => ?_⟩
    rw [q1.2 k a, hset_n _ _ a]
  · rw [q2]
    show nI (List.map (fun x => (x, (-1 : Int32))) (m_kids A (.inr m)).reverse).length = _
    rw [List.length_map, List.length_reverse, List.length_map]
  · rw [List.length_map]
    have := m_kf_len A (.inr m) (m_nD A)
    unfold m_kids
    omega
  · rw [e0]
    exact q3
end RRd
