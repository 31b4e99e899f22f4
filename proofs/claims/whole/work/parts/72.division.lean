/-! THE CLASS'S CALL: division -/
theorem c_pa_new {A : mS} {m : Nat} {u : Option Nat} {o l x : Nat} (h : x ≠ m_nD A) : c_pa (sp_new A m u o l) x = c_pa A x := by
  have e1 : m_un (sp_new A m u o l) x = m_un A x := va_up_ne _ _ h
  have e2 : m_mp (sp_new A m u o l) x = m_mp A x := va_up_ne _ _ h
  unfold c_pa
  rw [e1, e2]
theorem c_RA_div {A : mS} {T T2 : cT} {m o l : Nat} {u : Option Nat} (hI : m_Inv A) (h : c_RA A T) (e0 : T2.1 0 0 5 = nI (m_nD A + 1)) (e0' : ∀ k, k ≠ 5 → T2.1 0 0 k = T.1 0 0 k) (e1 : T2.2 22 0 (m_nD A) = some (m_nD A)) (e1' : ∀ k, k ≠ m_nD A → T2.2 22 0 k = T.2 22 0 k)
    (e8 : T2.1 8 (m_nD A) 0 = nI (m_nD A) ∧ T2.1 8 (m_nD A) 1 = nI m ∧ T2.1 8 (m_nD A) 2 = nI o ∧ T2.1 8 (m_nD A) 3 = nI l ∧ T2.1 8 (m_nD A) 5 = 0 ∧ T2.2 8 (m_nD A) 6 = some (c_ix (c_pa (sp_new A m u o l) (m_nD A))) ∧ T2.2 8 (m_nD A) 9 = none)
    (e8' : ∀ i, i ≠ m_nD A → T2.1 8 i = T.1 8 i ∧ T2.2 8 i 6 = T.2 8 i 6 ∧ T2.2 8 i 9 = T.2 8 i 9) (e9 : ∀ i, i ≠ m_nD A → T2.2 34 i = T.2 34 i) (eo : ∀ s, s ∉ [0, 8, 22, 34] → T2.1 s = T.1 s ∧ T2.2 s = T.2 s) (hK : c_gK (sp_new A m u o l) T2) : c_RA (sp_new A m u o l) T2 := by
  obtain ⟨⟨gN, gF, gM, gD, gK, gL, gC⟩, gS, gT, gP⟩ := h
  have hD := hI.2.2.1
  have o6 := eo 6 (by decide)
  have o7 := eo 7 (by decide)
  have o9 := eo 9 (by decide)
  have o20 := eo 20 (by decide)
  have o21 := eo 21 (by decide)
  have lk : ∀ x, x ≠ m_nD A → m_lk (sp_new A m u o l) x = m_lk A x := fun x hx => va_up_ne _ _ hx
  have lkn : m_lk (sp_new A m u o l) (m_nD A) = [] := va_up_self _ _ _
  have hL : ∀ t, c_lvL (sp_new A m u o l) t ↔ c_lvL A t := by
    intro t
    constructor
    · rintro ⟨d, j, e, hd, he, ht⟩
      have hd' : d < m_nD A + 1 := hd
      by_cases q : d = m_nD A
      · rw [q, lkn] at he
        cases he
      · rw [lk d q] at he
        exact ⟨d, j, e, by omega, he, ht⟩
    · rintro ⟨d, j, e, hd, he, ht⟩
      refine ⟨d, j, e, by show d < m_nD A + 1; omega, ?_, ht⟩
      rw [lk d (by omega)]
      exact he
  have hk : ∀ t, c_lvL A t → m_lnk (sp_new A m u o l) t = m_lnk A t := by
    rintro t ⟨d, j, e, hd, he, rfl⟩
    have hj : j < 5 := by
      have := (hI.2.2.2.2.2.2.1 d hd).1
      have := (List.getElem?_eq_some_iff.mp he).1
      omega
    unfold m_lnk
    rw [show (5 * d + j) / 5 = d by omega, lk d (by omega)]
  refine ⟨⟨⟨(e0' 1 (by decide)).trans gN.1, (e0' 3 (by decide)).trans gN.2.1, e0⟩, ?_, ?_, ?_, hK, ?_, ?_⟩, ?_, ?_, ?_⟩
  · intro f hf
    rw [o20.2, o6.1]
    exact gF f hf
  · intro q hq
    have hq' : q < m_nM A := hq
    rw [o21.2, o7.1, o7.2, (e8' (1000 + q) (by omega)).1, (e8' (1000 + q) (by omega)).2.2]
    exact gM q hq
  · intro x hx
    have hx' : x < m_nD A + 1 := hx
    by_cases e : x = m_nD A
    · subst e
      rw [lkn, show m_mp (sp_new A m u o l) (m_nD A) = m from va_up_self _ _ _, show m_od (sp_new A m u o l) (m_nD A) = o from va_up_self _ _ _, show m_lb (sp_new A m u o l) (m_nD A) = l from va_up_self _ _ _, show m_rp (sp_new A m u o l) (m_nD A) = none from va_up_self _ _ _]
      exact ⟨e1, e8.1, e8.2.1, e8.2.2.1, e8.2.2.2.1, e8.2.2.2.2.1, e8.2.2.2.2.2.1, e8.2.2.2.2.2.2⟩
    · rw [lk x e, show m_mp (sp_new A m u o l) x = m_mp A x from va_up_ne _ _ e, show m_od (sp_new A m u o l) x = m_od A x from va_up_ne _ _ e, show m_lb (sp_new A m u o l) x = m_lb A x from va_up_ne _ _ e, show m_rp (sp_new A m u o l) x = m_rp A x from va_up_ne _ _ e, c_pa_new e, e1' x e, (e8' x e).1, (e8' x e).2.1, (e8' x e).2.2]
      exact gD x (by omega)
  · intro x j e hx he
    have hx' : x < m_nD A + 1 := hx
    by_cases q : x = m_nD A
    · rw [q, lkn] at he
      cases he
    · rw [lk x q] at he
      rw [e9 x q, o9.1, o9.2]
      exact gL x j e (by omega) he
  · intro f hf
    obtain ⟨l', a1, a2, a3, a4, a5⟩ := gC f hf
    refine ⟨l', ?_, a2.cong (fun x _ => by rw [o9.2]), a3, fun t => ?_, ?_⟩
    · rw [o6.2]
      exact a1
    · rw [a4 t, hL t]
      constructor
      · rintro ⟨p, q⟩
        exact ⟨p, by rw [hk t p]; exact q⟩
      · rintro ⟨p, q⟩
        exact ⟨p, by rw [← hk t p]; exact q⟩
    · exact a5.imp_of_mem (fun {t v} ht hv q => by
        rw [hk t ((a4 t).mp ht).1, hk v ((a4 v).mp hv).1]
        exact q)
  · have := gS.cong (A := A) (T' := T2) (fun s hs => eo s (by revert hs; revert s; decide))
    refine ⟨this.1, fun i e he => ?_⟩
    obtain ⟨⟨t, q1, q2, q3, q4⟩, q5, q6⟩ := this.2 i e he
    exact ⟨⟨t, q1, (hL t).mpr q2, q3, by rw [hk t q2]; exact q4⟩, q5, by show _ < m_nD A + 1; omega⟩
  · exact gT.cong (A := A) (fun s hs => eo s (by revert hs; revert s; decide))
  · exact gP.cong (A := A) (fun s hs => eo s (by revert hs; revert s; decide))
section CDV
variable {ext : av_X} {X : cX} {T : cT} {A : mS}
set_option maxHeartbeats 1000000 in
theorem c_division (hI : m_Inv A) (hX : c_X A X) (h : c_RA A T) (mm uu oo ll : Int32) : cN ext X 3 6 [cv X 0 (some 0), .int mm, .int uu, .int oo, .int ll] T (fun v X' T' => v = (sp_division A mm uu oo ll).1 ∧ c_X (sp_division A mm uu oo ll).2 X' ∧ c_RA (sp_division A mm uu oo ll).2 T') := by
  have hM := hI.2.1.1
  have hD := hI.2.2.1
  have l0 := hX.z (s := 0) (by decide)
  have l22 := hX.z (s := 22) (by decide)
  refine cN.of (L := [some (cv X 0 (some 0)), some (.int mm), some (.int uu), some (.int oo), some (.int ll), none, none, none, none]) (by rw [ml6]; rfl) (fun hf => ?_)
  generalize hv : sp_division A mm uu oo ll = w
  unfold sp_division at hv
  refine bc6_0 l0 ((c_findTree hI hX h.1 mm).mono (by decide)) ?_
  rintro r T1 ⟨rfl, rfl⟩
  by_cases hm : 0 ≤ mm ∧ mm ≤ nI (m_nM A) - 1
  case neg =>
    rw [if_neg (fun q => hm q.1)] at hv
    rw [if_neg hm]
    exact bc6_5 (fun _ => bc6_12 (cQn.e hf (by rw [← hv]; exact ⟨rfl, hX, h⟩))) (fun _ q => by cases q)
  rw [if_pos hm]
  obtain ⟨m, hml, rfl⟩ := (rI_rng (by omega)).mp hm
  rw [nI_clamp (by omega)] at hv ⊢
  refine bc6_5 (fun q => by cases q) (fun _ _ => bc6_14 l0 ((c_findParent hI hX h.1 hml uu).mono (by decide)) ?_)
  rintro r T2 ⟨rfl, rfl⟩
  by_cases hu : uu = -1 ∨ (0 ≤ uu ∧ uu ≤ nI (m_nD A) - 1)
  case neg =>
    rw [if_neg (fun q => hu q.2)] at hv
    rw [if_neg (fun q => hu (Or.inl q)), if_neg (fun q => hu (Or.inr q))]
    exact bc6_21 (fun _ => bc6_28 (cQn.e hf (by rw [← hv]; exact ⟨rfl, hX, h⟩))) (fun _ q => by cases q)
  rw [if_pos ⟨hm, hu⟩] at hv
  -- the parent
  obtain ⟨c1, kA, kB, kC, kD⟩ : ∃ c1 : Nat ⊕ Nat, (if uu = -1 then some (1000 + m) else if 0 ≤ uu ∧ uu ≤ nI (m_nD A) - 1 then some uu.toNatClampNeg else none) = some (c_ix c1) ∧ c_ok A c1 ∧ (sp_bad A (sp_opt uu) m = true ↔ (T2.1 8 (c_ix c1) 1 ≠ nI m ∨ T2.2 8 (c_ix c1) 9 ≠ none)) ∧ (∀ o l, c_pa (sp_new A m (sp_opt uu) o l) (m_nD A) = c1) := by
    by_cases e : uu = -1
    · have eo : sp_opt uu = none := by unfold sp_opt; rw [if_pos e]
      rw [if_pos e, eo]
      have g := h.1.2.2.1 m hml
      refine ⟨.inr m, rfl, hml, ?_, fun o l => ?_⟩
      · show false = true ↔ (T2.1 8 (1000 + m) 1 ≠ nI m ∨ T2.2 8 (1000 + m) 9 ≠ none)
        rw [g.2.2.2.2.1, g.2.2.2.2.2]
        constructor
        · intro q; cases q
        · rintro (q | q) <;> exact absurd rfl q
      · unfold c_pa
        rw [show m_un (sp_new A m none o l) (m_nD A) = none from va_up_self _ _ _, show m_mp (sp_new A m none o l) (m_nD A) = m from va_up_self _ _ _]
    · obtain ⟨p, hp, rfl⟩ := (rI_rng (by omega)).mp (hu.resolve_left e)
      have eo : sp_opt (nI p) = some p := by unfold sp_opt; rw [if_neg e, nI_clamp (by omega)]
      rw [if_neg e, if_pos (hu.resolve_left e), nI_clamp (by omega), eo]
      have gp := h.1.2.2.2.1 p hp
      have hmp := (hI.2.2.2.1 p hp).1
      refine ⟨.inl p, rfl, hp, ?_, fun o l => ?_⟩
      · show (decide (m_mp A p ≠ m) || decide (m_rp A p ≠ none)) = true ↔ (T2.1 8 p 1 ≠ nI m ∨ T2.2 8 p 9 ≠ none)
        rw [gp.2.2.1, gp.2.2.2.2.2.2.2, Bool.or_eq_true, decide_eq_true_eq, decide_eq_true_eq]
        constructor
        · rintro (q | q)
          · exact Or.inl (fun z => q ((nI_eq (by omega) (by omega)).mp z))
          · exact Or.inr q
        · rintro (q | q)
          · exact Or.inl (fun z => q (by rw [z]))
          · exact Or.inr q
      · unfold c_pa
        rw [show m_un (sp_new A m (some p) o l) (m_nD A) = some p from va_up_self _ _ _]
  rw [kA]
  have lc1 := hX.c kB
  refine bc6_21 (fun q => by cases q) (fun _ _ => ?_)
  have bad : ¬ ((0 ≤ oo ∧ oo ≤ 999) ∧ (0 ≤ ll ∧ ll ≤ 9999)) → cA ext X 3 6 54 [some (cv X 0 (some 0)), some (.int (nI m)), some (.int uu), some (.int oo), some (.int ll), some (cv X 7 (some m)), some (cv X 8 (some (c_ix c1))), none, none] [] T2 (cQn X (fun v X' T' => v = w.1 ∧ c_X w.2 X' ∧ c_RA w.2 T')) := fun q => bc6_54 (cQn.e hf (by
    rw [if_neg q] at hv
    rw [← hv]
    exact ⟨rfl, hX, h⟩))
  refine bc6_30 (fun q => bad (fun z => absurd q (cI_nlt.mpr z.1.1))) (fun q1 => bc6_34 (fun q => bad (fun z => absurd q (cI_nlt.mpr z.1.2))) (fun q2 => bc6_41 (fun q => bad (fun z => absurd q (cI_nlt.mpr z.2.1))) (fun q3 => bc6_46 (fun q4 => ?_) (fun q => bad (fun z => q z.2.2)))))
  have hrng : (0 ≤ oo ∧ oo ≤ 999) ∧ (0 ≤ ll ∧ ll ≤ 9999) := ⟨⟨cI_not q1, cI_nlt.mp q2⟩, cI_not q3, q4⟩
  rw [if_pos hrng] at hv
  have bad2 : sp_bad A (sp_opt uu) m = true → cA ext X 3 6 74 [some (cv X 0 (some 0)), some (.int (nI m)), some (.int uu), some (.int oo), some (.int ll), some (cv X 7 (some m)), some (cv X 8 (some (c_ix c1))), none, none] [] T2 (cQn X (fun v X' T' => v = w.1 ∧ c_X w.2 X' ∧ c_RA w.2 T')) := fun q => bc6_74 (cQn.e hf (by
    rw [if_pos q] at hv
    rw [← hv]
    exact ⟨rfl, hX, h⟩))
  refine bc6_57 lc1 (fun q => bad2 (kC.mpr (Or.inl q))) (fun q5 => bc6_66 lc1 (fun q6 => ?_) (fun z q => bad2 (kC.mpr (Or.inr (by rw [q]; exact fun z => by cases z)))))
  rw [if_neg (fun z => by rcases kC.mp z with z | z; exact z q5; exact z q6)] at hv
  refine bc6_77 l0 (fun q => ?_) (fun q => ?_)
  case refine_2 =>
    rw [h.1.1.2.2, show (120 : Int32) = nI 120 from rfl, nI_ltI (by omega) (by omega)] at q
    rw [if_pos (by omega)] at hv
    exact bc6_86 (cQn.e hf (by rw [← hv]; exact ⟨rfl, hX, h⟩))
  rw [h.1.1.2.2, show (120 : Int32) = nI 120 from rfl, nI_ltI (by omega) (by omega)] at q
  rw [if_neg (by omega)] at hv
  obtain ⟨o, ho⟩ : ∃ o, oo.toNatClampNeg = o := ⟨_, rfl⟩
  obtain ⟨l, hl⟩ : ∃ l, ll.toNatClampNeg = l := ⟨_, rfl⟩
  have eo : oo = nI o := by rw [← ho]; exact nI_32 oo hrng.1.1
  have el : ll = nI l := by rw [← hl]; exact nI_32 ll hrng.2.1
  have ho9 : o ≤ 999 := by rw [← ho]; exact nI_33 (n := 999) hrng.1.1 hrng.1.2 (by decide)
  rw [ho, hl] at hv
  have kD' := kD o l
  rw [eo, el]
  intro S hS
  have hfS := hS.frS hf
  have e0 : S.2.1 (X.1 0 0) 5 = .int (nI (m_nD A)) := by rw [hS.i 5 rfl rfl l0, h.1.1.2.2]
  refine bk6_89 (a0 := X.1 0 0) (r5 := some (X.1 7 m)) (r6 := some (X.1 8 (c_ix c1))) (y2 := nI (m_nD A)) (hS.kd l0) e0 ?_
  refine bk6_98 (r0 := some (X.1 0 0)) (r5 := some (X.1 7 m)) (r6 := some (X.1 8 (c_ix c1))) (k_Division (ext := ext) (nw_k _ _ _ _ rfl) (hfS.new _ _ _) |>.mono (by decide)) ?_
  rintro S2 hS2
  have hx : nx S S2 2 15 := by
    rw [hS2]
    exact s_div_nx _ _ _ _ ((nx.rf S).new _ _ _) (Nat.le_refl _)
  have hd := s_div_at (S := av_new S (.inl 8) (fun f => defaultValue (sm_fT 8 f)) (sm_fN 8)) (a := S.2.2.1) (nI (m_nD A)) (nI m) (nI o) (nI l) (by show S.2.2.1 ≠ S.2.2.1 + 1; omega)
  rw [← hS2] at hd
  have hk8 : S2.1 S.2.2.1 = some (.inl 8) := by
    rw [hd.2.2.1]
    exact nw_k _ _ _ _ rfl
  have h8 : ∀ k, S2.2.1 S.2.2.1 k = if k = 9 then .null else if k = 8 then .null else if k = 7 then .null else if k = 6 then .null else if k = 5 then .int 0 else if k = 4 then .ref (S.2.2.1 + 1) else if k = 3 then .int (nI l) else if k = 2 then .int (nI o) else if k = 1 then .int (nI m) else if k = 0 then .int (nI (m_nD A)) else defaultValue (sm_fT 8 k) := by
    intro k
    refine (hd.1 k).trans ?_
    rw [nw_s _ _ _ _ (by rfl)]
    rfl
  have n8 : ¬ X.2.1 8 (m_nD A) := fun q => by
    have q2 : c_lvD A (m_nD A) := (hX 8 _).mp q
    unfold c_lvD at q2
    omega
  have n34 : ¬ X.2.1 34 (m_nD A) := fun q => by
    have q2 : c_lvD A (m_nD A) := (hX 34 _).mp q
    unfold c_lvD at q2
    omega
  have hcr := (hS.re hfS hx).addD (i := m_nD A) (a := S.2.2.1) (l := S.2.2.1 + 1) n8 n34 (c_nlt X hS hfS (by omega)) (c_nlt X hS hfS (by omega)) (by omega) hk8 hd.2.2.2 h8 hd.2.1
  have hgr : c_gr X (x_up (x_up (x_at X S2) 34 (m_nD A) (S.2.2.1 + 1)) 8 (m_nD A) S.2.2.1) S2 := by
    have e := hS.nx
    exact ((hS.gre hf hx (by decide) (by decide)).up (by omega) (by omega)).up (by omega) (by omega)
  have hne : c_ix c1 ≠ m_nD A := fun z => by
    rw [z] at lc1
    exact n8 lc1
  have ea : cv (x_up (x_up (x_at X S2) 34 (m_nD A) (S.2.2.1 + 1)) 8 (m_nD A) S.2.2.1) 0 (some 0) = .ref (X.1 0 0) := congrArg Value.ref (by rw [x_up_n _ _ (by omega), x_up_n _ _ (by omega)]; rfl)
  have eb : cv (x_up (x_up (x_at X S2) 34 (m_nD A) (S.2.2.1 + 1)) 8 (m_nD A) S.2.2.1) 8 (some (m_nD A)) = .ref S.2.2.1 := congrArg Value.ref (x_up_s _ _ _ _)
  have ec : cv (x_up (x_up (x_at X S2) 34 (m_nD A) (S.2.2.1 + 1)) 8 (m_nD A) S.2.2.1) 8 (some (c_ix c1)) = .ref (X.1 8 (c_ix c1)) := congrArg Value.ref (by rw [x_up_n _ _ (fun z => hne z.2), x_up_n _ _ (by omega)]; rfl)
  have ed : cv (x_up (x_up (x_at X S2) 34 (m_nD A) (S.2.2.1 + 1)) 8 (m_nD A) S.2.2.1) 7 (some m) = .ref (X.1 7 m) := congrArg Value.ref (by rw [x_up_n _ _ (by omega), x_up_n _ _ (by omega)]; rfl)
  have lv : ∀ s i, (x_up (x_up (x_at X S2) 34 (m_nD A) (S.2.2.1 + 1)) 8 (m_nD A) S.2.2.1).2.1 s i ↔ ((X.2.1 s i ∨ (s = 34 ∧ i = m_nD A)) ∨ (s = 8 ∧ i = m_nD A)) := fun s i => Iff.rfl
  have h22 : (x_up (x_up (x_at X S2) 34 (m_nD A) (S.2.2.1 + 1)) 8 (m_nD A) S.2.2.1).2.2 = S2 := rfl
  generalize x_up (x_up (x_at X S2) 34 (m_nD A) (S.2.2.1 + 1)) 8 (m_nD A) S.2.2.1 = X' at hcr hgr ea eb ec ed lv h22
  generalize hT' : t_up (t_up T2 34 (m_nD A) (fun _ => 0) (fun _ => none)) 8 (m_nD A) (fun k => if k = 5 then 0 else if k = 3 then nI l else if k = 2 then nI o else if k = 1 then nI m else if k = 0 then nI (m_nD A) else 0) (fun _ => none) = T' at hcr
  have o1 : ∀ s, s ∉ [8, 34] → T'.1 s = T2.1 s ∧ T'.2 s = T2.2 s := fun s hs => by
    simp only [List.mem_cons, List.not_mem_nil, or_false, not_or] at hs
    rw [← hT', t_up_k1 _ _ _ _ hs.1, t_up_k2 _ _ _ _ hs.1, t_up_k1 _ _ _ _ hs.2, t_up_k2 _ _ _ _ hs.2]
    exact ⟨rfl, rfl⟩
  have o8 : ∀ i, i ≠ m_nD A → T'.1 8 i = T2.1 8 i ∧ T'.2 8 i = T2.2 8 i := fun i hi => by
    rw [← hT', t_up_n1 _ _ _ (by omega), t_up_n2 _ _ _ (by omega), t_up_n1 _ _ _ (by omega), t_up_n2 _ _ _ (by omega)]
    exact ⟨rfl, rfl⟩
  have o34 : ∀ i, i ≠ m_nD A → T'.2 34 i = T2.2 34 i := fun i hi => by
    rw [← hT', t_up_n2 _ _ _ (by omega), t_up_n2 _ _ _ (by omega)]
  have n8f : T'.1 8 (m_nD A) = fun k => if k = 5 then 0 else if k = 3 then nI l else if k = 2 then nI o else if k = 1 then nI m else if k = 0 then nI (m_nD A) else 0 := by rw [← hT', t_up_s1]
  have n8g : T'.2 8 (m_nD A) = fun _ => none := by rw [← hT', t_up_s2]
  -- into the arrays, and the count
  generalize hT3 : iset (oset T' 22 0 (m_nD A) (some (m_nD A))) 0 0 5 ((oset T' 22 0 (m_nD A) (some (m_nD A))).1 0 0 5 + 1) = T3
  have a1 : ∀ s, s ∉ [0, 8, 22, 34] → T3.1 s = T2.1 s ∧ T3.2 s = T2.2 s := fun s hs => by
    simp only [List.mem_cons, List.not_mem_nil, or_false, not_or] at hs
    have o := o1 s (by simp only [List.mem_cons, List.not_mem_nil, or_false, not_or]; exact ⟨hs.2.1, hs.2.2.2⟩)
    rw [← hT3, iset_k _ _ _ _ hs.1]
    refine ⟨o.1, ?_⟩
    show (oset T' 22 0 (m_nD A) (some (m_nD A))).2 s = _
    rw [oset_k _ _ _ _ hs.2.2.1, o.2]
  have a0 : T3.1 0 0 5 = nI (m_nD A + 1) := by
    rw [← hT3, iset_s]
    show T'.1 0 0 5 + 1 = _
    rw [(o1 0 (by decide)).1, h.1.1.2.2, nI_1]
  have a0' : ∀ k, k ≠ 5 → T3.1 0 0 k = T2.1 0 0 k := fun k hk => by
    rw [← hT3, iset_n _ _ (by omega)]
    show T'.1 0 0 k = _
    rw [(o1 0 (by decide)).1]
  have a22 : T3.2 22 0 (m_nD A) = some (m_nD A) := by
    rw [← hT3]
    show (oset T' 22 0 (m_nD A) (some (m_nD A))).2 22 0 (m_nD A) = _
    rw [oset_s]
  have a22' : ∀ k, k ≠ m_nD A → T3.2 22 0 k = T2.2 22 0 k := fun k hk => by
    rw [← hT3]
    show (oset T' 22 0 (m_nD A) (some (m_nD A))).2 22 0 k = _
    rw [oset_n _ _ (by omega), (o1 22 (by decide)).2]
  have a8 : T3.1 8 = T'.1 8 ∧ T3.2 8 = T'.2 8 := by
    rw [← hT3, iset_k _ _ _ _ (by decide)]
    refine ⟨rfl, ?_⟩
    show (oset T' 22 0 (m_nD A) (some (m_nD A))).2 8 = _
    rw [oset_k _ _ _ _ (by decide)]
  have a34 : T3.2 34 = T'.2 34 := by
    rw [← hT3]
    show (oset T' 22 0 (m_nD A) (some (m_nD A))).2 34 = _
    rw [oset_k _ _ _ _ (by decide)]
  -- the parent takes it in
  have gk := h.1.2.2.2.2.1 c1 kB
  have hin : ∀ x, x ∈ m_kids A c1 ↔ x < m_nD A ∧ c_pa A x = c1 := fun x => c_kid_iff
  have od' : ∀ x, x ≠ m_nD A → m_od (sp_new A m (sp_opt uu) o l) x = m_od A x := fun x hx => va_up_ne _ _ hx
  have odn : m_od (sp_new A m (sp_opt uu) o l) (m_nD A) = o := va_up_self _ _ _
  have hn3 : ∀ x, (x = m_nD A ∨ x ∈ m_kids A c1) → T3.1 8 x 0 = nI x ∧ T3.1 8 x 2 = nI (m_od (sp_new A m (sp_opt uu) o l) x) ∧ x < 1000000 ∧ m_od (sp_new A m (sp_opt uu) o l) x < 1000000 := by
    intro x hx
    rw [a8.1]
    by_cases e : x = m_nD A
    · rw [e, odn, n8f]
      exact ⟨rfl, rfl, by omega, by omega⟩
    · have hx' := (hin x).mp (hx.resolve_left e)
      have g := h.1.2.2.2.1 x hx'.1
      have b := (hI.2.2.2.1 x hx'.1).2.1
      rw [od' x e, (o8 x e).1]
      exact ⟨g.2.1, g.2.2.2.1, by omega, by omega⟩
  have hdK : m_nD A ∉ m_kids A c1 := fun z => by
    have := ((hin _).mp z).1
    omega
  have hlK : (m_kids A c1).length < 120 := by
    have e : (m_kids A c1).length ≤ m_nD A := m_kf_len A c1 (m_nD A)
    omega
  have g7 : T3.2 8 (c_ix c1) 7 = (m_kids A c1).head? := by
    rw [a8.2, (o8 _ hne).2]
    exact gk.1
  have g8 : c_chn T3 8 8 (m_kids A c1) := gk.2.cong (fun x hx => by
    have := ((hin x).mp hx).1
    rw [a8.2, (o8 x (by omega)).2])
  have ld' : X'.2.1 8 (m_nD A) := (lv _ _).mpr (Or.inr ⟨rfl, rfl⟩)
  have lo' : ∀ s i, X.2.1 s i → X'.2.1 s i := fun s i q => (lv _ _).mpr (Or.inl (Or.inl q))
  have ct := c_take (ext := ext) (X := X') (T := T3) (od := m_od (sp_new A m (sp_opt uu) o l)) (d := m_nD A) (c := c_ix c1) (K := m_kids A c1) ld' (lo' _ _ lc1) (fun x hx => lo' _ _ (hX.d ((hin x).mp hx).1)) hn3 (m_kids_nodup A c1) hdK hlK g7 g8
  have fin := bc6_108 (ext := ext) (X := X') (T := T') (d := 2) (a0 := 0) (x1 := nI m) (x2 := uu) (x3 := nI o) (x4 := nI l) (r5 := some m) (a6 := c_ix c1) (x7 := nI (m_nD A)) (o8 := none) (rk0 := some (m_nD A)) (i_3 := m_nD A) (Q := cQn X (fun v X' T' => v = w.1 ∧ c_X w.2 X' ∧ c_RA w.2 T')) (lo' _ _ l0) (lo' _ _ lc1) rfl q (fun j hj => by cases hj; exact ld') (by rw [hT3]; exact ct.mono (by decide)) ?_ S2 hcr
  · rw [ea, eb, ec, ed] at fin
    exact fin
  · rintro T5 ⟨⟨k51, k52, k53, k54, k55, k56⟩, e6, m1, m2, hm12, hlt, hge, g7', g8'⟩
    refine bc6_136 (cQn.g (by rw [h22]; exact hgr) ?_)
    rw [← hv]
    have odeq : ∀ x y, x < m_nD A → y < m_nD A → m_lt (m_od A) x y → m_lt (m_od (sp_new A m (sp_opt uu) o l)) x y := fun x y hx hy q => by
      unfold m_lt at q ⊢
      rw [od' x (by omega), od' y (by omega)]
      exact q
    have srt : ∀ c, (m_kids A c).Pairwise (m_lt (m_od (sp_new A m (sp_opt uu) o l))) := fun c => (m_kids_sorted A c).imp_of_mem (fun {x y} hx hy q => odeq x y (c_kid_iff.mp hx).1 (c_kid_iff.mp hy).1 q)
    refine ⟨rfl, fun s i => ?_, c_RA_div hI h (by rw [k51]; exact a0) (fun k hk => by rw [k51]; exact a0' k hk) (by rw [k52 22 (by decide)]; exact a22) (fun k hk => by rw [k52 22 (by decide)]; exact a22' k hk) ⟨?_, ?_, ?_, ?_, ?_, ?_, ?_⟩ (fun i hi => ⟨?_, ?_, ?_⟩) (fun i hi => ?_) (fun s hs => ?_) (fun c hc => ?_)⟩
    · rw [lv, hX s i]
      by_cases e8 : s = 8
      · subst e8
        show ((c_lvD A i ∨ _) ∨ _) ↔ (i < m_nD A + 1 ∨ (1000 ≤ i ∧ i < 1000 + m_nM A))
        unfold c_lvD
        omega
      by_cases e34 : s = 34
      · subst e34
        show ((c_lvD A i ∨ _) ∨ _) ↔ (i < m_nD A + 1 ∨ (1000 ≤ i ∧ i < 1000 + m_nM A))
        unfold c_lvD
        omega
      by_cases e9 : s = 9
      · subst e9
        constructor
        · rintro ((a | a) | a)
          · obtain ⟨d, j, e, hd, he, ht⟩ := (show c_lvL A i from a)
            refine (show c_lvL _ i from ⟨d, j, e, by show d < m_nD A + 1; omega, ?_, ht⟩)
            rw [show m_lk (sp_new A m (sp_opt uu) o l) d = m_lk A d from va_up_ne _ _ (by omega)]
            exact he
          · exact absurd a.1 e34
          · exact absurd a.1 e8
        · intro a
          obtain ⟨d, j, e, hd, he, ht⟩ := (show c_lvL (sp_new A m (sp_opt uu) o l) i from a)
          have hd' : d < m_nD A + 1 := hd
          by_cases ed : d = m_nD A
          · rw [ed, show m_lk (sp_new A m (sp_opt uu) o l) (m_nD A) = [] from va_up_self _ _ _] at he
            cases he
          · rw [show m_lk (sp_new A m (sp_opt uu) o l) d = m_lk A d from va_up_ne _ _ ed] at he
            exact Or.inl (Or.inl (show c_lvL A i from ⟨d, j, e, by omega, he, ht⟩))
      · constructor
        · rintro ((a | a) | a)
          · unfold c_lv at a ⊢
            split at a
            · exact a
            · exact a
            · exact absurd rfl e8
            · exact absurd rfl e34
            · exact absurd rfl e9
            · exact a
          · exact absurd a.1 e34
          · exact absurd a.1 e8
        · intro a
          refine Or.inl (Or.inl ?_)
          unfold c_lv at a ⊢
          split at a
          · exact a
          · exact a
          · exact absurd rfl e8
          · exact absurd rfl e34
          · exact absurd rfl e9
          · exact a
    · rw [k51, a8.1, n8f]; rfl
    · rw [k51, a8.1, n8f]; rfl
    · rw [k51, a8.1, n8f]; rfl
    · rw [k51, a8.1, n8f]; rfl
    · rw [k51, a8.1, n8f]; rfl
    · rw [kD']; exact e6
    · rw [k53 _ 9 (by decide) (by decide) (by decide), a8.2, n8g]
    · rw [k51, a8.1, (o8 i hi).1]
    · rw [k54 i hi, a8.2, (o8 i hi).2]
    · rw [k53 _ 9 (by decide) (by decide) (by decide), a8.2, (o8 i hi).2]
    · rw [k52 34 (by decide), a34, o34 i hi]
    · have := a1 s hs
      simp only [List.mem_cons, List.not_mem_nil, or_false, not_or] at hs
      rw [k51, k52 s hs.2.1]
      exact this
    · have hpa : ∀ x, c_pa (sp_new A m (sp_opt uu) o l) x = if x = m_nD A then c1 else c_pa A x := fun x => by
        by_cases e : x = m_nD A
        · rw [if_pos e, e, kD']
        · rw [if_neg e, c_pa_new e]
      by_cases e : c = c1
      · subst e
        have ek : m_kids (sp_new A m (sp_opt uu) o l) c = m1 ++ m_nD A :: m2 := by
          have hdK' := hdK
          rw [hm12] at hdK'
          refine m_lt_only (od := m_od (sp_new A m (sp_opt uu) o l)) _ _ (m_kids_sorted (sp_new A m (sp_opt uu) o l) c) (m_ins_pw (by rw [← hm12]; exact srt c) hdK' hlt hge) (fun x => ?_)
          rw [c_kid_iff, hpa]
          have hx1 : x ∈ m1 ++ m_nD A :: m2 ↔ x = m_nD A ∨ x ∈ m_kids A c := by
            rw [hm12]
            simp only [List.mem_append, List.mem_cons]
            constructor
            · rintro (a | a | a)
              · exact Or.inr (Or.inl a)
              · exact Or.inl a
              · exact Or.inr (Or.inr a)
            · rintro (a | a | a)
              · exact Or.inr (Or.inl a)
              · exact Or.inl a
              · exact Or.inr (Or.inr a)
          rw [hx1, c_kid_iff]
          show (x < m_nD A + 1 ∧ _) ↔ _
          by_cases ex : x = m_nD A
          · rw [if_pos ex]
            exact ⟨fun _ => Or.inl ex, fun _ => ⟨by omega, rfl⟩⟩
          · rw [if_neg ex]
            exact ⟨fun z => Or.inr ⟨by omega, z.2⟩, fun z => z.elim (fun q => absurd q ex) (fun q => ⟨by omega, q.2⟩)⟩
        rw [ek]
        exact ⟨g7', g8'⟩
      · have ek : m_kids (sp_new A m (sp_opt uu) o l) c = m_kids A c := by
          refine m_lt_only (od := m_od (sp_new A m (sp_opt uu) o l)) _ _ (m_kids_sorted (sp_new A m (sp_opt uu) o l) c) (srt c) (fun x => ?_)
          rw [c_kid_iff, hpa, c_kid_iff]
          show (x < m_nD A + 1 ∧ _) ↔ _
          by_cases ex : x = m_nD A
          · rw [if_pos ex]
            exact ⟨fun z => absurd z.2.symm e, fun z => absurd z.1 (by omega)⟩
          · rw [if_neg ex]
            exact ⟨fun z => ⟨by omega, z.2⟩, fun z => ⟨by omega, z.2⟩⟩
        rw [ek]
        by_cases en : c = .inl (m_nD A)
        · subst en
          have e0 : m_kids A (.inl (m_nD A)) = [] := by
            cases hk : m_kids A (.inl (m_nD A)) with
            | nil => rfl
            | cons y l' =>
              have hy : y ∈ m_kids A (.inl (m_nD A)) := by rw [hk]; simp
              obtain ⟨z1, z2⟩ := c_kid_iff.mp hy
              unfold c_pa at z2
              cases hu : m_un A y with
              | none => rw [hu] at z2; cases z2
              | some p =>
                rw [hu] at z2
                have z3 : p = m_nD A := Sum.inl.inj z2
                have := (hI.2.2.2.2.1 y z1 p hu).1
                omega
          rw [e0]
          refine ⟨?_, fun l1 x l2 z => ?_⟩
          · show T5.2 8 (m_nD A) 7 = none
            rw [k55 _ (Ne.symm hne), a8.2, n8g]
          · cases l1 <;> cases z
        · have hc' : c_ok A c := by
            cases c with
            | inr m' => exact hc
            | inl d =>
              have hd1 : d < m_nD A + 1 := hc
              show d < m_nD A
              have : d ≠ m_nD A := fun z => en (by rw [z])
              omega
          have hnc : c_ix c ≠ m_nD A := fun z => n8 (by rw [← z]; exact hX.c hc')
          have g := h.1.2.2.2.2.1 c hc'
          rw [k55 _ (fun z => e (c_ix_inj hI hc' kB z)), a8.2, (o8 _ hnc).2]
          refine ⟨g.1, g.2.cong (fun x hx => ?_)⟩
          have hx' := c_kid_iff.mp hx
          rw [k56 x (by omega) (fun z => e (by rw [← hx'.2, ((hin x).mp z).2])), a8.2, (o8 x (by omega)).2]
end CDV
