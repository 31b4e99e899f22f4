/-! THE CLASS'S CALL: link -/
def m_lkd (A : mS) (d f a b : Nat) : mS := m_wD A (m_nD A) (m_mp A) (m_un A) (m_od A) (m_lb A) (m_rp A) (va_up (m_lk A) d (m_lk A d ++ [(f, a, b)]))
section CLK
variable {A : mS} {d f a b : Nat}
theorem m_lkd_s : m_lk (m_lkd A d f a b) d = m_lk A d ++ [(f, a, b)] := va_up_self _ _ _
theorem m_lkd_n {x : Nat} (h : x ≠ d) : m_lk (m_lkd A d f a b) x = m_lk A x := va_up_ne _ _ h
theorem c_lvL_j (hI : m_Inv A) {x j : Nat} {e : Nat × Nat × Nat} (hx : x < m_nD A) (h : (m_lk A x)[j]? = some e) : j < 5 ∧ j < (m_lk A x).length := by
  have := (hI.2.2.2.2.2.2.1 x hx).1
  have := (List.getElem?_eq_some_iff.mp h).1
  omega
theorem m_lnk_k (hI : m_Inv A) {x j : Nat} {e : Nat × Nat × Nat} (hx : x < m_nD A) (h : (m_lk A x)[j]? = some e) : m_lnk A (5 * x + j) = e := by
  have hj := (c_lvL_j hI hx h).1
  unfold m_lnk
  rw [show (5 * x + j) / 5 = x by omega, show (5 * x + j) % 5 = j by omega, List.getD_eq_getElem?_getD, h]
  rfl
theorem lkd_live (hd : d < m_nD A) (t : Nat) : c_lvL (m_lkd A d f a b) t ↔ (c_lvL A t ∨ t = 5 * d + (m_lk A d).length) := by
  constructor
  · rintro ⟨x, j, e, hx, he, ht⟩
    by_cases q : x = d
    · subst q
      rw [m_lkd_s] at he
      by_cases q2 : j < (m_lk A x).length
      · rw [List.getElem?_append_left q2] at he
        exact Or.inl ⟨x, j, e, hx, he, ht⟩
      · have := (List.getElem?_eq_some_iff.mp he).1
        rw [List.length_append] at this
        have h1 : j < (m_lk A x).length + 1 := this
        exact Or.inr (by rw [ht, show j = (m_lk A x).length by omega])
    · rw [m_lkd_n q] at he
      exact Or.inl ⟨x, j, e, hx, he, ht⟩
  · rintro (⟨x, j, e, hx, he, ht⟩ | ht)
    · refine ⟨x, j, e, hx, ?_, ht⟩
      by_cases q : x = d
      · subst q
        rw [m_lkd_s, List.getElem?_append_left (List.getElem?_eq_some_iff.mp he).1]
        exact he
      · rw [m_lkd_n q]
        exact he
    · refine ⟨d, (m_lk A d).length, (f, a, b), hd, ?_, ht⟩
      rw [m_lkd_s, List.getElem?_append_right (Nat.le_refl _), Nat.sub_self]
      rfl
theorem lkd_old (hI : m_Inv A) {t : Nat} (h : c_lvL A t) : m_lnk (m_lkd A d f a b) t = m_lnk A t := by
  obtain ⟨x, j, e, hx, he, rfl⟩ := h
  have hj := c_lvL_j hI hx he
  unfold m_lnk
  rw [show (5 * x + j) / 5 = x by omega, show (5 * x + j) % 5 = j by omega]
  by_cases q : x = d
  · subst q
    rw [m_lkd_s, List.getD_eq_getElem?_getD, List.getD_eq_getElem?_getD, List.getElem?_append_left hj.2]
  · rw [m_lkd_n q]
theorem lkd_new (hl : (m_lk A d).length < 5) : m_lnk (m_lkd A d f a b) (5 * d + (m_lk A d).length) = (f, a, b) := by
  unfold m_lnk
  rw [show (5 * d + (m_lk A d).length) / 5 = d by omega, show (5 * d + (m_lk A d).length) % 5 = (m_lk A d).length by omega, m_lkd_s, List.getD_eq_getElem?_getD, List.getElem?_append_right (Nat.le_refl _), Nat.sub_self]
  rfl
theorem lkd_not (hI : m_Inv A) (hl : (m_lk A d).length < 5) : ¬ c_lvL A (5 * d + (m_lk A d).length) := by
  rintro ⟨x, j, e, hx, he, ht⟩
  have hj := c_lvL_j hI hx he
  have q : x = d := by omega
  subst q
  omega
theorem c_RA_link {T T2 : cT} (hI : m_Inv A) (h : c_RA A T) (hd : d < m_nD A) (hl : (m_lk A d).length < 5) (e3 : T2.2 34 d (m_lk A d).length = some (5 * d + (m_lk A d).length)) (e3' : ∀ i k, ¬ (i = d ∧ k = (m_lk A d).length) → T2.2 34 i k = T.2 34 i k)
    (e8 : T2.1 8 d 5 = nI ((m_lk A d).length + 1)) (e8' : ∀ i k, ¬ (i = d ∧ k = 5) → T2.1 8 i k = T.1 8 i k) (e82 : T2.2 8 = T.2 8)
    (e9 : T2.1 9 (5 * d + (m_lk A d).length) 2 = nI a ∧ T2.1 9 (5 * d + (m_lk A d).length) 3 = nI b ∧ T2.2 9 (5 * d + (m_lk A d).length) 0 = some d ∧ T2.2 9 (5 * d + (m_lk A d).length) 1 = some f) (e9' : ∀ i, i ≠ 5 * d + (m_lk A d).length → T2.1 9 i = T.1 9 i ∧ ∀ k, k ≠ 4 → T2.2 9 i k = T.2 9 i k)
    (e6 : T2.1 6 = T.1 6) (eo : ∀ s, s ∉ [6, 8, 9, 34] → T2.1 s = T.1 s ∧ T2.2 s = T.2 s) (hC : c_gC (m_lkd A d f a b) T2) : c_RA (m_lkd A d f a b) T2 := by
  obtain ⟨⟨gN, gF, gM, gD, gK, gL, gC⟩, gS, gT, gP⟩ := h
  have hD := hI.2.2.1
  have hM := hI.2.1.1
  have o0 := eo 0 (by decide)
  have o7 := eo 7 (by decide)
  have o20 := eo 20 (by decide)
  have o21 := eo 21 (by decide)
  have o22 := eo 22 (by decide)
  refine ⟨⟨?_, ?_, ?_, ?_, ?_, ?_, hC⟩, ?_, ?_, ?_⟩
  · unfold c_gN
    rw [o0.1]
    exact gN
  · intro g hg
    rw [o20.2, e6]
    exact gF g hg
  · intro m hm
    have hm' : m < m_nM A := hm
    rw [o21.2, o7.1, o7.2, e82, e8' (1000 + m) 0 (by omega), e8' (1000 + m) 1 (by omega)]
    exact gM m hm
  · intro x hx
    have g := gD x hx
    rw [o22.2, e82, e8' x 0 (by omega), e8' x 1 (by omega), e8' x 2 (by omega), e8' x 3 (by omega)]
    refine ⟨g.1, g.2.1, g.2.2.1, g.2.2.2.1, g.2.2.2.2.1, ?_, g.2.2.2.2.2.2.1, g.2.2.2.2.2.2.2⟩
    by_cases e : x = d
    · subst e
      rw [m_lkd_s, List.length_append]
      exact e8
    · rw [m_lkd_n e, e8' x 5 (by omega)]
      exact g.2.2.2.2.2.1
  · intro c hc
    rw [e82, m_kids_cg (A := A) (B := m_lkd A d f a b) rfl rfl rfl rfl c]
    have g := gK c hc
    exact ⟨g.1, g.2.cong (fun x _ => by rw [e82])⟩
  · intro x j e hx he
    have hx' : x < m_nD A := hx
    have old : (m_lk A x)[j]? = some e → T2.2 34 x j = some (5 * x + j) ∧ T2.2 9 (5 * x + j) 0 = some x ∧ T2.2 9 (5 * x + j) 1 = some e.1 ∧ T2.1 9 (5 * x + j) 2 = nI e.2.1 ∧ T2.1 9 (5 * x + j) 3 = nI e.2.2 := fun he => by
      have hj := c_lvL_j hI hx he
      have ne1 : ¬ (x = d ∧ j = (m_lk A d).length) := by
        rintro ⟨rfl, q⟩
        omega
      have ne2 : 5 * x + j ≠ 5 * d + (m_lk A d).length := fun q => ne1 (by omega)
      have q := e9' _ ne2
      rw [e3' x j ne1, q.1, q.2 0 (by decide), q.2 1 (by decide)]
      exact gL x j e hx he
    by_cases q : x = d
    · subst q
      rw [m_lkd_s] at he
      by_cases q2 : j < (m_lk A x).length
      · rw [List.getElem?_append_left q2] at he
        exact old he
      · have := (List.getElem?_eq_some_iff.mp he).1
        rw [List.length_append] at this
        have h1 : j < (m_lk A x).length + 1 := this
        have h2 : j = (m_lk A x).length := by omega
        subst h2
        rw [List.getElem?_append_right (Nat.le_refl _), Nat.sub_self] at he
        cases he
        exact ⟨e3, e9.2.2.1, e9.2.2.2, e9.1, e9.2.1⟩
    · rw [m_lkd_n q] at he
      exact old he
  · have := gS.cong (A := A) (T' := T2) (fun s hs => eo s (by revert hs; revert s; decide))
    refine ⟨this.1, fun i e he => ?_⟩
    obtain ⟨⟨t, q1, q2, q3, q4⟩, q5, q6⟩ := this.2 i e he
    exact ⟨⟨t, q1, (lkd_live hd t).mpr (Or.inl q2), q3, by rw [lkd_old hI q2]; exact q4⟩, q5, q6⟩
  · exact gT.cong (A := A) (fun s hs => eo s (by revert hs; revert s; decide))
  · exact gP.cong (A := A) (fun s hs => eo s (by revert hs; revert s; decide))
end CLK
section CLN
variable {ext : av_X} {X : cX} {T : cT} {A : mS}
set_option maxHeartbeats 1000000 in
theorem c_link (hI : m_Inv A) (hX : c_X A X) (h : c_RA A T) (dd ff aa bb : Int32) : cN ext X 2 10 [cv X 0 (some 0), .int dd, .int ff, .int aa, .int bb] T (fun v X' T' => v = (sp_link A dd ff aa bb).1 ∧ c_X (sp_link A dd ff aa bb).2 X' ∧ c_RA (sp_link A dd ff aa bb).2 T') := by
  have hF := hI.1.1
  have hD := hI.2.2.1
  have l0 := hX.z (s := 0) (by decide)
  refine cN.of (L := [some (cv X 0 (some 0)), some (.int dd), some (.int ff), some (.int aa), some (.int bb), none, none, none]) (by rw [ml10]; rfl) (fun hf => ?_)
  generalize hv : sp_link A dd ff aa bb = w
  unfold sp_link at hv
  refine bc10_0 l0 ((c_findDivision hI hX h.1 dd).mono (by decide)) ?_
  rintro r T1 ⟨rfl, rfl⟩
  refine bc10_5 l0 ((c_findFile hI hX h.1 ff).mono (by decide)) ?_
  rintro r T2 ⟨rfl, rfl⟩
  by_cases hd : 0 ≤ dd ∧ dd ≤ nI (m_nD A) - 1
  case neg =>
    rw [if_neg (fun q => hd q.1)] at hv
    rw [if_neg hd]
    exact bc10_12 (fun _ => bc10_24 (cQn.e hf (by rw [← hv]; exact ⟨rfl, hX, h⟩))) (fun _ q => by cases q)
  by_cases hff : 0 ≤ ff ∧ ff ≤ nI (m_nF A) - 1
  case neg =>
    rw [if_neg (fun q => hff q.2)] at hv
    rw [if_pos hd, if_neg hff]
    exact bc10_12 (fun q => by cases q) (fun _ _ => bc10_19 (fun _ => bc10_24 (cQn.e hf (by rw [← hv]; exact ⟨rfl, hX, h⟩))) (fun _ q => by cases q))
  rw [if_pos ⟨hd, hff⟩] at hv
  rw [if_pos hd, if_pos hff]
  obtain ⟨d, hdl, rfl⟩ := (rI_rng (by omega)).mp hd
  obtain ⟨f, hfl, rfl⟩ := (rI_rng (by omega)).mp hff
  rw [nI_clamp (by omega), nI_clamp (by omega)] at hv ⊢
  have ld := hX.d hdl
  have lf := hX.f hfl
  refine bc10_12 (fun q => by cases q) (fun _ _ => bc10_19 (fun q => by cases q) (fun _ _ => ?_))
  have bad : ¬ (0 ≤ aa ∧ aa < bb ∧ bb ≤ 100000) → cA ext X 2 10 43 [some (cv X 0 (some 0)), some (.int (nI d)), some (.int (nI f)), some (.int aa), some (.int bb), some (cv X 8 (some d)), some (cv X 6 (some f)), none] [] T2 (cQn X (fun v X' T' => v = w.1 ∧ c_X w.2 X' ∧ c_RA w.2 T')) := fun q => bc10_43 (cQn.e hf (by
    rw [if_neg q] at hv
    rw [← hv]
    exact ⟨rfl, hX, h⟩))
  refine bc10_26 (fun q => bad (fun z => absurd q (cI_nlt.mpr z.1))) (fun q1 => bc10_30 (fun q => bad (fun z => cI_nlt.mpr q z.2.1)) (fun q2 => bc10_36 (fun q3 => ?_) (fun q => bad (fun z => q z.2.2))))
  have hab : aa < bb := by
    have := q2
    rw [Int32.le_iff_toInt_le] at this
    rw [Int32.lt_iff_toInt_lt]
    omega
  have hrng : 0 ≤ aa ∧ aa < bb ∧ bb ≤ 100000 := ⟨cI_not q1, hab, q3⟩
  rw [if_pos hrng] at hv
  have gd := h.1.2.2.2.1 d hdl
  refine bc10_46 ld (fun q4 => ?_) (fun z q4 => ?_)
  case refine_2 =>
    rw [if_pos (by rw [← gd.2.2.2.2.2.2.2, q4]; exact fun z => by cases z)] at hv
    exact bc10_54 (cQn.e hf (by rw [← hv]; exact ⟨rfl, hX, h⟩))
  rw [if_neg (by rw [← gd.2.2.2.2.2.2.2, q4]; exact fun z => z rfl)] at hv
  have hl5 := (hI.2.2.2.2.2.2.1 d hdl).1
  refine bc10_57 ld (fun q5 => ?_) (fun q5 => ?_)
  case refine_2 =>
    rw [gd.2.2.2.2.2.1, show (5 : Int32) = nI 5 from rfl, nI_ltI (by omega) (by omega)] at q5
    rw [if_pos (by omega)] at hv
    exact bc10_66 (cQn.e hf (by rw [← hv]; exact ⟨rfl, hX, h⟩))
  rw [gd.2.2.2.2.2.1, show (5 : Int32) = nI 5 from rfl, nI_ltI (by omega) (by omega)] at q5
  rw [if_neg (by omega)] at hv
  obtain ⟨a, ha⟩ : ∃ a, aa.toNatClampNeg = a := ⟨_, rfl⟩
  obtain ⟨b, hb⟩ : ∃ b, bb.toNatClampNeg = b := ⟨_, rfl⟩
  have ea : aa = nI a := by rw [← ha]; exact nI_32 aa hrng.1
  have h0b : 0 ≤ bb := by
    have h1 := hrng.1
    have h2 := hrng.2.1
    rw [Int32.le_iff_toInt_le] at h1 ⊢
    rw [Int32.lt_iff_toInt_lt] at h2
    omega
  have eb : bb = nI b := by rw [← hb]; exact nI_32 bb h0b
  have hb9 : b ≤ 100000 := by rw [← hb]; exact nI_33 (n := 100000) h0b hrng.2.2 (by decide)
  have hab' : a < b := by
    have h2 := hrng.2.1
    have h3 : a < 2 ^ 31 := by
      rw [← ha]
      have := aa.toInt_lt
      show aa.toInt.toNat < 2 ^ 31
      omega
    rw [ea, eb, nI_ltI h3 (by omega)] at h2
    exact h2
  rw [ha, hb] at hv
  have hv' : w = (nI ((m_lk A d).length + 1), m_lkd A d f a b) := hv.symm
  clear hv
  rw [ea, eb]
  intro S hS
  have hfS := hS.frS hf
  refine bk10_69 (r0 := some (X.1 0 0)) (r5 := some (X.1 8 d)) (r6 := some (X.1 6 f)) ?_
  refine bk10_72 (r0 := some (X.1 0 0)) (r5 := some (X.1 8 d)) (r6 := some (X.1 6 f)) (k_Link (ext := ext) (r1 := some (X.1 8 d)) (r2 := some (X.1 6 f)) (nw_k _ _ _ _ rfl)) ?_
  rintro S2 hS2
  obtain ⟨t, ht⟩ : ∃ t, 5 * d + (m_lk A d).length = t := ⟨_, rfl⟩
  have hx : nx S S2 1 5 := by
    rw [hS2]
    exact (((((nx.rf S).new _ _ _).set (Nat.le_refl _) _ _).set (Nat.le_refl _) _ _).set (Nat.le_refl _) _ _).set (Nat.le_refl _) _ _ |>.set (Nat.le_refl _) _ _
  have hat : ∀ k, S2.2.1 S.2.2.1 k = if k = 4 then .null else if k = 3 then .int (nI b) else if k = 2 then .int (nI a) else if k = 1 then .ref (X.1 6 f) else if k = 0 then .ref (X.1 8 d) else defaultValue (sm_fT 9 k) := by
    intro k
    rw [hS2, st_s, st_s, st_s, st_s, st_s, nw_s _ _ _ _ (by rfl)]
    rfl
  have hkd : S2.1 S.2.2.1 = some (.inl 9) := by
    rw [hS2]
    exact nw_k S (.inl 9) (fun f => defaultValue (sm_fT 9 f)) (sm_fN 9) rfl
  have nL : ¬ c_lvL A t := by rw [← ht]; exact lkd_not hI q5
  have nl : ¬ X.2.1 9 t := fun q => nL ((hX 9 _).mp q)
  have hcr := (hS.re hfS hx).add (s := 9) (i := t) (a := S.2.2.1) (f := fun k => if k = 3 then nI b else if k = 2 then nI a else 0) (g := fun k => if k = 1 then some f else if k = 0 then some d else none) nl (c_nlt X hS hfS (Nat.le_refl _)) hkd
    (fun k r _ => by
      match k, r with
      | 0, r => cases r
      | 1, r => cases r
      | 2, _ => rw [hat]; rfl
      | 3, _ => rw [hat]; rfl
      | k + 4, r => cases r)
    (fun k t' r => by
      match k, r with
      | 0, r =>
        cases r
        exact ⟨by rw [hat]; rfl, fun j hj => by cases hj; exact ld⟩
      | 1, r =>
        cases r
        exact ⟨by rw [hat]; rfl, fun j hj => by cases hj; exact lf⟩
      | 2, r => cases r
      | 3, r => cases r
      | 4, _ => exact ⟨by rw [hat]; rfl, fun j hj => by cases hj⟩
      | k + 5, _ =>
        rw [hat, if_neg (by omega), if_neg (by omega), if_neg (by omega), if_neg (by omega), if_neg (by omega), if_neg (by omega), if_neg (by omega)]
        exact ⟨rfl, fun j hj => by cases hj⟩)
    (fun k t' r => by cases r)
  have hgr : c_gr X (x_up (x_at X S2) 9 t S.2.2.1) S2 := (hS.gre hf hx (by decide) (by decide)).up (by omega) (by rw [hS.nx]; exact Nat.le_refl _)
  generalize hX' : x_up (x_at X S2) 9 t S.2.2.1 = X' at hcr hgr
  generalize hT' : t_up T2 9 t (fun k => if k = 3 then nI b else if k = 2 then nI a else 0) (fun k => if k = 1 then some f else if k = 0 then some d else none) = T' at hcr
  have ca : cv X' 0 (some 0) = .ref (X.1 0 0) := by rw [← hX']; exact congrArg Value.ref (x_up_n _ _ (by omega))
  have cb : cv X' 9 (some t) = .ref S.2.2.1 := by rw [← hX']; exact congrArg Value.ref (x_up_s _ _ _ _)
  have cc : cv X' 8 (some d) = .ref (X.1 8 d) := by rw [← hX']; exact congrArg Value.ref (x_up_n _ _ (by omega))
  have cd : cv X' 6 (some f) = .ref (X.1 6 f) := by rw [← hX']; exact congrArg Value.ref (x_up_n _ _ (by omega))
  have lv : ∀ s i, X'.2.1 s i ↔ (X.2.1 s i ∨ (s = 9 ∧ i = t)) := fun s i => by rw [← hX']; exact Iff.rfl
  have h22 : X'.2.2 = S2 := by rw [← hX']; rfl
  have lo : ∀ s i, X.2.1 s i → X'.2.1 s i := fun s i q => (lv s i).mpr (Or.inl q)
  have lt : X'.2.1 9 t := (lv _ _).mpr (Or.inr ⟨rfl, rfl⟩)
  have o1 : ∀ s, s ≠ 9 → T'.1 s = T2.1 s ∧ T'.2 s = T2.2 s := fun s hs => by
    rw [← hT', t_up_k1 _ _ _ _ hs, t_up_k2 _ _ _ _ hs]
    exact ⟨rfl, rfl⟩
  have o9 : ∀ i, i ≠ t → T'.1 9 i = T2.1 9 i ∧ T'.2 9 i = T2.2 9 i := fun i hi => by
    rw [← hT', t_up_n1 _ _ _ (by omega), t_up_n2 _ _ _ (by omega)]
    exact ⟨rfl, rfl⟩
  have n9f : T'.1 9 t = fun k => if k = 3 then nI b else if k = 2 then nI a else 0 := by rw [← hT', t_up_s1]
  have n9g : T'.2 9 t = fun k => if k = 1 then some f else if k = 0 then some d else none := by rw [← hT', t_up_s2]
  have hcnt : T'.1 8 d 5 = nI (m_lk A d).length := by
    rw [(o1 8 (by decide)).1]
    exact gd.2.2.2.2.2.1
  generalize hT3 : iset (oset T' 34 d (m_lk A d).length (some t)) 8 d 5 ((oset T' 34 d (m_lk A d).length (some t)).1 8 d 5 + 1) = T3
  have b1 : ∀ s, s ≠ 8 → T3.1 s = T'.1 s := fun s hs => by rw [← hT3, iset_k _ _ _ _ hs]; rfl
  have b2 : ∀ s, s ≠ 34 → T3.2 s = T'.2 s := fun s hs => by
    rw [← hT3]
    show (oset T' 34 d (m_lk A d).length (some t)).2 s = _
    rw [oset_k _ _ _ _ hs]
  have b8 : T3.1 8 d 5 = nI ((m_lk A d).length + 1) := by
    rw [← hT3, iset_s]
    show T'.1 8 d 5 + 1 = _
    rw [hcnt, nI_1]
  have b8' : ∀ i k, ¬ (i = d ∧ k = 5) → T3.1 8 i k = T2.1 8 i k := fun i k hk => by
    rw [← hT3, iset_n _ _ (by omega)]
    show T'.1 8 i k = _
    rw [(o1 8 (by decide)).1]
  have b34 : T3.2 34 d (m_lk A d).length = some t := by
    rw [← hT3]
    show (oset T' 34 d (m_lk A d).length (some t)).2 34 d _ = _
    rw [oset_s]
  have b34' : ∀ i k, ¬ (i = d ∧ k = (m_lk A d).length) → T3.2 34 i k = T2.2 34 i k := fun i k hk => by
    rw [← hT3]
    show (oset T' 34 d (m_lk A d).length (some t)).2 34 i k = _
    rw [oset_n _ _ (by omega), (o1 34 (by decide)).2]
  -- the file takes it in
  obtain ⟨K, k1, k2, k3, k4, k5⟩ := h.1.2.2.2.2.2.2 f hfl
  have hKL : ∀ x, x ∈ K → c_lvL A x := fun x hx => ((k4 x).mp hx).1
  have htK : t ∉ K := fun z => nL (hKL t z)
  have hlt600 : ∀ x, c_lvL A x → x < 600 := by
    rintro x ⟨y, j, e, hy, he, rfl⟩
    have := c_lvL_j hI hy he
    omega
  have hlen : K.length < 600 := by
    have := nd_len 600 (t :: K) (List.nodup_cons.mpr ⟨htK, k3⟩) (fun x hx => by
      rcases List.mem_cons.mp hx with e | hx
      · rw [e, ← ht]; omega
      · exact hlt600 x (hKL x hx))
    rw [List.length_cons] at this
    omega
  have hnew : m_lnk (m_lkd A d f a b) t = (f, a, b) := by rw [← ht]; exact lkd_new q5
  have hold : ∀ x, c_lvL A x → m_lnk (m_lkd A d f a b) x = m_lnk A x := fun x hx => lkd_old hI hx
  have hn3 : ∀ x, (x = t ∨ x ∈ K) → T3.1 9 x 2 = nI (m_lnk (m_lkd A d f a b) x).2.1 ∧ (m_lnk (m_lkd A d f a b) x).2.1 < 1000000 := by
    intro x hx
    rw [b1 9 (by decide)]
    by_cases e : x = t
    · rw [e, hnew, n9f]
      exact ⟨rfl, by show a < 1000000; omega⟩
    · have hx' := hKL x (hx.resolve_left e)
      rw [hold x hx', (o9 x e).1]
      obtain ⟨y, j, e', hy, he, rfl⟩ := hx'
      rw [m_lnk_k hI hy he]
      have hb := (hI.2.2.2.2.2.2.1 y hy).2 e' (List.mem_of_getElem? he)
      exact ⟨(h.1.2.2.2.2.2.1 y j e' hy he).2.2.2.1, by omega⟩
  have ct := c_ftake (ext := ext) (X := X') (T := T3) (fm := fun x => (m_lnk (m_lkd A d f a b) x).2.1) (t := t) (f := f) (K := K) lt (lo _ _ lf) (fun x hx => lo _ _ ((hX 9 x).mpr (hKL x hx))) hn3 k3 htK hlen (by rw [b2 6 (by decide), (o1 6 (by decide)).2]; exact k1) (k2.cong (fun x hx => by rw [b2 9 (by decide), (o9 x (fun z => htK (z ▸ hx))).2]))
  have fin := bc10_83 (ext := ext) (X := X') (T := T') (d := 1) (r0 := some 0) (x1 := nI d) (x2 := nI f) (x3 := nI a) (x4 := nI b) (a5 := d) (a6 := f) (o7 := none) (rk0 := some t) (i_3 := (m_lk A d).length) (Q := cQn X (fun v X' T' => v = w.1 ∧ c_X w.2 X' ∧ c_RA w.2 T')) (lo _ _ ld) (lo _ _ lf) hcnt q5 (fun j hj => by cases hj; exact lt) (by rw [hT3]; exact ct.mono (by decide)) ?_ S2 hcr
  · rw [ca, cb, cc, cd] at fin
    exact fin
  · rintro T5 ⟨⟨p1, p2, p3, p4, p5⟩, l1, l2, hK12, hle, hgt, g6, g9⟩
    refine bc10_116 (lo _ _ ld) (cQn.g (by rw [h22]; exact hgr) ?_)
    rw [hv', p1]
    refine ⟨b8, fun s i => ?_, c_RA_link hI h hdl q5 ?_ (fun i k hk => ?_) (by rw [p1]; exact b8) (fun i k hk => by rw [p1]; exact b8' i k hk) ?_ ?_ (fun i hi => ?_) ?_ (fun s hs => ?_) (fun g hg => ?_)⟩
    · rw [lv, hX s i]
      by_cases e9 : s = 9
      · subst e9
        show (c_lvL A i ∨ _) ↔ c_lvL (m_lkd A d f a b) i
        rw [lkd_live hdl, ht]
        exact ⟨fun z => z.elim Or.inl (fun q => Or.inr q.2), fun z => z.elim Or.inl (fun q => Or.inr ⟨rfl, q⟩)⟩
      · constructor
        · rintro (z | z)
          · unfold c_lv at z ⊢
            split at z
            · exact z
            · exact z
            · exact z
            · exact z
            · exact absurd rfl e9
            · exact z
          · exact absurd z.1 e9
        · intro z
          refine Or.inl ?_
          unfold c_lv at z ⊢
          split at z
          · exact z
          · exact z
          · exact z
          · exact z
          · exact absurd rfl e9
          · exact z
    · rw [p2 34 (by decide) (by decide), ht]
      exact b34
    · rw [p2 34 (by decide) (by decide)]
      exact b34' i k hk
    · rw [p2 8 (by decide) (by decide), b2 8 (by decide), (o1 8 (by decide)).2]
    · rw [p1, b1 9 (by decide), ht, n9f, p4 t 0 (by decide), p4 t 1 (by decide), b2 9 (by decide), n9g]
      exact ⟨rfl, rfl, rfl, rfl⟩
    · rw [ht] at hi
      rw [p1, b1 9 (by decide), (o9 i hi).1]
      refine ⟨rfl, fun k hk => ?_⟩
      rw [p4 i k hk, b2 9 (by decide), (o9 i hi).2]
    · rw [p1, b1 6 (by decide), (o1 6 (by decide)).1]
    · simp only [List.mem_cons, List.not_mem_nil, or_false, not_or] at hs
      rw [p1, b1 s hs.2.1, (o1 s hs.2.2.1).1, p2 s hs.1 hs.2.2.1, b2 s hs.2.2.2, (o1 s hs.2.2.1).2]
      exact ⟨rfl, rfl⟩
    · have hg' : g < m_nF A := hg
      by_cases e : g = f
      · subst e
        refine ⟨l1 ++ t :: l2, g6, g9, ?_, fun x => ?_, ?_⟩
        · rw [hK12] at k3 htK
          rw [List.nodup_append] at k3 ⊢
          rw [List.nodup_cons]
          refine ⟨k3.1, ⟨fun z => htK (List.mem_append_right _ z), k3.2.1⟩, fun x hx y hy => ?_⟩
          rcases List.mem_cons.mp hy with q | q
          · rw [q]
            exact fun z => htK (List.mem_append_left _ (z ▸ hx))
          · exact k3.2.2 x hx y q
        · have hx1 : x ∈ l1 ++ t :: l2 ↔ x = t ∨ x ∈ K := by
            rw [hK12]
            simp only [List.mem_append, List.mem_cons]
            constructor
            · rintro (q | q | q)
              · exact Or.inr (Or.inl q)
              · exact Or.inl q
              · exact Or.inr (Or.inr q)
            · rintro (q | q | q)
              · exact Or.inr (Or.inl q)
              · exact Or.inl q
              · exact Or.inr (Or.inr q)
          rw [hx1, k4 x, lkd_live hdl, ht]
          constructor
          · rintro (q | q)
            · exact ⟨Or.inr q, by rw [q, hnew]⟩
            · exact ⟨Or.inl q.1, by rw [hold x q.1]; exact q.2⟩
          · rintro ⟨q | q, q2⟩
            · exact Or.inr ⟨q, by rw [hold x q] at q2; exact q2⟩
            · exact Or.inl q
        · have hs : (l1 ++ l2).Pairwise (fun t u => (m_lnk (m_lkd A d g a b) t).2.1 ≤ (m_lnk (m_lkd A d g a b) u).2.1) := by
            rw [← hK12]
            exact k5.imp_of_mem (fun {x y} hx hy q => by
              rw [hold x (hKL x hx), hold y (hKL y hy)]
              exact q)
          rw [List.pairwise_append] at hs ⊢
          rw [List.pairwise_cons]
          refine ⟨hs.1, ⟨fun y hy => ?_, hs.2.1⟩, fun x hx y hy => ?_⟩
          · cases l2 with
            | nil => cases hy
            | cons z l =>
              have hz := hgt z l rfl
              rcases List.mem_cons.mp hy with q | q
              · rw [q]; exact Nat.le_of_lt hz
              · exact Nat.le_trans (Nat.le_of_lt hz) ((List.pairwise_cons.mp hs.2.1).1 y q)
          · rcases List.mem_cons.mp hy with q | q
            · rw [q]; exact hle x hx
            · exact hs.2.2 x hx y q
      · obtain ⟨L, j1, j2, j3, j4, j5⟩ := h.1.2.2.2.2.2.2 g hg'
        have hL : ∀ x, x ∈ L → c_lvL A x ∧ x ≠ t ∧ x ∉ K := fun x hx => by
          have q := (j4 x).mp hx
          refine ⟨q.1, fun z => nL (z ▸ q.1), fun z => e ?_⟩
          rw [← q.2, ((k4 x).mp z).2]
        refine ⟨L, ?_, j2.cong (fun x hx => ?_), j3, fun x => ?_, ?_⟩
        · rw [p3 g 2 (by omega), b2 6 (by decide), (o1 6 (by decide)).2]
          exact j1
        · obtain ⟨q1, q2, q3⟩ := hL x hx
          rw [p5 x q2 q3, b2 9 (by decide), (o9 x q2).2]
        · rw [j4 x, lkd_live hdl, ht]
          constructor
          · rintro ⟨q1, q2⟩
            exact ⟨Or.inl q1, by rw [hold x q1]; exact q2⟩
          · rintro ⟨q | q, q2⟩
            · exact ⟨q, by rw [hold x q] at q2; exact q2⟩
            · rw [q, hnew] at q2
              exact absurd q2.symm e
        · exact j5.imp_of_mem (fun {x y} hx hy q => by
            rw [hold x (hL x hx).1, hold y (hL y hy).1]
            exact q)
end CLN
