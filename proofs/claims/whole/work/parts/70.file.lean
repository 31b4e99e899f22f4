/-! THE CLASS'S CALLS: file, map -/
theorem c_RA_file {A : mS} {T T2 : cT} {z : Nat} (hI : m_Inv A) (h : c_RA A T) (e0 : T2.1 0 0 1 = nI (m_nF A + 1)) (e0' : ∀ k, k ≠ 1 → T2.1 0 0 k = T.1 0 0 k) (e1 : T2.2 20 0 (m_nF A) = some (m_nF A)) (e1' : ∀ k, k ≠ m_nF A → T2.2 20 0 k = T.2 20 0 k)
    (e6 : T2.1 6 (m_nF A) 0 = nI (m_nF A) ∧ T2.1 6 (m_nF A) 1 = nI z ∧ T2.2 6 (m_nF A) 2 = none) (e6' : ∀ i, i ≠ m_nF A → T2.1 6 i = T.1 6 i ∧ T2.2 6 i = T.2 6 i) (eo : ∀ s, s ≠ 0 → s ≠ 6 → s ≠ 20 → T2.1 s = T.1 s ∧ T2.2 s = T.2 s) : c_RA (m_wF A (m_nF A + 1) (va_up (m_fz A) (m_nF A) z)) T2 := by
  obtain ⟨⟨gN, gF, gM, gD, gK, gL, gC⟩, gS, gT, gP⟩ := h
  have o7 := eo 7 (by decide) (by decide) (by decide)
  have o8 := eo 8 (by decide) (by decide) (by decide)
  have o9 := eo 9 (by decide) (by decide) (by decide)
  have o21 := eo 21 (by decide) (by decide) (by decide)
  have o22 := eo 22 (by decide) (by decide) (by decide)
  have o34 := eo 34 (by decide) (by decide) (by decide)
  refine ⟨⟨⟨e0, (e0' 3 (by decide)).trans gN.2.1, (e0' 5 (by decide)).trans gN.2.2⟩, ?_, ?_, ?_, ?_, ?_, ?_⟩, ?_, ?_, ?_⟩
  · intro f hf
    have hf' : f < m_nF A + 1 := hf
    show T2.2 20 0 f = some f ∧ T2.1 6 f 0 = nI f ∧ T2.1 6 f 1 = nI (va_up (m_fz A) (m_nF A) z f)
    by_cases e : f = m_nF A
    · subst e
      rw [va_up_self]
      exact ⟨e1, e6.1, e6.2.1⟩
    · rw [va_up_ne _ _ e, e1' f e, (e6' f e).1]
      exact gF f (by omega)
  · intro m hm
    rw [o21.2, o7.1, o7.2, o8.1, o8.2]
    exact gM m hm
  · intro x hx
    rw [o22.2, o8.1, o8.2]
    exact gD x hx
  · intro c hc
    rw [o8.2, m_kids_cg (A := A) (B := m_wF A (m_nF A + 1) (va_up (m_fz A) (m_nF A) z)) rfl rfl rfl rfl c]
    have g := gK c hc
    exact ⟨g.1, g.2.cong (fun x _ => by rw [o8.2])⟩
  · intro x j e hx he
    rw [o34.2, o9.1, o9.2]
    exact gL x j e hx he
  · intro f hf
    have hf' : f < m_nF A + 1 := hf
    by_cases e : f = m_nF A
    · subst e
      refine ⟨[], e6.2.2, fun l1 x l2 q => ?_, List.nodup_nil, fun t => ⟨fun q => (by cases q), ?_⟩, List.Pairwise.nil⟩
      · cases l1 <;> cases q
      · rintro ⟨⟨d, j, w, hd', hw', rfl⟩, q⟩
        have hd : d < m_nD A := hd'
        have hw : (m_lk A d)[j]? = some w := hw'
        have hq : (m_lnk A (5 * d + j)).1 = m_nF A := q
        have hj : j < 5 := by
          have := (hI.2.2.2.2.2.2.1 d hd).1
          have := (List.getElem?_eq_some_iff.mp hw).1
          omega
        have hl := (hI.2.2.2.2.2.2.1 d hd).2 w (List.mem_of_getElem? hw)
        unfold m_lnk at hq
        rw [show (5 * d + j) / 5 = d by omega, show (5 * d + j) % 5 = j by omega, List.getD_eq_getElem?_getD, hw] at hq
        have : w.1 = m_nF A := hq
        omega
    · obtain ⟨l, a1, a2, a3⟩ := gC f (by omega)
      refine ⟨l, ?_, a2.cong (fun x _ => by rw [o9.2]), a3⟩
      rw [(e6' f e).2]
      exact a1
  · exact gS.cong (A := A) (fun s hs => eo s (by revert hs; revert s; decide) (by revert hs; revert s; decide) (by revert hs; revert s; decide))
  · exact gT.cong (A := A) (fun s hs => eo s (by revert hs; revert s; decide) (by revert hs; revert s; decide) (by revert hs; revert s; decide))
  · exact gP.cong (A := A) (fun s hs => eo s (by revert hs; revert s; decide) (by revert hs; revert s; decide) (by revert hs; revert s; decide))
theorem c_nlt (X : cX) {T : cT} {S : av_St} (h : cr X T S) (hf : fr S) {a : Nat} (ha : S.2.2.1 ≤ a) : ∀ s i, X.2.1 s i → X.1 s i ≠ a := fun s i l e => by
  have := h.lt hf l
  omega
section CFI
variable {ext : av_X} {X : cX} {T : cT} {A : mS}
theorem c_file (hI : m_Inv A) (hX : c_X A X) (h : c_RA A T) (n : Int32) : cN ext X 2 1 [cv X 0 (some 0), .int n] T (fun v X' T' => v = (sp_file A n).1 ∧ c_X (sp_file A n).2 X' ∧ c_RA (sp_file A n).2 T') := by
  have hF := hI.1.1
  have l0 := hX.z (s := 0) (by decide)
  have l20 := hX.z (s := 20) (by decide)
  refine cN.of (L := [some (cv X 0 (some 0)), some (.int n), none]) (by rw [ml1]; rfl) (fun hf => ?_)
  generalize hv : sp_file A n = w
  unfold sp_file at hv
  refine bc1_0 ((c_isSize n).mono (by decide)) ?_
  rintro v T1 ⟨rfl, rfl⟩
  by_cases hs : 0 ≤ n ∧ n ≤ 100000
  case neg =>
    rw [if_neg hs] at hv ⊢
    exact bc1_4 (fun q => absurd rfl q) (fun _ => bc1_7 (cQn.e hf (by rw [← hv]; exact ⟨rfl, hX, h⟩)))
  rw [if_pos hs] at hv ⊢
  refine bc1_4 (fun _ => bc1_10 l0 (fun q => ?_) (fun q => ?_)) (fun q => absurd q (by decide))
  case refine_2 =>
    rw [h.1.1.1, show (30 : Int32) = nI 30 from rfl, nI_ltI (by omega) (by omega)] at q
    rw [if_pos (by omega)] at hv
    exact bc1_19 (cQn.e hf (by rw [← hv]; exact ⟨rfl, hX, h⟩))
  rw [h.1.1.1, show (30 : Int32) = nI 30 from rfl, nI_ltI (by omega) (by omega)] at q
  rw [if_neg (by omega)] at hv
  have hz : n = nI n.toNatClampNeg := nI_32 n hs.1
  generalize n.toNatClampNeg = z at hv hz
  subst hz
  intro S hS
  have hfS := hS.frS hf
  have e0 : S.2.1 (X.1 0 0) 1 = .int (nI (m_nF A)) := by rw [hS.i 1 rfl rfl l0, h.1.1.1]
  refine bk1_22 (a0 := X.1 0 0) (y2 := nI (m_nF A)) (q4 := some (X.1 20 0)) (hS.kd l0) e0 (hS.f 0 rfl l0) ?_
  refine bk1_35 (r0 := some (X.1 0 0)) (rk0 := some (X.1 20 0)) (k_File (nw_k _ _ _ _ rfl)) ?_
  rintro S2 hS2
  have hx : nx S S2 1 3 := by
    rw [hS2]
    exact ((((nx.rf S).new _ _ _).set (Nat.le_refl _) _ _).set (Nat.le_refl _) _ _).set (Nat.le_refl _) _ _
  have hat : ∀ k, S2.2.1 S.2.2.1 k = if k = 2 then .null else if k = 1 then .int (nI z) else if k = 0 then .int (nI (m_nF A)) else defaultValue (sm_fT 6 k) := by
    intro k
    rw [hS2, st_s, st_s, st_s, nw_s _ _ _ _ (by rfl)]
  have hkd : S2.1 S.2.2.1 = some (.inl 6) := by
    rw [hS2]
    exact nw_k S (.inl 6) (fun f => defaultValue (sm_fT 6 f)) (sm_fN 6) rfl
  have nl : ¬ X.2.1 6 (m_nF A) := fun q => by
    have := (hX 6 _).mp q
    exact Nat.lt_irrefl _ this
  have hcr := (hS.re hfS hx).add (s := 6) (i := m_nF A) (a := S.2.2.1) (f := fun k => if k = 1 then nI z else if k = 0 then nI (m_nF A) else 0) (g := fun _ => none) nl (c_nlt X hS hfS (Nat.le_refl _)) hkd
    (fun k r _ => by
      match k, r with
      | 0, _ => rw [hat]; rfl
      | 1, _ => rw [hat]; rfl
      | k + 2, r => cases r)
    (fun k t r => by
      match k, r with
      | 0, r => cases r
      | 1, r => cases r
      | 2, _ => exact ⟨by rw [hat]; rfl, fun j hj => by cases hj⟩
      | k + 3, _ =>
        refine ⟨?_, fun j hj => by cases hj⟩
        rw [hat, if_neg (by omega), if_neg (by omega), if_neg (by omega)]
        rfl)
    (fun k t r => by cases r)
  have hgr : c_gr X (x_up (x_at X S2) 6 (m_nF A) S.2.2.1) S2 := (hS.gre hf hx (by decide) (by decide)).up (by omega) (by rw [hS.nx]; exact Nat.le_refl _)
  generalize hX' : x_up (x_at X S2) 6 (m_nF A) S.2.2.1 = X' at hcr hgr
  generalize hT' : t_up T1 6 (m_nF A) (fun k => if k = 1 then nI z else if k = 0 then nI (m_nF A) else 0) (fun _ => none) = T' at hcr
  have ea : cv X' 0 (some 0) = .ref (X.1 0 0) := by rw [← hX']; exact congrArg Value.ref (x_up_n _ _ (by omega))
  have eb : cv X' 6 (some (m_nF A)) = .ref S.2.2.1 := by rw [← hX']; exact congrArg Value.ref (x_up_s _ _ _ _)
  have ec : cv X' 20 (some 0) = .ref (X.1 20 0) := by rw [← hX']; exact congrArg Value.ref (x_up_n _ _ (by omega))
  have lv : ∀ s i, X'.2.1 s i ↔ (X.2.1 s i ∨ (s = 6 ∧ i = m_nF A)) := fun s i => by rw [← hX']; exact Iff.rfl
  have h22 : X'.2.2 = S2 := by rw [← hX']; rfl
  have fin := bc1_41 (ext := ext) (X := X') (T := T') (d := 2) (a0 := 0) (ak0 := 0) (x1 := nI z) (x2 := nI (m_nF A)) (xk1 := nI (m_nF A)) (rk2 := some (m_nF A)) (i_3 := m_nF A) (Q := cQn X (fun v X' T' => v = w.1 ∧ c_X w.2 X' ∧ c_RA w.2 T')) ((lv _ _).mpr (Or.inl l0)) ((lv _ _).mpr (Or.inl l20)) rfl q (fun j hj => by cases hj; exact (lv _ _).mpr (Or.inr ⟨rfl, rfl⟩)) (cQn.g (by rw [h22]; exact hgr) ?_) S2 hcr
  · rw [ea, eb, ec] at fin
    exact fin
  · rw [← hv]
    have t0 : T'.1 0 = T1.1 0 := by rw [← hT']; exact t_up_k1 _ _ _ _ (by decide)
    have t20 : T'.2 20 = T1.2 20 := by rw [← hT']; exact t_up_k2 _ _ _ _ (by decide)
    refine ⟨rfl, fun s i => ?_, c_RA_file hI h ?_ (fun k hk => ?_) ?_ (fun k hk => ?_) ⟨?_, ?_, ?_⟩ (fun i hi => ⟨?_, ?_⟩) (fun s s0 s6 s20 => ⟨?_, ?_⟩)⟩
    · rw [lv, hX s i]
      by_cases e : s = 6
      · subst e
        show (i < m_nF A ∨ _) ↔ i < m_nF A + 1
        omega
      · constructor
        · rintro (a | a)
          · unfold c_lv at a ⊢
            split at a
            · exact absurd rfl e
            all_goals exact a
          · exact absurd a.1 e
        · intro a
          refine Or.inl ?_
          unfold c_lv at a ⊢
          split at a
          · exact absurd rfl e
          all_goals exact a
    · rw [iset_s]
      show T'.1 0 0 1 + 1 = _
      rw [t0, h.1.1.1, nI_1]
    · rw [iset_n _ _ (by omega)]
      show T'.1 0 0 k = _
      rw [t0]
    · show (oset T' 20 0 (m_nF A) (some (m_nF A))).2 20 0 (m_nF A) = _
      rw [oset_s]
    · show (oset T' 20 0 (m_nF A) (some (m_nF A))).2 20 0 k = _
      rw [oset_n _ _ (by omega), t20]
    · rw [iset_n _ _ (by omega)]
      show T'.1 6 (m_nF A) 0 = _
      rw [← hT', t_up_s1]; rfl
    · rw [iset_n _ _ (by omega)]
      show T'.1 6 (m_nF A) 1 = _
      rw [← hT', t_up_s1]; rfl
    · show (oset T' 20 0 (m_nF A) (some (m_nF A))).2 6 (m_nF A) 2 = _
      rw [oset_n _ _ (by omega), ← hT', t_up_s2]
    · funext k
      rw [iset_n _ _ (by omega)]
      show T'.1 6 i k = _
      rw [← hT', t_up_n1 _ _ _ (by omega)]
    · funext k
      show (oset T' 20 0 (m_nF A) (some (m_nF A))).2 6 i k = _
      rw [oset_n _ _ (by omega), ← hT', t_up_n2 _ _ _ (by omega)]
    · rw [iset_k _ _ _ _ s0]
      show T'.1 s = _
      rw [← hT', t_up_k1 _ _ _ _ s6]
    · show (oset T' 20 0 (m_nF A) (some (m_nF A))).2 s = _
      rw [oset_k _ _ _ _ s20, ← hT', t_up_k2 _ _ _ _ s6]
end CFI
