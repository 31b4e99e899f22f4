/-! THE REFERENCE'S CALLS: link -/
theorem sp_rng {a b : Int32} : ((0 ≤ a ∧ a ≤ 100000) ∧ (a + 1 ≤ b ∧ b ≤ 100000)) ↔ (0 ≤ a ∧ a < b ∧ b ≤ 100000) := by
  have e5 : (100000 : Int32) = nI 100000 := rfl
  constructor
  · rintro ⟨⟨h1, h2⟩, h3, h4⟩
    refine ⟨h1, ?_, h4⟩
    rw [nI_32 a h1] at h2 h3 ⊢
    rw [e5] at h2
    have hz := nI_33 h1 (by rw [nI_32 a h1]; exact h2) (by decide)
    rw [nI_1, Int32.le_iff_toInt_le, nI_toInt (by omega)] at h3
    rw [Int32.lt_iff_toInt_lt, nI_toInt (by omega)]
    omega
  · rintro ⟨h1, h2, h3⟩
    have ha := nI_32 a h1
    have hb0 : 0 ≤ b := by
      rw [Int32.le_iff_toInt_le] at h1 ⊢
      rw [Int32.lt_iff_toInt_lt] at h2
      omega
    have hb := nI_32 b hb0
    have hz := nI_33 hb0 (by rw [← e5]; exact h3) (by decide)
    have ha31 : a.toNatClampNeg < 2147483648 := by
      obtain ⟨j, hj, e⟩ := nI_of (x := a) (fun q => by rw [Int32.le_iff_toInt_le] at h1; rw [Int32.lt_iff_toInt_lt] at q; omega)
      rw [e, nI_clamp hj]
      exact hj
    rw [ha, hb, nI_ltI ha31 (by omega)] at h2
    refine ⟨⟨h1, ?_⟩, ?_, h3⟩
    · rw [ha, e5]
      exact nI_le (by omega) (by decide)
    · rw [ha, hb, nI_1]
      exact nI_le (by omega) (by omega)
theorem nI_5 {d j : Nat} : (5 : Int32) * nI d + nI j = nI (5 * d + j) := by
  show nI 5 * nI d + nI j = _
  rw [pk_mul, nI_add]
section RS4
variable {ext : av_X} {X : rX} {W : rW} {A : mS}
theorem r_link (hI : m_Inv A) (h : r_RA A W) (dd f a b : Int32) : rCi ext X 2 72 [.ref X.1, .int dd, .int f, .int a, .int b] W (fun x W' => x = (sp_link A dd f a b).1 ∧ r_RA (sp_link A dd f a b).2 W') := by
  refine rCi.of (L := [some (.ref X.1), some (.int dd), some (.int f), some (.int a), some (.int b), none]) (by rw [ml72]; rfl) ?_
  refine br72_0 (r_isDiv _) ?_
  rintro v W1 ⟨rfl, rfl⟩
  have h0 : r_RA A (hset W 0 0) := h.hset 0 0 (by decide)
  generalize hset W 0 0 = W at h0 ⊢
  have hnF : W.2 1 = nI (m_nF A) := h0.1.1
  have hnD : W.2 5 = nI (m_nD A) := h0.2.2.1.1
  have hF30 : m_nF A ≤ 30 := hI.1.1
  have hD120 : m_nD A ≤ 120 := hI.2.2.1
  unfold sp_link
  rw [hnD]
  by_cases hd : 0 ≤ dd ∧ dd ≤ nI (m_nD A) - 1
  case neg =>
    rw [if_neg hd, if_neg (fun z => hd z.1)]
    exact br72_10 (fun _ => br72_21 ⟨_, rfl, rfl, h0⟩) (fun e => absurd rfl e)
  rw [if_pos hd]
  refine br72_10 (fun e => absurd e (by decide)) (fun _ => ?_)
  refine br72_13 (r_isFile _) ?_
  rintro v W1 ⟨rfl, rfl⟩
  rw [hnF]
  by_cases hf : 0 ≤ f ∧ f ≤ nI (m_nF A) - 1
  case neg =>
    rw [if_neg hf, if_neg (fun z => hf z.2)]
    exact br72_18 (fun e => absurd rfl e) (fun _ => br72_21 ⟨_, rfl, rfl, h0⟩)
  rw [if_pos hf, if_pos ⟨hd, hf⟩]
  refine br72_18 (fun _ => ?_) (fun e => absurd e (by decide))
  obtain ⟨d, hd', rfl⟩ := (rI_rng (by omega)).mp hd
  obtain ⟨fi, hf', rfl⟩ := (rI_rng (by omega)).mp hf
  rw [nI_clamp (show d < 2147483648 by omega), nI_clamp (show fi < 2147483648 by omega)]
  refine br72_23 ((r_in _ _ _).mono (Nat.zero_le _)) ?_
  rintro v W1 ⟨rfl, rfl⟩
  by_cases ha : 0 ≤ a ∧ a ≤ 100000
  case neg =>
    rw [if_neg ha, if_neg (fun z => ha (sp_rng.mpr z).1)]
    exact br72_30 (fun _ => br72_46 ⟨_, rfl, rfl, h0⟩) (fun e => absurd rfl e)
  rw [if_pos ha]
  refine br72_30 (fun e => absurd e (by decide)) (fun _ => ?_)
  refine br72_33 ((r_in _ _ _).mono (Nat.zero_le _)) ?_
  rintro v W1 ⟨rfl, rfl⟩
  by_cases hb : a + 1 ≤ b ∧ b ≤ 100000
  case neg =>
    rw [if_neg hb, if_neg (fun z => hb (sp_rng.mpr z).2)]
    exact br72_43 (fun e => absurd rfl e) (fun _ => br72_46 ⟨_, rfl, rfl, h0⟩)
  rw [if_pos hb, if_pos (sp_rng.mp ⟨ha, hb⟩)]
  refine br72_43 (fun _ => ?_) (fun e => absurd e (by decide))
  have hrow := h0.2.2.1.2.1 d hd'
  have hlk := hI.2.2.2.2.2.2.1 d hd'
  have hrp : ∀ q, m_rp A d = some q → q < 2147483648 := fun q hq => by have := (hI.2.2.2.2.2.1 d hd' q hq).1; omega
  refine br72_49 (i_1 := d) rfl (by omega) (fun e => ?_) (fun e => ?_)
  case _ =>
    rw [hrow.2.2.2.2.1] at e
    have hn := (oI_neg hrp).mp e
    rw [if_neg (fun z => z hn)]
    refine br72_61 (i_1 := d) rfl (by omega) (fun e => ?_) (fun e => ?_)
    · rw [hrow.2.2.2.2.2] at e
      have hlt : (m_lk A d).length < 5 := by
        rcases Nat.lt_or_ge (m_lk A d).length 5 with q | q
        · exact q
        · exact absurd (by rw [show (m_lk A d).length = 5 by omega]; rfl) e
      rw [if_neg (by omega)]
      have ei : ∀ (W2 : rW), (5 : Int32) * nI d + W1.1 11 d = nI (5 * d + (m_lk A d).length) := fun _ => by rw [hrow.2.2.2.2.2, nI_5]
      have e11 : ∀ (i j k : Nat) (x y z : Int32), (gset (gset (gset W1 12 i x) 13 j y) 14 k z).1 11 = W1.1 11 := fun i j k x y z => by
        rw [gset_k _ _ _ (by decide), gset_k _ _ _ (by decide), gset_k _ _ _ (by decide)]
      refine br72_74 (i_1 := d) (i_4 := 5 * d + (m_lk A d).length) (i_7 := 5 * d + (m_lk A d).length) (i_10 := 5 * d + (m_lk A d).length) (i_13 := d) (i_16 := d) (i_19 := d) rfl (by omega) (ei W1) (by omega) (ei W1) (by omega) (ei W1) (by omega) rfl (by omega) rfl (by omega) rfl (by omega) ⟨_, rfl, ?_, ?_⟩
      · rw [gset_s, e11, hrow.2.2.2.2.2, nI_1]
      · refine h0.wD ⟨hnD, fun c hc => ?_, fun c hc hc2 => ?_⟩ (fun c j x hc hx => ?_) (fun k hk => ?_) (fun k hk => rfl)
        · rw [gset_k _ _ _ (show (6 : Nat) ≠ 11 by decide), gset_k _ _ _ (show (7 : Nat) ≠ 11 by decide), gset_k _ _ _ (show (8 : Nat) ≠ 11 by decide), gset_k _ _ _ (show (9 : Nat) ≠ 11 by decide), gset_k _ _ _ (show (10 : Nat) ≠ 11 by decide), gset_e, e11]
          simp only [gset_k _ _ _ (show (6 : Nat) ≠ 12 by decide), gset_k _ _ _ (show (6 : Nat) ≠ 13 by decide), gset_k _ _ _ (show (6 : Nat) ≠ 14 by decide), gset_k _ _ _ (show (7 : Nat) ≠ 12 by decide), gset_k _ _ _ (show (7 : Nat) ≠ 13 by decide), gset_k _ _ _ (show (7 : Nat) ≠ 14 by decide), gset_k _ _ _ (show (8 : Nat) ≠ 12 by decide), gset_k _ _ _ (show (8 : Nat) ≠ 13 by decide), gset_k _ _ _ (show (8 : Nat) ≠ 14 by decide), gset_k _ _ _ (show (9 : Nat) ≠ 12 by decide), gset_k _ _ _ (show (9 : Nat) ≠ 13 by decide), gset_k _ _ _ (show (9 : Nat) ≠ 14 by decide), gset_k _ _ _ (show (10 : Nat) ≠ 12 by decide), gset_k _ _ _ (show (10 : Nat) ≠ 13 by decide), gset_k _ _ _ (show (10 : Nat) ≠ 14 by decide)]
          have hrc := h0.2.2.1.2.1 c hc
          refine ⟨hrc.1, hrc.2.1, hrc.2.2.1, hrc.2.2.2.1, hrc.2.2.2.2.1, ?_⟩
          show va_up (W1.1 11) d (W1.1 11 d + 1) c = nI (va_up (m_lk A) d (m_lk A d ++ [(fi, a.toNatClampNeg, b.toNatClampNeg)]) c).length
          by_cases e1 : c = d
          · rw [e1, va_up_self, va_up_self, hrow.2.2.2.2.2, List.length_append, nI_1]
            rfl
          · rw [va_up_ne _ _ e1, va_up_ne _ _ e1]
            exact hrc.2.2.2.2.2
        · rw [gset_e, e11]
          have hc' : m_nD A ≤ c := hc
          rw [va_up_ne _ _ (by omega)]
          exact h0.2.2.1.2.2 c hc hc2
        · rw [gset_k _ _ _ (show (12 : Nat) ≠ 11 by decide), gset_k _ _ _ (show (13 : Nat) ≠ 11 by decide), gset_k _ _ _ (show (14 : Nat) ≠ 11 by decide), gset_e, gset_k _ _ _ (show (13 : Nat) ≠ 14 by decide), gset_e, gset_k _ _ _ (show (12 : Nat) ≠ 14 by decide), gset_k _ _ _ (show (12 : Nat) ≠ 13 by decide), gset_e, gset_k _ _ _ (show (13 : Nat) ≠ 12 by decide), gset_k _ _ _ (show (14 : Nat) ≠ 13 by decide), gset_k _ _ _ (show (14 : Nat) ≠ 12 by decide)]
          have hx' : (va_up (m_lk A) d (m_lk A d ++ [(fi, a.toNatClampNeg, b.toNatClampNeg)]) c)[j]? = some x := hx
          by_cases e1 : c = d
          · subst e1
            rw [va_up_self] at hx'
            by_cases e2 : j < (m_lk A c).length
            · rw [List.getElem?_append_left e2] at hx'
              have e3 : 5 * c + j ≠ 5 * c + (m_lk A c).length := by omega
              rw [va_up_ne _ _ e3, va_up_ne _ _ e3, va_up_ne _ _ e3]
              exact h0.2.2.2.1 c j x hd' hx'
            · rw [List.getElem?_append_right (by omega)] at hx'
              have hj : j - (m_lk A c).length < 1 := (List.getElem?_eq_some_iff.mp hx').1
              have ej : j = (m_lk A c).length := by omega
              subst ej
              rw [Nat.sub_self] at hx'
              cases hx'
              rw [va_up_self, va_up_self, va_up_self]
              refine ⟨rfl, nI_32 a ha.1, nI_32 b ?_⟩
              have hz := sp_rng.mp ⟨ha, hb⟩
              have h1 := hz.1
              have h2 := hz.2.1
              rw [Int32.le_iff_toInt_le] at h1 ⊢
              rw [Int32.lt_iff_toInt_lt] at h2
              omega
          · rw [va_up_ne _ _ e1] at hx'
            have hj : j < (m_lk A c).length := (List.getElem?_eq_some_iff.mp hx').1
            have hc5 := (hI.2.2.2.2.2.2.1 c hc).1
            have e3 : 5 * c + j ≠ 5 * d + (m_lk A d).length := by omega
            rw [va_up_ne _ _ e3, va_up_ne _ _ e3, va_up_ne _ _ e3]
            exact h0.2.2.2.1 c j x hc hx'
        · rw [gset_k _ _ _ (fun e => by subst e; revert hk; decide), gset_k _ _ _ (fun e => by subst e; revert hk; decide), gset_k _ _ _ (fun e => by subst e; revert hk; decide), gset_k _ _ _ (fun e => by subst e; revert hk; decide)]
    · rw [hrow.2.2.2.2.2] at e
      have he : (m_lk A d).length = 5 := (nI_eq (by omega) (by decide)).mp e
      rw [if_pos he]
      exact br72_71 ⟨_, rfl, rfl, h0⟩
  case _ =>
    rw [hrow.2.2.2.2.1] at e
    have hn : m_rp A d ≠ none := fun q => e ((oI_neg hrp).mpr q)
    rw [if_pos hn]
    exact br72_58 ⟨_, rfl, rfl, h0⟩
end RS4
