/-! THE REFERENCE'S CALLS: division, link -/
theorem gset_e (W : rW) (k i : Nat) (x : Int32) : (gset W k i x).1 k = va_up (W.1 k) i x := by
  funext i'
  show (if k = k ∧ i' = i then x else W.1 k i') = (if i' = i then x else W.1 k i')
  by_cases e : i' = i
  · rw [if_pos ⟨rfl, e⟩, if_pos e]
  · rw [if_neg (fun z => e z.2), if_neg e]
theorem oI_neg {o : Option Nat} (h : ∀ p, o = some p → p < 2147483648) : oI o < 0 ↔ o = none := by
  cases o with
  | none => exact ⟨fun _ => rfl, fun _ => by decide⟩
  | some p => exact ⟨fun q => absurd q (nI_pos (h p rfl)), fun q => by cases q⟩
theorem sp_opt_oI {u : Int32} (h : u = -1 ∨ 0 ≤ u) : u = oI (sp_opt u) := by
  unfold sp_opt
  by_cases e : u = -1
  · rw [if_pos e, e]; rfl
  · rw [if_neg e]
    exact nI_32 u (h.resolve_left e)
def sp_link (A : mS) (d f a b : Int32) : Int32 × mS :=
  if (0 ≤ d ∧ d ≤ nI (m_nD A) - 1) ∧ (0 ≤ f ∧ f ≤ nI (m_nF A) - 1) then
    (if 0 ≤ a ∧ a < b ∧ b ≤ 100000 then
      (if m_rp A d.toNatClampNeg ≠ none then (-3, A)
       else if (m_lk A d.toNatClampNeg).length = 5 then (-4, A) else (nI ((m_lk A d.toNatClampNeg).length + 1), m_wD A (m_nD A) (m_mp A) (m_un A) (m_od A) (m_lb A) (m_rp A) (va_up (m_lk A) d.toNatClampNeg (m_lk A d.toNatClampNeg ++ [(f.toNatClampNeg, a.toNatClampNeg, b.toNatClampNeg)]))))
     else (-2, A))
  else (-1, A)
section RS3
variable {ext : av_X} {X : rX} {W : rW} {A : mS}
theorem r_division (hI : m_Inv A) (h : r_RA A W) (m u o l : Int32) : rCi ext X 2 69 [.ref X.1, .int m, .int u, .int o, .int l] W (fun x W' => x = (sp_division A m u o l).1 ∧ r_RA (sp_division A m u o l).2 W') := by
  refine rCi.of (L := [some (.ref X.1), some (.int m), some (.int u), some (.int o), some (.int l)]) (by rw [ml69]; rfl) ?_
  refine br69_0 (r_isMap _) ?_
  rintro v W1 ⟨rfl, rfl⟩
  have h0 : r_RA A (hset W 0 0) := h.hset 0 0 (by decide)
  generalize hset W 0 0 = W at h0 ⊢
  have hnM : W.2 3 = nI (m_nM A) := h0.2.1.1
  have hnD : W.2 5 = nI (m_nD A) := h0.2.2.1.1
  have hM5 : m_nM A ≤ 5 := hI.2.1.1
  have hD120 : m_nD A ≤ 120 := hI.2.2.1
  unfold sp_division
  rw [hnM]
  by_cases hm : 0 ≤ m ∧ m ≤ nI (m_nM A) - 1
  case neg =>
    rw [if_neg hm, if_neg (fun z => hm z.1)]
    exact br69_10 (fun _ => br69_26 ⟨_, rfl, rfl, h0⟩) (fun e => absurd rfl e)
  rw [if_pos hm]
  obtain ⟨mi, hmi, rfl⟩ := (rI_rng (by omega)).mp hm
  rw [nI_clamp (by omega)]
  refine br69_10 (fun e => absurd e (by decide)) (fun _ => ?_)
  have key : (u = -1 ∨ (0 ≤ u ∧ u ≤ nI (m_nD A) - 1)) → rA ext X 2 69 28 [some (.ref X.1), some (.int (nI mi)), some (.int u), some (.int o), some (.int l)] [] W (fun r W' => ∃ x, r = some (.int x) ∧ x = (if (0 ≤ o ∧ o ≤ 999) ∧ (0 ≤ l ∧ l ≤ 9999) then (if sp_bad A (sp_opt u) mi = true then ((-3 : Int32), A) else if m_nD A = 120 then (-4, A) else (nI (m_nD A), sp_new A mi (sp_opt u) o.toNatClampNeg l.toNatClampNeg)) else (-2, A)).1 ∧ r_RA (if (0 ≤ o ∧ o ≤ 999) ∧ (0 ≤ l ∧ l ≤ 9999) then (if sp_bad A (sp_opt u) mi = true then ((-3 : Int32), A) else if m_nD A = 120 then (-4, A) else (nI (m_nD A), sp_new A mi (sp_opt u) o.toNatClampNeg l.toNatClampNeg)) else (-2, A)).2 W') := by
    intro hu
    refine br69_28 ((r_in _ _ _).mono (Nat.zero_le _)) ?_
    rintro v W1 ⟨rfl, rfl⟩
    by_cases ho : 0 ≤ o ∧ o ≤ 999
    case neg =>
      rw [if_neg ho, if_neg (fun z => ho z.1)]
      exact br69_36 (fun _ => br69_51 ⟨_, rfl, rfl, h0⟩) (fun e => absurd rfl e)
    rw [if_pos ho]
    refine br69_36 (fun e => absurd e (by decide)) (fun _ => ?_)
    refine br69_39 ((r_in _ _ _).mono (Nat.zero_le _)) ?_
    rintro v W1 ⟨rfl, rfl⟩
    by_cases hl : 0 ≤ l ∧ l ≤ 9999
    case neg =>
      rw [if_neg hl, if_neg (fun z => hl z.2)]
      exact br69_48 (fun e => absurd rfl e) (fun _ => br69_51 ⟨_, rfl, rfl, h0⟩)
    rw [if_pos hl, if_pos ⟨ho, hl⟩]
    refine br69_48 (fun _ => ?_) (fun e => absurd e (by decide))
    have full : sp_bad A (sp_opt u) mi = false → rA ext X 2 69 80 [some (.ref X.1), some (.int (nI mi)), some (.int u), some (.int o), some (.int l)] [] W1 (fun r W' => ∃ x, r = some (.int x) ∧ x = (if sp_bad A (sp_opt u) mi = true then ((-3 : Int32), A) else if m_nD A = 120 then (-4, A) else (nI (m_nD A), sp_new A mi (sp_opt u) o.toNatClampNeg l.toNatClampNeg)).1 ∧ r_RA (if sp_bad A (sp_opt u) mi = true then ((-3 : Int32), A) else if m_nD A = 120 then (-4, A) else (nI (m_nD A), sp_new A mi (sp_opt u) o.toNatClampNeg l.toNatClampNeg)).2 W') := by
      intro hb
      rw [if_neg (by rw [hb]; decide)]
      refine br69_80 (fun e => ?_) (fun e => ?_)
      · have hlt : m_nD A < 120 := by
          rcases Nat.lt_or_ge (m_nD A) 120 with q | q
          · exact q
          · exact absurd (by rw [hnD, show m_nD A = 120 by omega]; rfl) e
        rw [if_neg (by omega)]
        refine br69_92 (i_1 := m_nD A) (i_4 := m_nD A) (i_7 := m_nD A) (i_10 := m_nD A) (i_13 := m_nD A) hnD hlt hnD hlt hnD hlt hnD hlt hnD hlt ⟨_, rfl, ?_, ?_⟩
        · rw [hset_s]
          show W1.2 5 + 1 - 1 = nI (m_nD A)
          rw [hnD, nI_1]
          exact nI_pred _
        · have uo : u = oI (sp_opt u) := sp_opt_oI (hu.imp id (fun z => z.1))
          refine h0.wD ⟨?_, fun d hd => ?_, fun d hd hd2 => ?_⟩ (fun d j e hd he => ?_) (fun k hk => ?_) (fun k hk => ?_)
          · rw [hset_s]
            show W1.2 5 + 1 = nI (m_nD A + 1)
            rw [hnD, nI_1]
          · simp only [hset_1, gset_e, gset_k _ _ _ (show (6 : Nat) ≠ 7 by decide), gset_k _ _ _ (show (6 : Nat) ≠ 8 by decide), gset_k _ _ _ (show (6 : Nat) ≠ 9 by decide), gset_k _ _ _ (show (6 : Nat) ≠ 10 by decide), gset_k _ _ _ (show (7 : Nat) ≠ 6 by decide), gset_k _ _ _ (show (7 : Nat) ≠ 8 by decide), gset_k _ _ _ (show (7 : Nat) ≠ 9 by decide), gset_k _ _ _ (show (7 : Nat) ≠ 10 by decide), gset_k _ _ _ (show (8 : Nat) ≠ 6 by decide), gset_k _ _ _ (show (8 : Nat) ≠ 7 by decide), gset_k _ _ _ (show (8 : Nat) ≠ 9 by decide), gset_k _ _ _ (show (8 : Nat) ≠ 10 by decide), gset_k _ _ _ (show (9 : Nat) ≠ 6 by decide), gset_k _ _ _ (show (9 : Nat) ≠ 7 by decide), gset_k _ _ _ (show (9 : Nat) ≠ 8 by decide), gset_k _ _ _ (show (9 : Nat) ≠ 10 by decide), gset_k _ _ _ (show (10 : Nat) ≠ 6 by decide), gset_k _ _ _ (show (10 : Nat) ≠ 7 by decide), gset_k _ _ _ (show (10 : Nat) ≠ 8 by decide), gset_k _ _ _ (show (10 : Nat) ≠ 9 by decide), gset_k _ _ _ (show (11 : Nat) ≠ 6 by decide), gset_k _ _ _ (show (11 : Nat) ≠ 7 by decide), gset_k _ _ _ (show (11 : Nat) ≠ 8 by decide), gset_k _ _ _ (show (11 : Nat) ≠ 9 by decide), gset_k _ _ _ (show (11 : Nat) ≠ 10 by decide)]
            show _ = nI (va_up (m_mp A) (m_nD A) mi d) ∧ _ = oI (va_up (m_un A) (m_nD A) (sp_opt u) d) ∧ _ = nI (va_up (m_od A) (m_nD A) o.toNatClampNeg d) ∧ _ = nI (va_up (m_lb A) (m_nD A) l.toNatClampNeg d) ∧ _ = oI (va_up (m_rp A) (m_nD A) none d) ∧ _ = nI (va_up (m_lk A) (m_nD A) [] d).length
            by_cases e : d = m_nD A
            · subst e
              simp only [va_up_self]
              exact ⟨trivial, uo, nI_32 o ho.1, nI_32 l hl.1, rfl, h0.2.2.1.2.2 _ (Nat.le_refl _) hlt⟩
            · simp only [va_up_ne _ _ e]
              have hd' : d < m_nD A + 1 := hd
              exact h0.2.2.1.2.1 d (by omega)
          · rw [hset_1, gset_k _ _ _ (by decide), gset_k _ _ _ (by decide), gset_k _ _ _ (by decide), gset_k _ _ _ (by decide), gset_k _ _ _ (by decide)]
            have hd' : m_nD A + 1 ≤ d := hd
            exact h0.2.2.1.2.2 d (by omega) hd2
          · rw [hset_1]
            simp only [gset_k _ _ _ (show (12 : Nat) ≠ 6 by decide), gset_k _ _ _ (show (12 : Nat) ≠ 7 by decide), gset_k _ _ _ (show (12 : Nat) ≠ 8 by decide), gset_k _ _ _ (show (12 : Nat) ≠ 9 by decide), gset_k _ _ _ (show (12 : Nat) ≠ 10 by decide), gset_k _ _ _ (show (13 : Nat) ≠ 6 by decide), gset_k _ _ _ (show (13 : Nat) ≠ 7 by decide), gset_k _ _ _ (show (13 : Nat) ≠ 8 by decide), gset_k _ _ _ (show (13 : Nat) ≠ 9 by decide), gset_k _ _ _ (show (13 : Nat) ≠ 10 by decide), gset_k _ _ _ (show (14 : Nat) ≠ 6 by decide), gset_k _ _ _ (show (14 : Nat) ≠ 7 by decide), gset_k _ _ _ (show (14 : Nat) ≠ 8 by decide), gset_k _ _ _ (show (14 : Nat) ≠ 9 by decide), gset_k _ _ _ (show (14 : Nat) ≠ 10 by decide)]
            have he' : (va_up (m_lk A) (m_nD A) [] d)[j]? = some e := he
            by_cases e1 : d = m_nD A
            · rw [e1, va_up_self] at he'
              cases he'
            · rw [va_up_ne _ _ e1] at he'
              have hd' : d < m_nD A + 1 := hd
              exact h0.2.2.2.1 d j e (by omega) he'
          · rw [hset_1, gset_k _ _ _ (fun e => by subst e; revert hk; decide), gset_k _ _ _ (fun e => by subst e; revert hk; decide), gset_k _ _ _ (fun e => by subst e; revert hk; decide), gset_k _ _ _ (fun e => by subst e; revert hk; decide), gset_k _ _ _ (fun e => by subst e; revert hk; decide)]
          · rw [hset_n _ _ (fun e => by subst e; revert hk; decide)]
            rfl
      · have he : m_nD A = 120 := by
          rw [hnD] at e
          exact (nI_eq (by omega) (by decide)).mp e
        rw [if_pos he]
        exact br69_89 ⟨_, rfl, rfl, h0⟩
    rcases hu with rfl | hu
    · exact br69_54 (fun _ => full rfl) (fun e => absurd (by decide) e)
    · obtain ⟨p, hp, rfl⟩ := (rI_rng (by omega)).mp hu
      refine br69_54 (fun e => absurd e (nI_pos (by omega))) (fun _ => ?_)
      have ho2 : sp_opt (nI p) = some p := by
        unfold sp_opt
        rw [if_neg (fun q => absurd (by rw [q]; decide : nI p < 0) (nI_pos (by omega))), nI_clamp (by omega)]
      have hrow := h0.2.2.1.2.1 p hp
      have hrp : ∀ q, m_rp A p = some q → q < 2147483648 := fun q hq => by have := (hI.2.2.2.2.2.1 p hp q hq).1; omega
      refine br69_58 (i_1 := p) rfl (by omega) (fun e => ?_) (fun e => ?_)
      · have hb : sp_bad A (sp_opt (nI p)) mi = true := by
          rw [ho2]
          unfold sp_bad
          rw [hrow.1] at e
          have : m_mp A p ≠ mi := fun q => e (by rw [q])
          simp [this]
        rw [if_pos hb]
        exact br69_77 ⟨_, rfl, rfl, h0⟩
      · have e' : m_mp A p = mi := by
          rw [hrow.1] at e
          have hmp := (hI.2.2.2.1 p hp).1
          exact (nI_eq (by omega) (by omega)).mp e
        refine br69_68 (i_1 := p) rfl (by omega) (fun e2 => ?_) (fun e2 => ?_)
        · rw [hrow.2.2.2.2.1] at e2
          have hn := (oI_neg hrp).mp e2
          refine full ?_
          rw [ho2]
          unfold sp_bad
          simp [e', hn]
        · rw [hrow.2.2.2.2.1] at e2
          have hn : m_rp A p ≠ none := fun q => e2 ((oI_neg hrp).mpr q)
          have hb : sp_bad A (sp_opt (nI p)) mi = true := by
            rw [ho2]
            unfold sp_bad
            simp [hn]
          rw [if_pos hb]
          exact br69_77 ⟨_, rfl, rfl, h0⟩
  by_cases hu1 : u = -1
  · rw [if_pos ⟨hm, Or.inl hu1⟩]
    exact br69_13 (fun _ => key (Or.inl hu1)) (fun e => absurd hu1 e)
  · refine br69_13 (fun e => absurd e hu1) (fun _ => ?_)
    refine br69_18 (r_isDiv _) ?_
    rintro v W1 ⟨rfl, rfl⟩
    rw [hnD]
    by_cases hu : 0 ≤ u ∧ u ≤ nI (m_nD A) - 1
    · rw [if_pos hu, if_pos ⟨hm, Or.inr hu⟩]
      exact br69_23 (fun _ => key (Or.inr hu)) (fun e => absurd e (by decide))
    · rw [if_neg hu, if_neg (fun z => z.2.elim hu1 hu)]
      exact br69_23 (fun e => absurd rfl e) (fun _ => br69_26 ⟨_, rfl, rfl, h0⟩)
end RS3
