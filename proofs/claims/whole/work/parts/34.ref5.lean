/-! THE REFERENCE'S CALLS: repeat, move -/
theorem r_RA_mov {A : mS} {W : rW} (h : r_RA A W) (d : Nat) (u : Option Nat) : r_RA (m_mov A d u) (gset W 7 d (oI u)) := by
  refine h.wD ⟨h.2.2.1.1, fun c hc => ?_, fun c hc hc2 => ?_⟩ (fun c j x hc hx => ?_) (fun k hk => gset_k _ _ _ (fun e => by subst e; revert hk; decide)) (fun k hk => rfl)
  · rw [gset_k _ _ _ (show (6 : Nat) ≠ 7 by decide), gset_k _ _ _ (show (8 : Nat) ≠ 7 by decide), gset_k _ _ _ (show (9 : Nat) ≠ 7 by decide), gset_k _ _ _ (show (10 : Nat) ≠ 7 by decide), gset_k _ _ _ (show (11 : Nat) ≠ 7 by decide), gset_e]
    have hr := h.2.2.1.2.1 c hc
    refine ⟨hr.1, ?_, hr.2.2⟩
    show va_up (W.1 7) d (oI u) c = oI (va_up (m_un A) d u c)
    by_cases e : c = d
    · rw [e, va_up_self, va_up_self]
    · rw [va_up_ne _ _ e, va_up_ne _ _ e]; exact hr.2.1
  · rw [gset_k _ _ _ (by decide)]
    exact h.2.2.1.2.2 c hc hc2
  · rw [gset_k _ _ _ (by decide), gset_k _ _ _ (by decide), gset_k _ _ _ (by decide)]
    exact h.2.2.2.1 c j x hc hx
theorem r_RA_rep {A : mS} {W : rW} (h : r_RA A W) (d o : Nat) : r_RA (m_rep A d o) (gset W 10 d (nI o)) := by
  refine h.wD ⟨h.2.2.1.1, fun c hc => ?_, fun c hc hc2 => ?_⟩ (fun c j x hc hx => ?_) (fun k hk => gset_k _ _ _ (fun e => by subst e; revert hk; decide)) (fun k hk => rfl)
  · rw [gset_k _ _ _ (show (6 : Nat) ≠ 10 by decide), gset_k _ _ _ (show (7 : Nat) ≠ 10 by decide), gset_k _ _ _ (show (8 : Nat) ≠ 10 by decide), gset_k _ _ _ (show (9 : Nat) ≠ 10 by decide), gset_k _ _ _ (show (11 : Nat) ≠ 10 by decide), gset_e]
    have hr := h.2.2.1.2.1 c hc
    refine ⟨hr.1, hr.2.1, hr.2.2.1, hr.2.2.2.1, ?_, hr.2.2.2.2.2⟩
    show va_up (W.1 10) d (nI o) c = oI (va_up (m_rp A) d (some o) c)
    by_cases e : c = d
    · rw [e, va_up_self, va_up_self]; rfl
    · rw [va_up_ne _ _ e, va_up_ne _ _ e]; exact hr.2.2.2.2.1
  · rw [gset_k _ _ _ (by decide)]
    exact h.2.2.1.2.2 c hc hc2
  · rw [gset_k _ _ _ (by decide), gset_k _ _ _ (by decide), gset_k _ _ _ (by decide)]
    exact h.2.2.2.1 c j x hc hx
theorem m_mov_back (A : mS) (d : Nat) (u : Option Nat) : m_mov (m_mov A d u) d (m_un A d) = A := by
  have e : va_up (va_up (m_un A) d u) d (m_un A d) = m_un A := by
    funext c
    by_cases e : c = d
    · rw [e, va_up_self]
    · rw [va_up_ne _ _ e, va_up_ne _ _ e]
  show ((m_nF A, m_fz A), (m_nM A, m_kd A), (m_nD A, m_mp A, va_up (va_up (m_un A) d u) d (m_un A d), m_od A, m_lb A, m_rp A, m_lk A), m_st A, m_ft A, m_sg A) = A
  rw [e]
section RS5
variable {ext : av_X} {X : rX} {W : rW} {A : mS}
theorem r_repeat (hI : m_Inv A) (h : r_RA A W) (dd oo : Int32) : rCi ext X 2 73 [.ref X.1, .int dd, .int oo] W (fun x W' => x = (sp_repeat A dd oo).1 ∧ r_RA (sp_repeat A dd oo).2 W') := by
  refine rCi.of (L := [some (.ref X.1), some (.int dd), some (.int oo), none]) (by rw [ml73]; rfl) ?_
  refine br73_0 (r_isDiv _) ?_
  rintro v W1 ⟨rfl, rfl⟩
  have h0 : r_RA A (hset W 0 0) := h.hset 0 0 (by decide)
  generalize hset W 0 0 = W at h0 ⊢
  have hnD : W.2 5 = nI (m_nD A) := h0.2.2.1.1
  have hD120 : m_nD A ≤ 120 := hI.2.2.1
  unfold sp_repeat
  rw [hnD]
  by_cases hd : 0 ≤ dd ∧ dd ≤ nI (m_nD A) - 1
  case neg =>
    rw [if_neg hd, if_neg (fun z => hd z.1)]
    exact br73_10 (fun _ => br73_21 ⟨_, rfl, rfl, h0⟩) (fun e => absurd rfl e)
  rw [if_pos hd]
  refine br73_10 (fun e => absurd e (by decide)) (fun _ => ?_)
  refine br73_13 (r_isDiv _) ?_
  rintro v W1 ⟨rfl, rfl⟩
  rw [hnD]
  by_cases ho : 0 ≤ oo ∧ oo ≤ nI (m_nD A) - 1
  case neg =>
    rw [if_neg ho, if_neg (fun z => ho z.2)]
    exact br73_18 (fun e => absurd rfl e) (fun _ => br73_21 ⟨_, rfl, rfl, h0⟩)
  rw [if_pos ho, if_pos ⟨hd, ho⟩]
  refine br73_18 (fun _ => ?_) (fun e => absurd e (by decide))
  obtain ⟨d, hd', rfl⟩ := (rI_rng (by omega)).mp hd
  obtain ⟨o, ho', rfl⟩ := (rI_rng (by omega)).mp ho
  rw [nI_clamp (show d < 2147483648 by omega), nI_clamp (show o < 2147483648 by omega)]
  have hrow := h0.2.2.1.2.1 d hd'
  have hrowo := h0.2.2.1.2.1 o ho'
  have hlk := hI.2.2.2.2.2.2.1 d hd'
  have hrp : ∀ q, m_rp A d = some q → q < 2147483648 := fun q hq => by have := (hI.2.2.2.2.2.1 d hd' q hq).1; omega
  have no : ¬ ((m_lk A d).length = 0 ∧ m_kidn A (m_nD A) d = 0 ∧ m_rp A d = none ∧ m_mp A d = m_mp A o ∧ sp_rc A o d = false) → rA ext X 2 73 68 [some (.ref X.1), some (.int (nI d)), some (.int (nI o)), none] [] W1 (fun r W' => ∃ x, r = some (.int x) ∧ x = (if (m_lk A d).length = 0 ∧ m_kidn A (m_nD A) d = 0 ∧ m_rp A d = none ∧ m_mp A d = m_mp A o ∧ sp_rc A o d = false then ((1 : Int32), m_rep A d o) else (-3, A)).1 ∧ r_RA (if (m_lk A d).length = 0 ∧ m_kidn A (m_nD A) d = 0 ∧ m_rp A d = none ∧ m_mp A d = m_mp A o ∧ sp_rc A o d = false then ((1 : Int32), m_rep A d o) else (-3, A)).2 W') := fun z => by
    rw [if_neg z]
    exact br73_68 (br73_69 (fun _ => br73_83 ⟨_, rfl, rfl, h0⟩) (fun e => absurd rfl e))
  refine br73_23 (i_1 := d) rfl (by omega) (fun e => ?_) (fun e => ?_)
  · rw [hrow.2.2.2.2.2] at e
    exact no (fun z => e (by rw [z.1]; rfl))
  · rw [hrow.2.2.2.2.2] at e
    have e1 : (m_lk A d).length = 0 := (nI_eq (by omega) (by decide)).mp e
    refine br73_32 ((r_children hI.J h0.D hd').mono (Nat.zero_le _)) ?_
    rintro v W2 ⟨rfl, rfl⟩
    have hkn := m_kidn_le A (m_nD A) d
    refine br73_37 (fun e => ?_) (fun e => ?_)
    · exact no (fun z => e (by rw [z.2.1]; rfl))
    · have e2 : m_kidn A (m_nD A) d = 0 := (nI_eq (by omega) (by decide)).mp e
      refine br73_40 (i_1 := d) rfl (by omega) (fun e => ?_) (fun e => ?_)
      · rw [hrow.2.2.2.2.1] at e
        exact no (fun z => by rw [z.2.2.1] at e; exact absurd e (by decide))
      · rw [hrow.2.2.2.2.1] at e
        have e3 : m_rp A d = none := (oI_neg hrp).mp (Int32.not_le.mp e)
        refine br73_49 (i_1 := d) (i_4 := o) rfl (by omega) rfl (by omega) (fun e => ?_) (fun e => ?_)
        · rw [hrow.1, hrowo.1] at e
          exact no (fun z => e (by rw [z.2.2.2.1]))
        · rw [hrow.1, hrowo.1] at e
          have hm1 := (hI.2.2.2.1 d hd').1
          have hm2 := (hI.2.2.2.1 o ho').1
          have hM5 := hI.2.1.1
          have e4 : m_mp A d = m_mp A o := (nI_eq (by omega) (by omega)).mp e
          refine br73_64 (br73_69 (fun e => absurd e (by decide)) (fun _ => ?_))
          refine br73_74 (r_comesBack hI.J h0 hd' ho') ?_
          rintro v W3 ⟨⟨b, hs⟩, c, rfl, hc⟩
          have hR3 := hs.RA h0
          refine br73_80 (fun e => ?_) (fun e => ?_)
          · have ec : c = false := bI_0.mp e
            have e5 : sp_rc A o d = false := by
              rw [sp_rc_no]
              intro z
              rw [hc.mpr z] at ec
              cases ec
            rw [if_pos ⟨e1, e2, e3, e4, e5⟩]
            exact br73_86 (i_1 := d) rfl (by omega) ⟨_, rfl, rfl, r_RA_rep hR3 d o⟩
          · have ec : c = true := by
              cases c with
              | true => rfl
              | false => exact absurd rfl e
            have e5 : sp_rc A o d = true := sp_rc_iff.mpr (hc.mp ec)
            rw [if_neg (fun z => by rw [e5] at z; exact absurd z.2.2.2.2 (by decide))]
            exact br73_83 ⟨_, rfl, rfl, hR3⟩
theorem r_move (hI : m_Inv A) (h : r_RA A W) (dd uu : Int32) : rCi ext X 2 77 [.ref X.1, .int dd, .int uu] W (fun x W' => x = (sp_move A dd uu).1 ∧ r_RA (sp_move A dd uu).2 W') := by
  refine rCi.of (L := [some (.ref X.1), some (.int dd), some (.int uu), none, none, none]) (by rw [ml77]; rfl) ?_
  refine br77_0 (r_isDiv _) ?_
  rintro v W1 ⟨rfl, rfl⟩
  have h0 : r_RA A (hset W 0 0) := h.hset 0 0 (by decide)
  generalize hset W 0 0 = W at h0 ⊢
  have hnD : W.2 5 = nI (m_nD A) := h0.2.2.1.1
  have hD120 : m_nD A ≤ 120 := hI.2.2.1
  unfold sp_move
  rw [hnD]
  by_cases hd : 0 ≤ dd ∧ dd ≤ nI (m_nD A) - 1
  case neg =>
    rw [if_neg hd, if_neg (fun z => hd z.1)]
    exact br77_10 (fun _ => br77_26 ⟨_, rfl, rfl, h0⟩) (fun e => absurd rfl e)
  rw [if_pos hd]
  refine br77_10 (fun e => absurd e (by decide)) (fun _ => ?_)
  obtain ⟨d, hd', rfl⟩ := (rI_rng (by omega)).mp hd
  rw [nI_clamp (show d < 2147483648 by omega)]
  have hrow := h0.2.2.1.2.1 d hd'
  -- what is behind the checks: the new place is tried
  have try' : ∀ (u : Option Nat), uu = oI u → sp_opt uu = u → (∀ p, u = some p → p < m_nD A ∧ m_isU A p d = false) → ((∃ k r, k < m_nD A ∧ m_rp A k = some r ∧ m_rc (m_mov A d u) r k) ↔ sp_mbad A d u = true) → rA ext X 2 77 68 [some (.ref X.1), some (.int (nI d)), some (.int uu), none, none, none] [] W (fun r W' => ∃ x, r = some (.int x) ∧ x = (if sp_mbad A d (sp_opt uu) = true then ((-3 : Int32), A) else (1, m_mov A d (sp_opt uu))).1 ∧ r_RA (if sp_mbad A d (sp_opt uu) = true then ((-3 : Int32), A) else (1, m_mov A d (sp_opt uu))).2 W') := by
    intro u eu eo hu hbad
    rw [eo]
    refine br77_68 (i_1 := d) (i_4 := d) rfl (by omega) rfl (by omega) ?_
    rw [eu]
    have hJ' : m_J (m_mov A d u) := m_mov_J hI hd' hu
    have loop : ∀ (n k : Nat) (c : Bool) (W2 : rW), k + n = m_nD A → r_RA (m_mov A d u) W2 → (c = true → ∃ k r, k < m_nD A ∧ m_rp A k = some r ∧ m_rc (m_mov A d u) r k) → (∀ j r, j < k → m_rp A j = some r → m_rc (m_mov A d u) r j → c = true) → rA ext X 2 77 88 [some (.ref X.1), some (.int (nI d)), some (.int (oI u)), some (.int (W.1 7 d)), some (.int (bI c)), some (.int (nI k))] [] W2 (fun r W' => ∃ x, r = some (.int x) ∧ x = (if sp_mbad A d u = true then ((-3 : Int32), A) else (1, m_mov A d u)).1 ∧ r_RA (if sp_mbad A d u = true then ((-3 : Int32), A) else (1, m_mov A d u)).2 W') := by
      intro n
      induction n with
      | zero =>
        intro k c W2 hk hR hc1 hc2
        have hn2 : W2.2 5 = nI (m_nD A) := hR.2.2.1.1
        refine br77_88 (fun _ => ?_) (fun e => absurd (by rw [hn2]; exact nI_le (by omega) (by omega)) e)
        refine br77_141 (fun e => ?_) (fun e => ?_)
        · have ec : c = false := bI_0.mp e
          subst ec
          have hb : sp_mbad A d u = false := by
            cases hq : sp_mbad A d u with
            | false => rfl
            | true =>
              obtain ⟨j, r, h1, h2, h3⟩ := hbad.mpr hq
              exact absurd (hc2 j r (by omega) h2 h3) (by decide)
          rw [hb, if_neg (by decide)]
          exact br77_153 (fun _ => br77_163 (br77_164 ⟨_, rfl, rfl, hR⟩)) (fun e => absurd rfl e)
        · have ec : c = true := by
            cases c with
            | true => rfl
            | false => exact absurd rfl e
          subst ec
          rw [hbad.mp (hc1 rfl), if_pos rfl]
          refine br77_146 (i_1 := d) rfl (by omega) ?_
          refine br77_153 (fun e => absurd e (by decide)) (fun _ => br77_158 (br77_164 ⟨_, rfl, rfl, ?_⟩))
          rw [hrow.2.1]
          have := r_RA_mov hR d (m_un A d)
          rw [m_mov_back] at this
          exact this
      | succ n ih =>
        intro k c W2 hk hR hc1 hc2
        have hn2 : W2.2 5 = nI (m_nD A) := hR.2.2.1.1
        have hkl : k < m_nD A := by omega
        refine br77_88 (fun e => absurd e (by rw [hn2]; exact nI_ge (by omega) (by omega))) (fun _ => ?_)
        have hrk := hR.2.2.1.2.1 k hkl
        have hrkp : W2.1 10 k = oI (m_rp A k) := hrk.2.2.2.2.1
        have hrp : ∀ q, m_rp A k = some q → q < 2147483648 := fun q hq => by have := (hI.2.2.2.2.2.1 k hkl q hq).1; omega
        refine br77_97 (fun e => ?_) (fun e => ?_)
        · have ec : c = true := by
            cases c with
            | true => rfl
            | false => exact absurd rfl e
          subst ec
          refine br77_128 (br77_133 ?_)
          rw [nI_1]
          exact ih (k + 1) true W2 (by omega) hR hc1 (fun _ _ _ _ _ => rfl)
        · have ec : c = false := bI_0.mp e
          subst ec
          refine br77_102 (i_1 := k) rfl (by omega) (fun e2 => ?_) (fun e2 => ?_)
          · rw [hrkp, oI_neg hrp] at e2
            refine br77_132 (br77_133 ?_)
            rw [nI_1]
            refine ih (k + 1) false W2 (by omega) hR hc1 (fun j r hj hr hz => ?_)
            by_cases ej : j = k
            · rw [ej, e2] at hr; cases hr
            · exact hc2 j r (by omega) hr hz
          · rw [hrkp, oI_neg hrp] at e2
            cases hq : m_rp A k with
            | none => exact absurd hq e2
            | some r =>
              have hrl := (hI.2.2.2.2.2.1 k hkl r hq).1
              refine br77_112 (i_1 := k) rfl (by omega) (by rw [hrkp, hq]; exact r_comesBack hJ' hR hkl hrl) ?_
              rintro v W3 ⟨⟨b, hs⟩, c, rfl, hc⟩
              have hR3 := hs.RA hR
              refine br77_125 (fun e3 => ?_) (fun e3 => ?_)
              · have ec : c = false := bI_0.mp e3
                refine br77_132 (br77_133 ?_)
                rw [nI_1]
                refine ih (k + 1) false W3 (by omega) hR3 hc1 (fun j r' hj hr hz => ?_)
                by_cases ej : j = k
                · subst ej
                  rw [hq] at hr
                  cases hr
                  rw [hc.mpr hz] at ec
                  cases ec
                · exact hc2 j r' (by omega) hr hz
              · have ec : c = true := by
                  cases c with
                  | true => rfl
                  | false => exact absurd rfl e3
                refine br77_128 (br77_133 ?_)
                rw [nI_1]
                exact ih (k + 1) true W3 (by omega) hR3 (fun _ => ⟨k, r, hkl, hq, hc.mp ec⟩) (fun _ _ _ _ _ => rfl)
    exact loop (m_nD A) 0 false _ (Nat.zero_add _) (r_RA_mov h0 d u) (fun z => by cases z) (fun j r hj => by omega)
  have key : (uu = -1 ∨ (0 ≤ uu ∧ uu ≤ nI (m_nD A) - 1)) → rA ext X 2 77 28 [some (.ref X.1), some (.int (nI d)), some (.int uu), none, none, none] [] W (fun r W' => ∃ x, r = some (.int x) ∧ x = (if sp_mbad A d (sp_opt uu) = true then ((-3 : Int32), A) else (1, m_mov A d (sp_opt uu))).1 ∧ r_RA (if sp_mbad A d (sp_opt uu) = true then ((-3 : Int32), A) else (1, m_mov A d (sp_opt uu))).2 W') := by
    rintro (rfl | hu)
    · refine br77_28 (fun _ => ?_) (fun e => absurd (by decide) e)
      refine try' none rfl rfl (fun p e => by cases e) ⟨fun ⟨k, r, h1, h2, h3⟩ => (m_mov_top hI h1 h2 h3).elim, fun z => by cases z⟩
    · obtain ⟨p, hp, rfl⟩ := (rI_rng (by omega)).mp hu
      have ho2 : sp_opt (nI p) = some p := by
        unfold sp_opt
        rw [if_neg (fun q => absurd (by rw [q]; decide : nI p < 0) (nI_pos (by omega))), nI_clamp (by omega)]
      have hrowp := h0.2.2.1.2.1 p hp
      have hrp : ∀ q, m_rp A p = some q → q < 2147483648 := fun q hq => by have := (hI.2.2.2.2.2.1 p hp q hq).1; omega
      have hm1 := (hI.2.2.2.1 d hd').1
      have hm2 := (hI.2.2.2.1 p hp).1
      have hM5 := hI.2.1.1
      have no : sp_mbad A d (some p) = true → rA ext X 2 77 65 [some (.ref X.1), some (.int (nI d)), some (.int (nI p)), none, none, none] [] W (fun r W' => ∃ x, r = some (.int x) ∧ x = (if sp_mbad A d (sp_opt (nI p)) = true then ((-3 : Int32), A) else (1, m_mov A d (sp_opt (nI p)))).1 ∧ r_RA (if sp_mbad A d (sp_opt (nI p)) = true then ((-3 : Int32), A) else (1, m_mov A d (sp_opt (nI p)))).2 W') := fun z => by
        rw [ho2, if_pos z]
        exact br77_65 ⟨_, rfl, rfl, h0⟩
      refine br77_28 (fun e => absurd e (nI_pos (by omega))) (fun _ => ?_)
      refine br77_32 (i_1 := p) (i_4 := d) rfl (by omega) rfl (by omega) (fun e => ?_) (fun e => ?_)
      · rw [hrow.1, hrowp.1] at e
        refine no ?_
        have : m_mp A p ≠ m_mp A d := fun q => e (by rw [q])
        show (decide (m_mp A p ≠ m_mp A d) || (decide (m_rp A p ≠ none) || sp_rc A d p)) = true
        rw [decide_eq_true this, Bool.true_or]
      · rw [hrow.1, hrowp.1] at e
        have e1 : m_mp A p = m_mp A d := (nI_eq (by omega) (by omega)).mp e
        refine br77_47 (i_1 := p) rfl (by omega) (fun e => ?_) (fun e => ?_)
        · rw [hrowp.2.2.2.2.1] at e
          have hn : m_rp A p ≠ none := fun q => by rw [q] at e; exact absurd e (by decide)
          refine no ?_
          show (decide (m_mp A p ≠ m_mp A d) || (decide (m_rp A p ≠ none) || sp_rc A d p)) = true
          rw [decide_eq_true hn, Bool.true_or, Bool.or_true]
        · rw [hrowp.2.2.2.2.1] at e
          have e2 : m_rp A p = none := (oI_neg hrp).mp (Int32.not_le.mp e)
          have eb : sp_mbad A d (some p) = sp_rc A d p := by
            show (decide (m_mp A p ≠ m_mp A d) || (decide (m_rp A p ≠ none) || sp_rc A d p)) = _
            rw [decide_eq_false (fun z => z e1), decide_eq_false (fun z => z e2), Bool.false_or, Bool.false_or]
          refine br77_56 ((r_isUnder hI.J h0 hp hd').mono (Nat.zero_le _)) ?_
          rintro v W2 ⟨rfl, rfl⟩
          cases hU : m_isU A p d with
          | true =>
            refine br77_62 (fun e => absurd e (by decide)) (fun _ => no ?_)
            rw [eb]
            exact sp_rc_iff.mpr (m_isU_rc hI.J _ p d hp rfl hU)
          | false =>
            refine br77_62 (fun _ => ?_) (fun e => absurd rfl e)
            refine try' (some p) rfl ho2 (fun q e => by cases e; exact ⟨hp, hU⟩) ?_
            rw [eb, sp_rc_iff]
            exact m_mov_bad hI hd' hp hU
  by_cases hu1 : uu = -1
  · rw [if_pos ⟨hd, Or.inl hu1⟩]
    exact br77_13 (fun _ => key (Or.inl hu1)) (fun e => absurd hu1 e)
  · refine br77_13 (fun e => absurd e hu1) (fun _ => ?_)
    refine br77_18 (r_isDiv _) ?_
    rintro v W2 ⟨rfl, rfl⟩
    rw [hnD]
    by_cases hu : 0 ≤ uu ∧ uu ≤ nI (m_nD A) - 1
    · rw [if_pos hu, if_pos ⟨hd, Or.inr hu⟩]
      exact br77_23 (fun _ => key (Or.inr hu)) (fun e => absurd e (by decide))
    · rw [if_neg hu, if_neg (fun z => z.2.elim hu1 hu)]
      exact br77_23 (fun e => absurd rfl e) (fun _ => br77_26 ⟨_, rfl, rfl, h0⟩)
end RS5
