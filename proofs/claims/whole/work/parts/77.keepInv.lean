/-! WHAT ALWAYS HOLDS IS KEPT BY EVERY CALL -/
theorem m_Inv0 : m_Inv m_0 := by
  refine ⟨⟨by decide, fun i hi => absurd hi (Nat.not_lt_zero _)⟩, ⟨by decide, fun i hi => absurd hi (Nat.not_lt_zero _)⟩, by decide, fun i hi => absurd hi (Nat.not_lt_zero _), fun i hi => absurd hi (Nat.not_lt_zero _), fun i hi => absurd hi (Nat.not_lt_zero _), fun i hi => absurd hi (Nat.not_lt_zero _), ⟨fun _ => 0, fun i hi => absurd hi (Nat.not_lt_zero _)⟩, by decide, by decide, by decide⟩
section KI
variable {A : mS}
theorem i_file (hI : m_Inv A) (n : Int32) : m_Inv (sp_file A n).2 := by
  unfold sp_file
  by_cases c : 0 ≤ n ∧ n ≤ 100000
  · rw [if_pos c]
    by_cases e : m_nF A = 30
    · rw [if_pos e]; exact hI
    · rw [if_neg e]
      obtain ⟨⟨h1, h2⟩, h3, h4, h5, h6, h7, h8, h9⟩ := hI
      refine ⟨⟨by show m_nF A + 1 ≤ 30; omega, fun i hi => ?_⟩, h3, h4, h5, h6, h7, fun d hd => ⟨(h8 d hd).1, fun e he => ?_⟩, h9⟩
      · have hi' : i < m_nF A + 1 := hi
        show va_up (m_fz A) (m_nF A) n.toNatClampNeg i ≤ 100000
        by_cases q : i = m_nF A
        · rw [q, va_up_self]
          exact nI_33 (n := 100000) c.1 c.2 (by decide)
        · rw [va_up_ne _ _ q]
          exact h2 i (by omega)
      · have := (h8 d hd).2 e he
        exact ⟨by show e.1 < m_nF A + 1; omega, this.2⟩
  · rw [if_neg c]; exact hI
theorem i_size (hI : m_Inv A) (f n : Int32) : m_Inv (sp_size A f n).2 := by
  unfold sp_size
  by_cases c : 0 ≤ f ∧ f ≤ nI (m_nF A) - 1
  · rw [if_pos c]
    by_cases e : 0 ≤ n ∧ n ≤ 100000
    · rw [if_pos e]
      obtain ⟨⟨h1, h2⟩, h3⟩ := hI
      refine ⟨⟨h1, fun i hi => ?_⟩, h3⟩
      show va_up (m_fz A) f.toNatClampNeg n.toNatClampNeg i ≤ 100000
      by_cases q : i = f.toNatClampNeg
      · rw [q, va_up_self]
        exact nI_33 (n := 100000) e.1 e.2 (by decide)
      · rw [va_up_ne _ _ q]
        exact h2 i hi
    · rw [if_neg e]; exact hI
  · rw [if_neg c]; exact hI
theorem i_map (hI : m_Inv A) (k : Int32) : m_Inv (sp_map A k).2 := by
  unfold sp_map
  by_cases c : 0 ≤ k ∧ k ≤ 1
  · rw [if_pos c]
    by_cases e : m_nM A = 5
    · rw [if_pos e]; exact hI
    · rw [if_neg e]
      obtain ⟨h0, ⟨h1, h2⟩, h4, h5, h6⟩ := hI
      refine ⟨h0, ⟨by show m_nM A + 1 ≤ 5; omega, fun i hi => ?_⟩, h4, fun d hd => ?_, h6⟩
      · have hi' : i < m_nM A + 1 := hi
        show va_up (m_kd A) (m_nM A) k.toNatClampNeg i ≤ 1
        by_cases q : i = m_nM A
        · rw [q, va_up_self]
          exact nI_33 (n := 1) c.1 c.2 (by decide)
        · rw [va_up_ne _ _ q]
          exact h2 i (by omega)
      · have := h5 d hd
        exact ⟨by show m_mp A d < m_nM A + 1; omega, this.2⟩
  · rw [if_neg c]; exact hI
theorem i_new (hI : m_Inv A) {m o l : Nat} {u : Option Nat} (hm : m < m_nM A) (ho : o ≤ 999) (hl : l ≤ 9999) (hn : m_nD A < 120) (hu : ∀ p, u = some p → p < m_nD A ∧ m_mp A p = m ∧ m_rp A p = none) : m_Inv (sp_new A m u o l) := by
  obtain ⟨h0, h1, h4, h5, h6, h7, h8, ⟨rk, hr⟩, h10⟩ := hI
  have mp : ∀ x, x ≠ m_nD A → m_mp (sp_new A m u o l) x = m_mp A x := fun x hx => va_up_ne _ _ hx
  have un : ∀ x, x ≠ m_nD A → m_un (sp_new A m u o l) x = m_un A x := fun x hx => va_up_ne _ _ hx
  have rp : ∀ x, x ≠ m_nD A → m_rp (sp_new A m u o l) x = m_rp A x := fun x hx => va_up_ne _ _ hx
  have lk : ∀ x, x ≠ m_nD A → m_lk (sp_new A m u o l) x = m_lk A x := fun x hx => va_up_ne _ _ hx
  have mpn : m_mp (sp_new A m u o l) (m_nD A) = m := va_up_self _ _ _
  have unn : m_un (sp_new A m u o l) (m_nD A) = u := va_up_self _ _ _
  have rpn : m_rp (sp_new A m u o l) (m_nD A) = none := va_up_self _ _ _
  have lkn : m_lk (sp_new A m u o l) (m_nD A) = [] := va_up_self _ _ _
  refine ⟨h0, h1, by show m_nD A + 1 ≤ 120; omega, fun d hd => ?_, fun d hd p hp => ?_, fun d hd r hrp => ?_, fun d hd => ?_, ⟨fun x => if x = m_nD A then 0 else rk x + 1, fun d hd => ⟨fun p hp => ?_, fun r hrp => ?_⟩⟩, h10⟩
  · have hd' : d < m_nD A + 1 := hd
    by_cases e : d = m_nD A
    · subst e
      rw [mpn, show m_od (sp_new A m u o l) (m_nD A) = o from va_up_self _ _ _, show m_lb (sp_new A m u o l) (m_nD A) = l from va_up_self _ _ _]
      exact ⟨hm, ho, hl⟩
    · rw [mp d e, show m_od (sp_new A m u o l) d = m_od A d from va_up_ne _ _ e, show m_lb (sp_new A m u o l) d = m_lb A d from va_up_ne _ _ e]
      exact h5 d (by omega)
  · have hd' : d < m_nD A + 1 := hd
    have key : p < m_nD A ∧ m_mp A p = m_mp (sp_new A m u o l) d ∧ m_rp A p = none := by
      by_cases e : d = m_nD A
      · subst e
        rw [unn] at hp
        rw [mpn]
        exact hu p hp
      · rw [un d e] at hp
        rw [mp d e]
        exact h6 d (by omega) p hp
    have e : p ≠ m_nD A := by omega
    rw [mp p e, rp p e]
    exact ⟨by show p < m_nD A + 1; omega, key.2⟩
  · have hd' : d < m_nD A + 1 := hd
    by_cases e : d = m_nD A
    · rw [e, rpn] at hrp
      cases hrp
    · rw [rp d e] at hrp
      have q := h7 d (by omega) r hrp
      rw [mp d e, mp r (by omega), lk d e]
      exact ⟨by show r < m_nD A + 1; omega, q.2⟩
  · have hd' : d < m_nD A + 1 := hd
    by_cases e : d = m_nD A
    · rw [e, lkn]
      exact ⟨Nat.zero_le _, fun e he => by cases he⟩
    · rw [lk d e]
      exact h8 d (by omega)
  · have hd' : d < m_nD A + 1 := hd
    by_cases e : d = m_nD A
    · subst e
      rw [unn] at hp
      have := (hu p hp).1
      show (if m_nD A = m_nD A then 0 else _) < (if p = m_nD A then 0 else rk p + 1)
      rw [if_pos rfl, if_neg (by omega)]
      omega
    · rw [un d e] at hp
      have q := (hr d (by omega)).1 p hp
      have q2 := (h6 d (by omega) p hp).1
      show (if d = m_nD A then 0 else rk d + 1) < (if p = m_nD A then 0 else rk p + 1)
      rw [if_neg e, if_neg (by omega)]
      omega
  · have hd' : d < m_nD A + 1 := hd
    by_cases e : d = m_nD A
    · rw [e, rpn] at hrp
      cases hrp
    · rw [rp d e] at hrp
      have q := (hr d (by omega)).2 r hrp
      have q2 := (h7 d (by omega) r hrp).1
      show (if r = m_nD A then 0 else rk r + 1) < (if d = m_nD A then 0 else rk d + 1)
      rw [if_neg e, if_neg (by omega)]
      omega
theorem sp_opt_some (hD : m_nD A ≤ 120) {u : Int32} (hu : u = -1 ∨ (0 ≤ u ∧ u ≤ nI (m_nD A) - 1)) {p : Nat} (h : sp_opt u = some p) : p < m_nD A := by
  unfold sp_opt at h
  by_cases e : u = -1
  · rw [if_pos e] at h; cases h
  · rw [if_neg e] at h
    obtain ⟨i, hi, rfl⟩ := (rI_rng (by omega)).mp (hu.resolve_left e)
    rw [nI_clamp (by omega)] at h
    cases h
    exact hi
theorem i_division (hI : m_Inv A) (m u o l : Int32) : m_Inv (sp_division A m u o l).2 := by
  have hM := hI.2.1.1
  have hD := hI.2.2.1
  unfold sp_division
  by_cases c : (0 ≤ m ∧ m ≤ nI (m_nM A) - 1) ∧ (u = -1 ∨ (0 ≤ u ∧ u ≤ nI (m_nD A) - 1))
  · rw [if_pos c]
    by_cases c2 : (0 ≤ o ∧ o ≤ 999) ∧ (0 ≤ l ∧ l ≤ 9999)
    · rw [if_pos c2]
      by_cases c3 : sp_bad A (sp_opt u) m.toNatClampNeg = true
      · rw [if_pos c3]; exact hI
      · rw [if_neg c3]
        by_cases c4 : m_nD A = 120
        · rw [if_pos c4]; exact hI
        · rw [if_neg c4]
          obtain ⟨i, hi, rfl⟩ := (rI_rng (by omega)).mp c.1
          rw [nI_clamp (by omega)] at c3 ⊢
          refine i_new hI hi (nI_33 (n := 999) c2.1.1 c2.1.2 (by decide)) (nI_33 (n := 9999) c2.2.1 c2.2.2 (by decide)) (by omega) (fun p hp => ?_)
          rw [hp] at c3
          have c5 : ¬ ((decide (m_mp A p ≠ i) || decide (m_rp A p ≠ none)) = true) := c3
          rw [Bool.or_eq_true, decide_eq_true_eq, decide_eq_true_eq] at c5
          refine ⟨sp_opt_some hD c.2 hp, ?_, ?_⟩
          · exact Classical.byContradiction (fun z => c5 (Or.inl z))
          · exact Classical.byContradiction (fun z => c5 (Or.inr z))
    · rw [if_neg c2]; exact hI
  · rw [if_neg c]; exact hI
theorem i_link (hI : m_Inv A) (d f a b : Int32) : m_Inv (sp_link A d f a b).2 := by
  have hF := hI.1.1
  have hD := hI.2.2.1
  unfold sp_link
  by_cases c : (0 ≤ d ∧ d ≤ nI (m_nD A) - 1) ∧ (0 ≤ f ∧ f ≤ nI (m_nF A) - 1)
  · rw [if_pos c]
    by_cases c2 : 0 ≤ a ∧ a < b ∧ b ≤ 100000
    · rw [if_pos c2]
      obtain ⟨d, hd, rfl⟩ := (rI_rng (by omega)).mp c.1
      obtain ⟨f, hf, rfl⟩ := (rI_rng (by omega)).mp c.2
      rw [nI_clamp (by omega), nI_clamp (by omega)]
      by_cases c3 : m_rp A d ≠ none
      · rw [if_pos c3]; exact hI
      · rw [if_neg c3]
        by_cases c4 : (m_lk A d).length = 5
        · rw [if_pos c4]; exact hI
        · rw [if_neg c4]
          have c3' : m_rp A d = none := Classical.byContradiction c3
          have h0b : 0 ≤ b := by
            have h1 := c2.1
            have h2 := c2.2.1
            rw [Int32.le_iff_toInt_le] at h1 ⊢
            rw [Int32.lt_iff_toInt_lt] at h2
            omega
          have hb9 : b.toNatClampNeg ≤ 100000 := nI_33 (n := 100000) h0b c2.2.2 (by decide)
          have hab : a.toNatClampNeg < b.toNatClampNeg := by
            have h1 := c2.1
            have h2 := c2.2.1
            rw [Int32.le_iff_toInt_le] at h1
            rw [Int32.lt_iff_toInt_lt] at h2
            show a.toInt.toNat < b.toInt.toNat
            have h3 : (0 : Int32).toInt = 0 := rfl
            omega
          show m_Inv (m_lkd A d f a.toNatClampNeg b.toNatClampNeg)
          obtain ⟨h0, h1, h4, h5, h6, h7, h8, h9⟩ := hI
          refine ⟨h0, h1, h4, h5, h6, fun x hx r hr => ?_, fun x hx => ?_, h9⟩
          · have q := h7 x hx r hr
            have e : x ≠ d := fun e => by
              have hr' : m_rp A x = some r := hr
              rw [e, c3'] at hr'
              cases hr'
            rw [m_lkd_n e]
            exact q
          · by_cases e : x = d
            · subst e
              rw [m_lkd_s, List.length_append]
              have q := h8 x hx
              refine ⟨by show (m_lk A x).length + 1 ≤ 5; omega, fun e he => ?_⟩
              rcases List.mem_append.mp he with q2 | q2
              · exact q.2 e q2
              · rw [List.mem_singleton.mp q2]
                exact ⟨hf, hab, hb9⟩
            · rw [m_lkd_n e]
              exact h8 x hx
    · rw [if_neg c2]; exact hI
  · rw [if_neg c]; exact hI
/-- ranks, when those that come to t are lifted -/
theorem i_lift (hI : m_Inv A) (t : Nat) : ∃ rk : Nat → Nat, (∀ x y, m_E A x y → rk y < rk x) ∧ ∀ x y, x < m_nD A → y < m_nD A → m_rc A x t → ¬ m_rc A y t → rk y < rk x := by
  obtain ⟨rk, hr⟩ := m_rank hI
  obtain ⟨g, g1, g2⟩ : ∃ g : Nat → Nat, (∀ x, m_rc A x t → g x = 120) ∧ ∀ x, ¬ m_rc A x t → g x = 0 := ⟨fun x => @ite _ (m_rc A x t) (Classical.propDecidable _) 120 0, fun x c => @if_pos _ (Classical.propDecidable _) c _ _ _, fun x c => @if_neg _ (Classical.propDecidable _) c _ _ _⟩
  refine ⟨fun x => rk x + g x, fun x y e => ?_, fun x y hx hy h1 h2 => ?_⟩
  · have h := m_E_rk hr e
    show rk y + g y < rk x + g x
    rcases Classical.em (m_rc A y t) with c | c
    · have c2 : m_rc A x t := ((m_rc.refl A x).step e).trans c
      rw [g1 y c, g1 x c2]
      omega
    · rw [g2 y c]
      omega
  · show rk y + g y < rk x + g x
    rw [g1 x h1, g2 y h2]
    have := (hr y hy).1
    have := hI.2.2.1
    omega
theorem i_repeat (hI : m_Inv A) (d o : Int32) : m_Inv (sp_repeat A d o).2 := by
  have hD := hI.2.2.1
  unfold sp_repeat
  by_cases c : (0 ≤ d ∧ d ≤ nI (m_nD A) - 1) ∧ (0 ≤ o ∧ o ≤ nI (m_nD A) - 1)
  · rw [if_pos c]
    obtain ⟨d, hd, rfl⟩ := (rI_rng (by omega)).mp c.1
    obtain ⟨o, ho, rfl⟩ := (rI_rng (by omega)).mp c.2
    rw [nI_clamp (by omega), nI_clamp (by omega)]
    by_cases c2 : (m_lk A d).length = 0 ∧ m_kidn A (m_nD A) d = 0 ∧ m_rp A d = none ∧ m_mp A d = m_mp A o ∧ sp_rc A o d = false
    · rw [if_pos c2]
      obtain ⟨e1, e2, e3, e4, e5⟩ := c2
      obtain ⟨rk, hr1, hr2⟩ := i_lift hI d
      have hnk : ∀ x, x < m_nD A → m_un A x ≠ some d := fun x hx e => by
        have : x ∈ m_kids A (.inl d) := c_kid_iff.mpr ⟨hx, by unfold c_pa; rw [e]⟩
        rw [m_kidn_0.mp e2] at this
        cases this
      obtain ⟨h0, h1, h4, h5, h6, h7, h8, h9, h10⟩ := hI
      have rp : ∀ x, x ≠ d → m_rp (m_rep A d o) x = m_rp A x := fun x hx => va_up_ne _ _ hx
      have rpd : m_rp (m_rep A d o) d = some o := va_up_self _ _ _
      refine ⟨h0, h1, h4, h5, fun x hx p hp => ?_, fun x hx r hrx => ?_, h8, ⟨rk, fun x hx => ⟨fun p hp => ?_, fun r hrx => ?_⟩⟩, h10⟩
      · have q := h6 x hx p hp
        have e : p ≠ d := fun e => hnk x hx (by rw [← e]; exact hp)
        rw [rp p e]
        exact q
      · by_cases e : x = d
        · subst e
          rw [rpd] at hrx
          cases hrx
          exact ⟨ho, e4.symm, List.length_eq_zero_iff.mp e1⟩
        · rw [rp x e] at hrx
          exact h7 x hx r hrx
      · exact hr1 p x ⟨(h6 x hx p hp).1, hx, Or.inl hp⟩
      · by_cases e : x = d
        · subst e
          rw [rpd] at hrx
          cases hrx
          exact hr2 x o hx ho (m_rc.refl _ _) (sp_rc_no.mp e5)
        · rw [rp x e] at hrx
          exact hr1 x r ⟨hx, (h7 x hx r hrx).1, Or.inr hrx⟩
    · rw [if_neg c2]; exact hI
  · rw [if_neg c]; exact hI
theorem i_move (hI : m_Inv A) (d u : Int32) : m_Inv (sp_move A d u).2 := by
  have hD := hI.2.2.1
  unfold sp_move
  by_cases c : (0 ≤ d ∧ d ≤ nI (m_nD A) - 1) ∧ (u = -1 ∨ (0 ≤ u ∧ u ≤ nI (m_nD A) - 1))
  · rw [if_pos c]
    obtain ⟨d, hd, rfl⟩ := (rI_rng (by omega)).mp c.1
    rw [nI_clamp (by omega)]
    by_cases c2 : sp_mbad A d (sp_opt u) = true
    · rw [if_pos c2]; exact hI
    · rw [if_neg c2]
      have hu : ∀ p, sp_opt u = some p → p < m_nD A ∧ m_mp A p = m_mp A d ∧ m_rp A p = none ∧ ¬ m_rc A d p := by
        intro p hp
        rw [hp] at c2
        have c5 : ¬ ((decide (m_mp A p ≠ m_mp A d) || (decide (m_rp A p ≠ none) || sp_rc A d p)) = true) := c2
        rw [Bool.or_eq_true, Bool.or_eq_true, decide_eq_true_eq, decide_eq_true_eq, sp_rc_iff] at c5
        refine ⟨sp_opt_some hD c.2 hp, ?_, ?_, fun z => c5 (Or.inr (Or.inr z))⟩
        · exact Classical.byContradiction (fun z => c5 (Or.inl z))
        · exact Classical.byContradiction (fun z => c5 (Or.inr (Or.inl z)))
      obtain ⟨rk, hr1, hr2⟩ : ∃ rk : Nat → Nat, (∀ x y, m_E A x y → rk y < rk x) ∧ ∀ p, sp_opt u = some p → rk d < rk p := by
        cases ho : sp_opt u with
        | none =>
          obtain ⟨rk, hr⟩ := m_rank hI
          exact ⟨rk, fun x y e => m_E_rk hr e, fun p hp => by cases hp⟩
        | some p =>
          obtain ⟨q1, q2, q3, q4⟩ := hu p ho
          obtain ⟨rk, hr1, hr2⟩ := i_lift hI p
          exact ⟨rk, hr1, fun p' hp => by cases hp; exact hr2 p d q1 hd (m_rc.refl _ _) q4⟩
      obtain ⟨h0, h1, h4, h5, h6, h7, h8, h9, h10⟩ := hI
      have un : ∀ x, x ≠ d → m_un (m_mov A d (sp_opt u)) x = m_un A x := fun x hx => va_up_ne _ _ hx
      have und : m_un (m_mov A d (sp_opt u)) d = sp_opt u := va_up_self _ _ _
      refine ⟨h0, h1, h4, h5, fun x hx p hp => ?_, h7, h8, ⟨rk, fun x hx => ⟨fun p hp => ?_, fun r hrx => ?_⟩⟩, h10⟩
      · by_cases e : x = d
        · subst e
          rw [und] at hp
          have q := hu p hp
          exact ⟨q.1, q.2.1, q.2.2.1⟩
        · rw [un x e] at hp
          exact h6 x hx p hp
      · by_cases e : x = d
        · subst e
          rw [und] at hp
          exact hr2 p hp
        · rw [un x e] at hp
          exact hr1 p x ⟨(h6 x hx p hp).1, hx, Or.inl hp⟩
      · exact hr1 x r ⟨hx, (h7 x hx r hrx).1, Or.inr hrx⟩
  · rw [if_neg c]; exact hI
theorem i_read (hI : m_Inv A) (m : Int32) : m_Inv (sp_read A m).2 := by
  unfold sp_read
  by_cases c : 0 ≤ m ∧ m ≤ nI (m_nM A) - 1
  · rw [if_pos c]
    have hl : (m_steps A m.toNatClampNeg).length ≤ 5000 := by
      have h1 := m_sof_len hI (m_visit A m.toNatClampNeg) (fun v hv => (m_visit_mem hI _ v hv).1)
      have h2 : (m_visit A m.toNatClampNeg).length ≤ 1000 := m_rd_len A 1000 _
      have h3 : (m_steps A m.toNatClampNeg).length ≤ 5 * (m_visit A m.toNatClampNeg).length := h1
      omega
    obtain ⟨h0, h1, h4, h5, h6, h7, h8, h9, h10, h11⟩ := hI
    exact ⟨h0, h1, h4, h5, h6, h7, h8, h9, hl, h11⟩
  · rw [if_neg c]; exact hI
theorem i_check (hI : m_Inv A) (m : Int32) : m_Inv (sp_check A m).2 := by
  unfold sp_check
  by_cases c : 0 ≤ m ∧ m ≤ nI (m_nM A) - 1
  · rw [if_pos c]
    have hl := m_faults_len hI m.toNatClampNeg
    obtain ⟨h0, h1, h4, h5, h6, h7, h8, h9, h10, h11, h12⟩ := hI
    exact ⟨h0, h1, h4, h5, h6, h7, h8, h9, h10, hl, h12⟩
  · rw [if_neg c]; exact hI
theorem i_print (hI : m_Inv A) (m : Int32) : m_Inv (sp_print A m).2 := by
  unfold sp_print
  by_cases c : 0 ≤ m ∧ m ≤ nI (m_nM A) - 1
  · rw [if_pos c]
    have hl := m_print_len hI m.toNatClampNeg (m_order_le A _).1
    obtain ⟨h0, h1, h4, h5, h6, h7, h8, h9, h10, h11, h12⟩ := hI
    exact ⟨h0, h1, h4, h5, h6, h7, h8, h9, h10, h11, hl⟩
  · rw [if_neg c]; exact hI
end KI
