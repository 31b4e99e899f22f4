/-! REPEATING AND MOVING: what they do to the graph -/
noncomputable def sp_rc (A : mS) (x y : Nat) : Bool := @decide (m_rc A x y) (Classical.propDecidable _)
theorem sp_rc_iff {A : mS} {x y : Nat} : sp_rc A x y = true ↔ m_rc A x y := by
  unfold sp_rc
  exact @decide_eq_true_iff _ (Classical.propDecidable _)
theorem sp_rc_no {A : mS} {x y : Nat} : sp_rc A x y = false ↔ ¬ m_rc A x y := by
  rw [← sp_rc_iff, Bool.not_eq_true]
def m_rep (A : mS) (d o : Nat) : mS := m_wD A (m_nD A) (m_mp A) (m_un A) (m_od A) (m_lb A) (va_up (m_rp A) d (some o)) (m_lk A)
def m_mov (A : mS) (d : Nat) (u : Option Nat) : mS := m_wD A (m_nD A) (m_mp A) (va_up (m_un A) d u) (m_od A) (m_lb A) (m_rp A) (m_lk A)
theorem m_cmp (n : Nat) (rk : Nat → Nat) : ∃ rk' : Nat → Nat, (∀ d, d < n → rk' d < n) ∧ ∀ x y, x < n → y < n → rk y < rk x → rk' y < rk' x := by
  refine ⟨fun d => ((List.range n).filter (fun k => decide (rk k < rk d))).length, fun d hd => ?_, fun x y hx hy h => ?_⟩
  · have h1 := cnt_lt (p := fun k => decide (rk k < rk d)) (q := fun _ => true) (y := d) (List.range n) (fun _ _ _ => rfl) (List.mem_range.mpr hd) rfl (decide_eq_false (Nat.lt_irrefl _))
    have h2 : ((List.range n).filter (fun _ => true)).length = n := by
      rw [List.filter_eq_self.mpr (fun _ _ => rfl), List.length_range]
    rw [h2] at h1
    exact h1
  · exact cnt_lt (y := y) _ (fun k _ hk => decide_eq_true (Nat.lt_trans (of_decide_eq_true hk) h)) (List.mem_range.mpr hy) (decide_eq_true h) (decide_eq_false (Nat.lt_irrefl _))
/-- ranks do not grow on the way -/
theorem m_rc_rk {A : mS} {rk : Nat → Nat} (hr : m_Rk A rk) {x y : Nat} (h : m_rc A x y) : rk y ≤ rk x := by
  refine h.closed (b := fun z => rk z ≤ rk x) (Nat.le_refl _) ?_
  rintro u v ⟨hu, hv, e⟩ hb
  rcases e with e | e
  · have := (hr v hv).2.1 u e
    omega
  · have := (hr u hu).2.2 v e
    omega
theorem m_E_rk {A : mS} {rk : Nat → Nat} (hr : m_Rk A rk) {x y : Nat} (h : m_E A x y) : rk y < rk x := by
  obtain ⟨hu, hv, e⟩ := h
  rcases e with e | e
  · exact (hr y hv).2.1 x e
  · exact (hr x hu).2.2 y e
/-- none comes back to itself -/
theorem m_acyc {A : mS} (hI : m_Inv A) {x y : Nat} (h : m_rc A x y) (e : m_E A y x) : False := by
  obtain ⟨rk, hr⟩ := m_rank hI
  have h1 := m_rc_rk hr h
  have h2 := m_E_rk hr e
  omega
theorem m_isU_self {A : mS} (hI : m_J A) {d : Nat} (hd : d < m_nD A) : m_isU A d d = true := by
  cases hq : m_un A d with
  | none => rw [m_isU_none d hq]; exact decide_eq_true rfl
  | some q => rw [m_isU_some hI d hd hq, decide_eq_true rfl, Bool.true_or]
/-- down from d, also when d has moved -/
theorem m_isU_mov {A : mS} (hI : m_J A) {d : Nat} (u : Option Nat) : ∀ (n z : Nat), z < m_nD A → m_depth A z = n → m_isU A z d = true → m_rc (m_mov A d u) d z := by
  intro n
  induction n with
  | zero =>
    intro z hz hn h
    cases hu : m_un A z with
    | none => rw [m_isU_none d hu] at h; rw [of_decide_eq_true h]; exact m_rc.refl _ d
    | some p => rw [m_depth_some hI hz hu] at hn; omega
  | succ n ih =>
    intro z hz hn h
    cases hu : m_un A z with
    | none => rw [m_depth_none hu] at hn; omega
    | some p =>
      have hp := hI.un hz hu
      by_cases e : z = d
      · rw [e]; exact m_rc.refl _ d
      · rw [m_isU_some hI d hz hu, decide_eq_false e, Bool.false_or] at h
        rw [m_depth_some hI hz hu] at hn
        refine (ih p hp (by omega) h).step ⟨hp, hz, Or.inl ?_⟩
        show va_up (m_un A) d u z = some p
        rw [va_up_ne _ _ e]
        exact hu
/-- a way in the moved graph is one in the old, or goes through the new edge -/
theorem m_mov_way {A : mS} {d p : Nat} {u : Option Nat} (hu : ∀ q, u = some q → q = p) {x y : Nat} (h : m_rc (m_mov A d u) x y) : m_rc A x y ∨ ((∃ q, u = some q) ∧ m_rc A x p ∧ m_rc A d y) := by
  refine h.closed (b := fun y => m_rc A x y ∨ ((∃ q, u = some q) ∧ m_rc A x p ∧ m_rc A d y)) (Or.inl (m_rc.refl A x)) ?_
  rintro z w ⟨hz, hw, e⟩ hb
  have old : m_E A z w → (m_rc A x w ∨ ((∃ q, u = some q) ∧ m_rc A x p ∧ m_rc A d w)) := fun e =>
    hb.elim (fun h1 => Or.inl (h1.step e)) (fun h1 => Or.inr ⟨h1.1, h1.2.1, h1.2.2.step e⟩)
  rcases e with e | e
  · have e' : va_up (m_un A) d u w = some z := e
    by_cases ed : w = d
    · rw [ed, va_up_self] at e'
      have ez := hu z e'
      subst ez
      rw [ed]
      rcases hb with h1 | h1
      · exact Or.inr ⟨⟨z, e'⟩, h1, m_rc.refl A d⟩
      · exact Or.inr ⟨⟨z, e'⟩, h1.2.1, m_rc.refl A d⟩
    · rw [va_up_ne _ _ ed] at e'
      exact old ⟨hz, hw, Or.inl e'⟩
  · exact old ⟨hz, hw, Or.inr e⟩
/-- moving to the top is never bad -/
theorem m_mov_top {A : mS} (hI : m_Inv A) {d k r : Nat} (hk : k < m_nD A) (hr : m_rp A k = some r) : ¬ m_rc (m_mov A d none) r k := by
  intro h
  rcases m_mov_way (p := 0) (u := none) (fun q e => by cases e) h with h | h
  · exact m_acyc hI h ⟨hk, (hI.2.2.2.2.2.1 k hk r hr).1, Or.inr hr⟩
  · obtain ⟨⟨q, e⟩, -⟩ := h
    cases e
/-- moving under p is bad just where one comes from d to p -/
theorem m_mov_bad {A : mS} (hI : m_Inv A) {d p : Nat} (hd : d < m_nD A) (hp : p < m_nD A) (hU : m_isU A p d = false) : (∃ k r, k < m_nD A ∧ m_rp A k = some r ∧ m_rc (m_mov A d (some p)) r k) ↔ m_rc A d p := by
  have hJ := hI.J
  constructor
  · rintro ⟨k, r, hk, hr, h⟩
    have er : m_E A k r := ⟨hk, (hI.2.2.2.2.2.1 k hk r hr).1, Or.inr hr⟩
    rcases m_mov_way (p := p) (u := some p) (fun q e => by cases e; rfl) h with h | ⟨-, h1, h2⟩
    · exact (m_acyc hI h er).elim
    · exact (h2.step er).trans h1
  · intro h
    have key : ∀ y, m_rc A d y → (y < m_nD A ∧ m_isU A y d = true) ∨ ∃ k r, k < m_nD A ∧ m_rp A k = some r ∧ m_rc (m_mov A d (some p)) d k ∧ m_rc (m_mov A d (some p)) r y := by
      intro y hy
      have hy2 : m_rc A d y ∧ ((y < m_nD A ∧ m_isU A y d = true) ∨ ∃ k r, k < m_nD A ∧ m_rp A k = some r ∧ m_rc (m_mov A d (some p)) d k ∧ m_rc (m_mov A d (some p)) r y) := by
        refine hy.closed (b := fun y => m_rc A d y ∧ ((y < m_nD A ∧ m_isU A y d = true) ∨ ∃ k r, k < m_nD A ∧ m_rp A k = some r ∧ m_rc (m_mov A d (some p)) d k ∧ m_rc (m_mov A d (some p)) r y)) ⟨m_rc.refl A d, Or.inl ⟨hd, m_isU_self hJ hd⟩⟩ ?_
        rintro z w ez ⟨hdz, hb⟩
        have hwd : w ≠ d := fun e => m_acyc hI hdz (e ▸ ez)
        obtain ⟨hz, hw, e⟩ := ez
        refine ⟨hdz.step ⟨hz, hw, e⟩, ?_⟩
        rcases e with e | e
        · rcases hb with ⟨h1, h2⟩ | ⟨k, r, h1, h2, h3, h4⟩
          · exact Or.inl ⟨hw, by rw [m_isU_some hJ d hw e, h2, Bool.or_true]⟩
          · refine Or.inr ⟨k, r, h1, h2, h3, h4.step ⟨hz, hw, Or.inl ?_⟩⟩
            show va_up (m_un A) d (some p) w = some z
            rw [va_up_ne _ _ hwd]
            exact e
        · rcases hb with ⟨h1, h2⟩ | ⟨k, r, h1, h2, h3, h4⟩
          · exact Or.inr ⟨z, w, hz, e, m_isU_mov hJ (some p) _ z hz rfl h2, m_rc.refl _ w⟩
          · exact Or.inr ⟨k, r, h1, h2, h3, h4.step ⟨hz, hw, Or.inr e⟩⟩
      exact hy2.2
    rcases key p h with ⟨-, h1⟩ | ⟨k, r, h1, h2, h3, h4⟩
    · rw [hU] at h1; cases h1
    · refine ⟨k, r, h1, h2, (h4.step ⟨hp, hd, Or.inl ?_⟩).trans h3⟩
      show va_up (m_un A) d (some p) d = some p
      rw [va_up_self]
/-- moved, it is a forest still -/
theorem m_mov_J {A : mS} (hI : m_Inv A) {d : Nat} {u : Option Nat} (hd : d < m_nD A) (hu : ∀ p, u = some p → p < m_nD A ∧ m_isU A p d = false) : m_J (m_mov A d u) := by
  have hJ := hI.J
  obtain ⟨rk, hr⟩ := hJ.2.1
  obtain ⟨rk', h1, h2⟩ := m_cmp (m_nD A) (fun x => if m_isU A x d = true then rk x else rk x + m_nD A)
  refine ⟨hJ.1, ⟨rk', fun x hx => ⟨h1 x hx, fun q hq => ?_⟩⟩, hJ.2.2⟩
  have hq' : va_up (m_un A) d u x = some q := hq
  have hx' : x < m_nD A := hx
  by_cases e : x = d
  · subst e
    rw [va_up_self] at hq'
    obtain ⟨a1, a2⟩ := hu q hq'
    refine ⟨a1, h2 q x a1 hx' ?_⟩
    show (if m_isU A x x = true then rk x else rk x + m_nD A) < (if m_isU A q x = true then rk q else rk q + m_nD A)
    rw [if_pos (m_isU_self hJ hx'), if_neg (by rw [a2]; decide)]
    have := (hr x hx').1
    omega
  · rw [va_up_ne _ _ e] at hq'
    have hql := hJ.un hx' hq'
    refine ⟨hql, h2 q x hql hx' ?_⟩
    show (if m_isU A x d = true then rk x else rk x + m_nD A) < (if m_isU A q d = true then rk q else rk q + m_nD A)
    have h3 : m_isU A x d = m_isU A q d := by rw [m_isU_some hJ d hx' hq', decide_eq_false e, Bool.false_or]
    have h4 := ((hr x hx').2 q hq').2
    rw [h3]
    by_cases e2 : m_isU A q d = true
    · rw [if_pos e2, if_pos e2]; exact h4
    · rw [if_neg e2, if_neg e2]; omega
noncomputable def sp_repeat (A : mS) (d o : Int32) : Int32 × mS :=
  if (0 ≤ d ∧ d ≤ nI (m_nD A) - 1) ∧ (0 ≤ o ∧ o ≤ nI (m_nD A) - 1) then
    (if (m_lk A d.toNatClampNeg).length = 0 ∧ m_kidn A (m_nD A) d.toNatClampNeg = 0 ∧ m_rp A d.toNatClampNeg = none ∧ m_mp A d.toNatClampNeg = m_mp A o.toNatClampNeg ∧ sp_rc A o.toNatClampNeg d.toNatClampNeg = false then (1, m_rep A d.toNatClampNeg o.toNatClampNeg) else (-3, A))
  else (-1, A)
noncomputable def sp_mbad (A : mS) (d : Nat) (u : Option Nat) : Bool := match u with
  | none => false
  | some p => decide (m_mp A p ≠ m_mp A d) || (decide (m_rp A p ≠ none) || sp_rc A d p)
noncomputable def sp_move (A : mS) (d u : Int32) : Int32 × mS :=
  if (0 ≤ d ∧ d ≤ nI (m_nD A) - 1) ∧ (u = -1 ∨ (0 ≤ u ∧ u ≤ nI (m_nD A) - 1)) then
    (if sp_mbad A d.toNatClampNeg (sp_opt u) = true then (-3, A) else (1, m_mov A d.toNatClampNeg (sp_opt u)))
  else (-1, A)
