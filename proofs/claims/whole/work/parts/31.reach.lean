/-! WHAT ONE COMES TO: by going to what is under it and to what it repeats -/
def m_E (A : mS) (x y : Nat) : Prop := x < m_nD A ∧ y < m_nD A ∧ (m_un A y = some x ∨ m_rp A x = some y)
def m_pt (A : mS) : Nat → Nat → Nat → Prop
  | 0, x, y => x = y
  | n + 1, x, y => ∃ z, m_pt A n x z ∧ m_E A z y
def m_rc (A : mS) (x y : Nat) : Prop := ∃ n, m_pt A n x y
theorem m_rc.refl (A : mS) (x : Nat) : m_rc A x x := ⟨0, rfl⟩
theorem m_rc.step {A : mS} {x y z : Nat} (h : m_rc A x y) (e : m_E A y z) : m_rc A x z := by
  obtain ⟨n, hn⟩ := h
  exact ⟨n + 1, y, hn, e⟩
theorem m_rc.trans {A : mS} {x y z : Nat} (h : m_rc A x y) (h2 : m_rc A y z) : m_rc A x z := by
  obtain ⟨n, hn⟩ := h2
  induction n generalizing z with
  | zero => rw [← (show y = z from hn)]; exact h
  | succ n ih =>
    obtain ⟨w, h1, h2⟩ := hn
    exact (ih h1).step h2
/-- what is closed holds all that is come to -/
theorem m_rc.closed {A : mS} {x y : Nat} (h : m_rc A x y) {b : Nat → Prop} (h0 : b x) (hc : ∀ u v, m_E A u v → b u → b v) : b y := by
  obtain ⟨n, hn⟩ := h
  induction n generalizing y with
  | zero => rw [← (show x = y from hn)]; exact h0
  | succ n ih =>
    obtain ⟨w, h1, h2⟩ := hn
    exact hc w y h2 (ih h1)
def bI (b : Bool) : Int32 := if b = true then 1 else 0
theorem bI_01 (b : Bool) : bI b = 0 ∨ bI b = 1 := by cases b <;> decide
theorem bI_0 {b : Bool} : bI b = 0 ↔ b = false := by cases b <;> decide
theorem bI_and (b : Bool) : bI b &&& 1 = bI b := by cases b <;> decide
def m_any (p : Nat → Bool) : Nat → Nat → Bool
  | _, 0 => false
  | j, n + 1 => p j || m_any p (j + 1) n
theorem m_any_iff (p : Nat → Bool) : ∀ (n j : Nat), m_any p j n = true ↔ ∃ t, j ≤ t ∧ t < j + n ∧ p t = true
  | 0, j => ⟨fun h => (by cases h), fun ⟨t, h1, h2, _⟩ => (by omega)⟩
  | n + 1, j => by
    rw [m_any, Bool.or_eq_true, m_any_iff p n (j + 1)]
    constructor
    · rintro (h | ⟨t, h1, h2, h3⟩)
      · exact ⟨j, Nat.le_refl _, by omega, h⟩
      · exact ⟨t, by omega, by omega, h3⟩
    · rintro ⟨t, h1, h2, h3⟩
      by_cases e : t = j
      · subst e; exact Or.inl h3
      · exact Or.inr ⟨t, by omega, by omega, h3⟩
/-- is k to be seen, by what is seen -/
def m_isa (A : mS) (b : Nat → Bool) (k : Nat) : Bool := match m_un A k with
  | none => false
  | some p => b p
def m_isr (A : mS) (b : Nat → Bool) (k j : Nat) : Bool := b j && decide (m_rp A j = some k)
def m_isf (A : mS) (b : Nat → Bool) (k : Nat) : Bool := m_isa A b k || m_any (m_isr A b k) 0 (m_nD A)
def m_pass (A : mS) : Nat → Nat → (Nat → Bool) → Bool → (Nat → Bool) × Bool
  | 0, _, b, m => (b, m)
  | n + 1, k, b, m => m_pass A n (k + 1) (va_up b k (b k || m_isf A b k)) (m || (m_isf A b k && !b k))
theorem m_pass_up {A : mS} : ∀ (n k : Nat) (b : Nat → Bool) (m : Bool), (∀ t, b t = true → (m_pass A n k b m).1 t = true) ∧ (m = true → (m_pass A n k b m).2 = true)
  | 0, k, b, m => ⟨fun _ h => h, fun h => h⟩
  | n + 1, k, b, m => by
    obtain ⟨i1, i2⟩ := m_pass_up n (k + 1) (va_up b k (b k || m_isf A b k)) (m || (m_isf A b k && !b k))
    refine ⟨fun t ht => i1 t ?_, fun h => i2 (by rw [h, Bool.true_or])⟩
    by_cases e : t = k
    · rw [e, va_up_self, ← e, ht, Bool.true_or]
    · rw [va_up_ne _ _ e]; exact ht
theorem m_pass_no {A : mS} : ∀ (n k : Nat) (b : Nat → Bool) (m : Bool), (m_pass A n k b m).2 = false → (m_pass A n k b m).1 = b ∧ ∀ t, k ≤ t → t < k + n → m_isf A b t = true → b t = true
  | 0, k, b, m, h => ⟨rfl, fun t h1 h2 => by omega⟩
  | n + 1, k, b, m, h => by
    rw [m_pass] at h ⊢
    have hm : (m || (m_isf A b k && !b k)) = false := by
      cases hq : (m || (m_isf A b k && !b k)) with
      | false => rfl
      | true => rw [(m_pass_up n (k + 1) _ _).2 hq] at h; cases h
    have hk : m_isf A b k = true → b k = true := by
      intro z
      cases hb : b k with
      | true => rfl
      | false => rw [z, hb] at hm; simp at hm
    have hb : va_up b k (b k || m_isf A b k) = b := by
      funext t
      by_cases e : t = k
      · rw [e, va_up_self]
        cases hf : m_isf A b k with
        | false => rw [Bool.or_false]
        | true => rw [Bool.or_true]; exact (hk hf).symm
      · rw [va_up_ne _ _ e]
    rw [hb] at h ⊢
    obtain ⟨i1, i2⟩ := m_pass_no n (k + 1) b _ h
    refine ⟨i1, fun t h1 h2 h3 => ?_⟩
    by_cases e : t = k
    · subst e; exact hk h3
    · exact i2 t (by omega) (by omega) h3
theorem m_pass_yes {A : mS} : ∀ (n k : Nat) (b : Nat → Bool), (m_pass A n k b false).2 = true → ∃ t, k ≤ t ∧ t < k + n ∧ b t = false ∧ (m_pass A n k b false).1 t = true
  | 0, k, b, h => by cases h
  | n + 1, k, b, h => by
    rw [m_pass] at h ⊢
    cases hq : (m_isf A b k && !b k) with
    | true =>
      rw [Bool.and_eq_true, Bool.not_eq_true'] at hq
      refine ⟨k, Nat.le_refl _, by omega, hq.2, (m_pass_up n (k + 1) _ _).1 k ?_⟩
      rw [va_up_self, hq.1, Bool.or_true]
    | false =>
      rw [hq, Bool.or_false] at h
      rw [Bool.or_false]
      obtain ⟨t, h1, h2, h3, h4⟩ := m_pass_yes n (k + 1) _ h
      rw [va_up_ne _ _ (by omega)] at h3
      exact ⟨t, by omega, by omega, h3, h4⟩
theorem m_isf_rc {A : mS} {b : Nat → Bool} {x k : Nat} (hI : m_J A) (hk : k < m_nD A) (hb : ∀ t, t < m_nD A → b t = true → m_rc A x t) (h : m_isf A b k = true) : m_rc A x k := by
  unfold m_isf at h
  rw [Bool.or_eq_true] at h
  rcases h with h | h
  · unfold m_isa at h
    cases hu : m_un A k with
    | none => rw [hu] at h; cases h
    | some p =>
      rw [hu] at h
      have hp := hI.un hk hu
      exact (hb p hp h).step ⟨hp, hk, Or.inl hu⟩
  · obtain ⟨t, -, h2, h3⟩ := (m_any_iff _ _ _).mp h
    unfold m_isr at h3
    rw [Bool.and_eq_true, decide_eq_true_eq] at h3
    have ht : t < m_nD A := by omega
    exact (hb t ht h3.1).step ⟨ht, hk, Or.inr h3.2⟩
theorem m_pass_rc {A : mS} {x : Nat} (hI : m_J A) : ∀ (n k : Nat) (b : Nat → Bool) (m : Bool), k + n ≤ m_nD A → (∀ t, t < m_nD A → b t = true → m_rc A x t) → ∀ t, t < m_nD A → (m_pass A n k b m).1 t = true → m_rc A x t
  | 0, k, b, m, _, hb => hb
  | n + 1, k, b, m, hk, hb => by
    rw [m_pass]
    refine m_pass_rc hI n (k + 1) _ _ (by omega) (fun t ht h => ?_)
    by_cases e : t = k
    · subst e
      rw [va_up_self, Bool.or_eq_true] at h
      rcases h with h | h
      · exact hb t ht h
      · exact m_isf_rc hI ht hb h
    · rw [va_up_ne _ _ e] at h
      exact hb t ht h
/-- all that is seen, and no more -/
theorem m_closed_rc {A : mS} {b : Nat → Bool} {x : Nat} (hI : m_J A) (h0 : b x = true) (hc : ∀ t, t < m_nD A → m_isf A b t = true → b t = true) {y : Nat} (h : m_rc A x y) : b y = true := by
  refine h.closed (b := fun z => b z = true) h0 ?_
  rintro u v ⟨hu, hv, e⟩ hb
  refine hc v hv ?_
  unfold m_isf
  rw [Bool.or_eq_true]
  rcases e with e | e
  · left
    unfold m_isa
    rw [e]
    exact hb
  · right
    refine (m_any_iff _ _ _).mpr ⟨u, Nat.zero_le _, by omega, ?_⟩
    unfold m_isr
    rw [hb, decide_eq_true e]
    rfl
/-- the seen ones in the reference's contents -/
def r_sn (A : mS) (W0 : rW) (b : Nat → Bool) (W : rW) : Prop := (∀ k, k ≠ 18 → W.1 k = W0.1 k) ∧ W.2 = W0.2 ∧ ∀ k, k < m_nD A → W.1 18 k = bI (b k)
theorem r_sn.set {A : mS} {W0 W : rW} {b : Nat → Bool} (h : r_sn A W0 b W) (k : Nat) (c : Bool) : r_sn A W0 (va_up b k c) (gset W 18 k (bI c)) := by
  refine ⟨fun j hj => by rw [gset_k _ _ _ hj]; exact h.1 j hj, h.2.1, fun j hj => ?_⟩
  rw [gset_e]
  by_cases e : j = k
  · rw [e, va_up_self, va_up_self]
  · rw [va_up_ne _ _ e, va_up_ne _ _ e]; exact h.2.2 j hj
theorem r_sn.RA {A : mS} {W0 W : rW} {b : Nat → Bool} (h : r_sn A W0 b W) (h0 : r_RA A W0) : r_RA A W := h0.cong (fun k hk => h.1 k (fun e => by subst e; revert hk; decide)) (fun k _ => by rw [h.2.1])
