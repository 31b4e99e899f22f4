/-! THOSE UNDER ONE, in their order -/
def m_isK (A : mS) (c : Nat ⊕ Nat) (k : Nat) : Bool := match c with
  | .inl p => decide (m_un A k = some p)
  | .inr m => decide (m_un A k = none) && decide (m_mp A k = m)
def m_ins (od : Nat → Nat) (k : Nat) : List Nat → List Nat
  | [] => [k]
  | x :: l => if od x ≤ od k then x :: m_ins od k l else k :: x :: l
def m_kf (A : mS) (c : Nat ⊕ Nat) : Nat → List Nat
  | 0 => []
  | n + 1 => if m_isK A c n = true then m_ins (m_od A) n (m_kf A c n) else m_kf A c n
def m_kids (A : mS) (c : Nat ⊕ Nat) : List Nat := m_kf A c (m_nD A)
theorem m_ins_mem (od : Nat → Nat) (k : Nat) : ∀ (l : List Nat) (x : Nat), x ∈ m_ins od k l ↔ x = k ∨ x ∈ l
  | [], x => by simp [m_ins]
  | y :: l, x => by
    rw [m_ins]
    by_cases h : od y ≤ od k
    · rw [if_pos h, List.mem_cons, m_ins_mem od k l x, List.mem_cons]
      constructor
      · rintro (h | h | h)
        · exact Or.inr (Or.inl h)
        · exact Or.inl h
        · exact Or.inr (Or.inr h)
      · rintro (h | h | h)
        · exact Or.inr (Or.inl h)
        · exact Or.inl h
        · exact Or.inr (Or.inr h)
    · rw [if_neg h, List.mem_cons]
theorem m_ins_len (od : Nat → Nat) (k : Nat) : ∀ (l : List Nat), (m_ins od k l).length = l.length + 1
  | [] => rfl
  | y :: l => by
    rw [m_ins]
    by_cases h : od y ≤ od k
    · rw [if_pos h, List.length_cons, m_ins_len od k l, List.length_cons]
    · rw [if_neg h, List.length_cons]
/-- where k comes: behind those that it is not before -/
theorem m_ins_at (od : Nat → Nat) (k : Nat) : ∀ (l1 l2 : List Nat), (∀ x ∈ l1, od x ≤ od k) → (∀ x l, l2 = x :: l → ¬ od x ≤ od k) → m_ins od k (l1 ++ l2) = l1 ++ k :: l2
  | [], l2, _, h2 => by
    cases l2 with
    | nil => rfl
    | cons x l =>
      show m_ins od k (x :: l) = k :: x :: l
      rw [m_ins, if_neg (h2 x l rfl)]
  | y :: l1, l2, h1, h2 => by
    show m_ins od k (y :: (l1 ++ l2)) = y :: (l1 ++ k :: l2)
    rw [m_ins, if_pos (h1 y List.mem_cons_self), m_ins_at od k l1 l2 (fun x hx => h1 x (List.mem_cons_of_mem _ hx)) h2]
theorem m_kf_mem (A : mS) (c : Nat ⊕ Nat) : ∀ (n x : Nat), x ∈ m_kf A c n ↔ x < n ∧ m_isK A c x = true
  | 0, x => by simp [m_kf]
  | n + 1, x => by
    rw [m_kf]
    by_cases h : m_isK A c n = true
    · rw [if_pos h, m_ins_mem, m_kf_mem A c n x]
      constructor
      · rintro (rfl | ⟨h1, h2⟩)
        · exact ⟨by omega, h⟩
        · exact ⟨by omega, h2⟩
      · rintro ⟨h1, h2⟩
        by_cases e : x = n
        · exact Or.inl e
        · exact Or.inr ⟨by omega, h2⟩
    · rw [if_neg h, m_kf_mem A c n x]
      constructor
      · rintro ⟨h1, h2⟩
        exact ⟨by omega, h2⟩
      · rintro ⟨h1, h2⟩
        refine ⟨?_, h2⟩
        by_cases e : x = n
        · rw [e] at h2; exact absurd h2 h
        · omega
theorem m_kids_mem {A : mS} {c : Nat ⊕ Nat} {x : Nat} : x ∈ m_kids A c ↔ x < m_nD A ∧ m_isK A c x = true := m_kf_mem A c _ x
theorem m_kf_len (A : mS) (c : Nat ⊕ Nat) : ∀ n, (m_kf A c n).length ≤ n
  | 0 => Nat.le_refl _
  | n + 1 => by
    rw [m_kf]
    have := m_kf_len A c n
    by_cases h : m_isK A c n = true
    · rw [if_pos h, m_ins_len]; omega
    · rw [if_neg h]; omega
/-- by their orders, then by their numbers -/
def m_lt (od : Nat → Nat) (x y : Nat) : Prop := od x < od y ∨ (od x = od y ∧ x < y)
theorem m_ins_sorted (od : Nat → Nat) (k : Nat) : ∀ (l : List Nat), l.Pairwise (m_lt od) → (∀ x ∈ l, x < k) → (m_ins od k l).Pairwise (m_lt od)
  | [], _, _ => List.pairwise_singleton _ _
  | y :: l, h, hk => by
    rw [m_ins]
    rw [List.pairwise_cons] at h
    by_cases e : od y ≤ od k
    · rw [if_pos e, List.pairwise_cons]
      refine ⟨fun x hx => ?_, m_ins_sorted od k l h.2 (fun x hx => hk x (List.mem_cons_of_mem _ hx))⟩
      rcases (m_ins_mem od k l x).mp hx with rfl | hx
      · have := hk y List.mem_cons_self
        unfold m_lt
        omega
      · exact h.1 x hx
    · rw [if_neg e, List.pairwise_cons, List.pairwise_cons]
      refine ⟨fun x hx => ?_, h⟩
      rcases List.mem_cons.mp hx with rfl | hx
      · unfold m_lt; omega
      · have := h.1 x hx
        unfold m_lt at this ⊢
        omega
theorem m_kf_sorted (A : mS) (c : Nat ⊕ Nat) : ∀ n, (m_kf A c n).Pairwise (m_lt (m_od A))
  | 0 => List.Pairwise.nil
  | n + 1 => by
    rw [m_kf]
    by_cases h : m_isK A c n = true
    · rw [if_pos h]
      exact m_ins_sorted _ _ _ (m_kf_sorted A c n) (fun x hx => ((m_kf_mem A c n x).mp hx).1)
    · rw [if_neg h]
      exact m_kf_sorted A c n
theorem m_kids_sorted (A : mS) (c : Nat ⊕ Nat) : (m_kids A c).Pairwise (m_lt (m_od A)) := m_kf_sorted A c _
theorem m_kids_nodup (A : mS) (c : Nat ⊕ Nat) : (m_kids A c).Nodup := by
  refine (m_kids_sorted A c).imp ?_
  intro a b h e
  subst e
  unfold m_lt at h
  omega
/-- the list that one such order gives is the only one -/
theorem m_lt_only {od : Nat → Nat} : ∀ (l1 l2 : List Nat), l1.Pairwise (m_lt od) → l2.Pairwise (m_lt od) → (∀ x, x ∈ l1 ↔ x ∈ l2) → l1 = l2
  | [], [], _, _, _ => rfl
  | [], y :: l2, _, _, h => by
    have := (h y).mpr List.mem_cons_self
    cases this
  | x :: l1, [], _, _, h => by
    have := (h x).mp List.mem_cons_self
    cases this
  | x :: l1, y :: l2, h1, h2, h => by
    rw [List.pairwise_cons] at h1 h2
    have hxy : x = y := by
      rcases List.mem_cons.mp ((h x).mp List.mem_cons_self) with e | e
      · exact e
      · rcases List.mem_cons.mp ((h y).mpr List.mem_cons_self) with e2 | e2
        · exact e2.symm
        · have a1 := h2.1 x e
          have a2 := h1.1 y e2
          unfold m_lt at a1 a2
          omega
    subst hxy
    have hn1 : x ∉ l1 := fun z => by have := h1.1 x z; unfold m_lt at this; omega
    have hn2 : x ∉ l2 := fun z => by have := h2.1 x z; unfold m_lt at this; omega
    congr 1
    refine m_lt_only l1 l2 h1.2 h2.2 (fun z => ⟨fun hz => ?_, fun hz => ?_⟩)
    · rcases List.mem_cons.mp ((h z).mp (List.mem_cons_of_mem _ hz)) with e | e
      · rw [e] at hz; exact absurd hz hn1
      · exact e
    · rcases List.mem_cons.mp ((h z).mpr (List.mem_cons_of_mem _ hz)) with e | e
      · rw [e] at hz; exact absurd hz hn2
      · exact e
