/-! THE ORDER BY CHASING: what is still to come behind one -/
theorem c_pa_k {A : mS} {c : Nat ⊕ Nat} {x : Nat} (h : x ∈ m_kids A c) : c_pa A x = c ∧ x < m_nD A := by
  obtain ⟨h1, h2⟩ := m_kids_mem.mp h
  refine ⟨?_, h1⟩
  unfold c_pa
  cases c with
  | inl p =>
    have e : m_un A x = some p := of_decide_eq_true h2
    rw [e]
  | inr m =>
    have e : (decide (m_un A x = none) && decide (m_mp A x = m)) = true := h2
    rw [Bool.and_eq_true, decide_eq_true_eq, decide_eq_true_eq] at e
    rw [e.1]
    show Sum.inr (m_mp A x) = Sum.inr m
    rw [e.2]
theorem c_pa_in {A : mS} {x : Nat} (hx : x < m_nD A) : x ∈ m_kids A (c_pa A x) := by
  refine m_kids_mem.mpr ⟨hx, ?_⟩
  unfold c_pa
  cases h : m_un A x with
  | some p => exact decide_eq_true h
  | none =>
    show (decide (m_un A x = none) && decide (m_mp A x = m_mp A x)) = true
    rw [h]
    simp
theorem c_pa_ok {A : mS} (hI : m_Inv A) {x : Nat} (hx : x < m_nD A) : c_ok A (c_pa A x) := by
  unfold c_pa
  cases h : m_un A x with
  | some p => exact (hI.2.2.2.2.1 x hx p h).1
  | none => exact (hI.2.2.2.1 x hx).1
theorem c_pa_un {A : mS} {x p : Nat} (h : c_pa A x = .inl p) : m_un A x = some p := by
  unfold c_pa at h
  cases hu : m_un A x with
  | some q =>
    rw [hu] at h
    cases h
    rfl
  | none => rw [hu] at h; cases h
def c_stk (A : mS) (top : Nat ⊕ Nat) : Nat → Nat → List Nat → Prop
  | 0, _, _ => False
  | n + 1, x, st => ∃ l1 l2, m_kids A (c_pa A x) = l1 ++ x :: l2 ∧ ((c_pa A x = top ∧ st = l2) ∨ ∃ p st', c_pa A x = .inl p ∧ c_pa A x ≠ top ∧ st = l2 ++ st' ∧ c_stk A top n p st')
theorem c_stk_dep {A : mS} (hI : m_J A) {t : Nat} : ∀ (n x : Nat) (st : List Nat), x < m_nD A → c_stk A (.inl t) n x st → m_depth A t < m_depth A x
  | 0, _, _, _, h => h.elim
  | n + 1, x, st, hx, h => by
    obtain ⟨l1, l2, -, h | ⟨p, st', h1, -, -, h2⟩⟩ := h
    · rw [m_depth_some hI hx (c_pa_un h.1)]
      omega
    · have e := c_pa_un h1
      have := c_stk_dep hI n p st' (hI.un hx e) h2
      rw [m_depth_some hI hx e]
      omega
theorem c_stk_ne {A : mS} (hI : m_J A) {top : Nat ⊕ Nat} {n x : Nat} {st : List Nat} (hx : x < m_nD A) (h : c_stk A top n x st) : (.inl x : Nat ⊕ Nat) ≠ top := by
  intro e
  subst e
  have := c_stk_dep hI n x st hx h
  omega
theorem c_stk_up {A : mS} (hI : m_J A) {top : Nat ⊕ Nat} : ∀ (n x y : Nat) (st : List Nat), x < m_nD A → n = m_depth A x + 1 → c_stk A top n x (y :: st) → y < m_nD A ∧ c_stk A top (m_depth A y + 1) y st
  | 0, _, _, _, _, _, h => h.elim
  | n + 1, x, y, st, hx, hn, h => by
    obtain ⟨l1, l2, hk, ⟨h1, h2⟩ | ⟨p, st', h1, h2, h3, h4⟩⟩ := h
    · subst h2
      have hy := c_pa_k (A := A) (c := c_pa A x) (x := y) (by rw [hk]; simp)
      refine ⟨hy.2, l1 ++ [x], st, ?_, Or.inl ⟨by rw [hy.1, h1], rfl⟩⟩
      rw [hy.1, hk, List.append_assoc]
      rfl
    · have e := c_pa_un h1
      have hp := hI.un hx e
      rw [m_depth_some hI hx e] at hn
      cases l2 with
      | nil =>
        rw [List.nil_append] at h3
        rw [← h3] at h4
        exact c_stk_up hI n p y st hp (by omega) h4
      | cons z l2 =>
        have h3' : y :: st = z :: (l2 ++ st') := h3
        obtain ⟨rfl, rfl⟩ := List.cons.inj h3'
        have hy := c_pa_k (A := A) (c := c_pa A x) (x := y) (by rw [hk]; simp)
        refine ⟨hy.2, l1 ++ [x], l2, ?_, Or.inr ⟨p, st', by rw [hy.1, h1], by rw [hy.1]; exact h2, rfl, ?_⟩⟩
        · rw [hy.1, hk, List.append_assoc]
          rfl
        · rw [m_depth_some hI hy.2 (c_pa_un (hy.1.trans h1))]
          rw [show n = m_depth A p + 1 by omega] at h4
          exact h4
/-- a pile, as the chase has it -/
def c_cur (A : mS) (top : Nat ⊕ Nat) (st : List Nat) : Prop := ∀ x st', st = x :: st' → x < m_nD A ∧ c_stk A top (m_depth A x + 1) x st'
theorem c_cur_0 {A : mS} (top : Nat ⊕ Nat) : c_cur A top (m_kids A top) := by
  intro x st e
  have hy := c_pa_k (A := A) (c := top) (x := x) (by rw [e]; exact List.mem_cons_self)
  exact ⟨hy.2, [], st, by rw [hy.1, e]; rfl, Or.inl ⟨hy.1, rfl⟩⟩
theorem c_cur_s {A : mS} (hI : m_J A) {top : Nat ⊕ Nat} {x : Nat} {st : List Nat} (hx : x < m_nD A) (h : c_stk A top (m_depth A x + 1) x st) : c_cur A top (m_kids A (.inl x) ++ st) := by
  intro y st' e
  cases hk : m_kids A (.inl x) with
  | nil =>
    rw [hk, List.nil_append] at e
    rw [e] at h
    exact c_stk_up hI _ x y st' hx rfl h
  | cons k ks =>
    rw [hk] at e
    obtain ⟨rfl, rfl⟩ := List.cons.inj e
    have hy := c_pa_k (A := A) (c := .inl x) (x := k) (by rw [hk]; exact List.mem_cons_self)
    refine ⟨hy.2, [], ks, by rw [hy.1, hk]; rfl, Or.inr ⟨x, st, hy.1, by rw [hy.1]; exact c_stk_ne hI hx h, rfl, ?_⟩⟩
    rw [m_depth_some hI hy.2 (c_pa_un hy.1)]
    exact h
theorem c_ix_ne {A : mS} (hI : m_J A) {x : Nat} {c : Nat ⊕ Nat} (hx : x < m_nD A) (h : (.inl x : Nat ⊕ Nat) ≠ c) : x ≠ c_ix c := by
  have := hI.1
  cases c with
  | inl d => exact fun e => h (by rw [e]; rfl)
  | inr m => show x ≠ 1000 + m; omega
theorem hd_none {α : Type} {l : List α} (h : l.head? = none) : l = [] := by
  cases l with
  | nil => rfl
  | cons a l => cases h
section CN
variable {ext : av_X} {X : cX} {T : cT} {A : mS}
theorem c_next (hI : m_Inv A) (hX : c_X A X) (h : c_G A T) {top : Nat ⊕ Nat} (ht : c_ok A top) {x : Nat} (hx : x < m_nD A) {st : List Nat} (hs : c_stk A top (m_depth A x + 1) x st) : cCr ext X 8 0 55 [cv X 8 (some x), cv X 8 (some (c_ix top))] T (fun o T' => T' = T ∧ o = (m_kids A (.inl x) ++ st).head?) := by
  have hJ := hI.J
  have hD := hI.2.2.1
  refine cCr.of (L := [some (cv X 8 (some x)), some (cv X 8 (some (c_ix top))), none, none]) (by rw [ml55]; rfl) ?_
  have hk := h.2.2.2.2.1 (.inl x) hx
  have hk7 : T.2 8 x 7 = (m_kids A (.inl x)).head? := hk.1
  have climb : ∀ (n k y : Nat) (st : List Nat) (r0 : Option Nat), y < m_nD A → k + n ≤ 120 → c_stk A top n y st → cA ext X 0 55 16 [some (cv X 8 r0), some (cv X 8 (some (c_ix top))), some (cv X 8 (some y)), some (.int (nI k))] [] T (cQr X 8 (fun o T' => T' = T ∧ o = st.head?)) := by
    intro n
    induction n with
    | zero => intro k y st r0 hy hk hs; exact hs.elim
    | succ n ih =>
      intro k y st r0 hy hkn hs
      have hne := c_ix_ne hJ hy (c_stk_ne hJ hy hs)
      have h8 := (h.2.2.2.2.1 (c_pa A y) (c_pa_ok hI hy)).2
      have h6 := (h.2.2.2.1 y hy).2.2.2.2.2.2.1
      obtain ⟨l1, l2, hkk, hcase⟩ := hs
      have h8y : T.2 8 y 8 = l2.head? := h8 l1 y l2 hkk
      refine bc55_16 (fun q => absurd q ?_) (fun _ => bc55_22 (fun q => by cases q) (fun _ _ => bc55_26 (fun j hj => by cases hj; exact hX.d hy) (fun j hj => by cases hj; exact hX.c ht) (fun q => absurd (Option.some.inj q) hne) (fun _ => bc55_31 (hX.d hy) (fun q => ?_) (fun z q => ?_))))
      · show ¬ nI 120 < nI k
        rw [nI_ltI (by decide) (by omega)]
        omega
      · have e2 : l2 = [] := hd_none (by rw [← h8y]; exact q)
        subst e2
        refine bc55_43 (hX.d hy) ?_
        rw [h6, nI_1]
        rcases hcase with ⟨h1, h2⟩ | ⟨p, st', h1, h2, h3, h4⟩
        · rw [h1, h2]
          refine bc55_16 (fun _ => bc55_54 (cQr.e ⟨rfl, rfl⟩)) (fun _ => bc55_22 (fun q => by cases q) (fun _ _ => bc55_26 (fun j hj => by cases hj; exact hX.c ht) (fun j hj => by cases hj; exact hX.c ht) (fun _ => bc55_54 (cQr.e ⟨rfl, rfl⟩)) (fun q => absurd rfl q)))
        · rw [h1, h3, List.nil_append]
          exact ih (k + 1) p st' r0 (hJ.un hy (c_pa_un h1)) (by omega) h4
      · refine bc55_38 (hX.d hy) (cQr.e ⟨rfl, ?_⟩)
        rw [h8y]
        rw [h8y] at q
        cases l2 with
        | nil => cases q
        | cons w l2 =>
          rcases hcase with ⟨h1, h2⟩ | ⟨p, st', h1, h2, h3, h4⟩
          · rw [h2]
          · rw [h3]; rfl
  refine bc55_0 (hX.d hx) (fun q => ?_) (fun z q => ?_)
  · have e : m_kids A (.inl x) = [] := hd_none (by rw [← hk7]; exact q)
    rw [e, List.nil_append]
    exact bc55_12 (climb (m_depth A x + 1) 0 x st _ hx (by have := m_depth_lt hJ hx; omega) hs)
  · refine bc55_7 (hX.d hx) (cQr.e ⟨rfl, ?_⟩)
    rw [hk7]
    rw [hk7] at q
    cases hkk : m_kids A (.inl x) with
    | nil => rw [hkk] at q; cases q
    | cons w l => rfl
theorem c_next0 (hX : c_X A X) (h : c_G A T) {top : Nat ⊕ Nat} (ht : c_ok A top) : cCr ext X 8 0 55 [cv X 8 (some (c_ix top)), cv X 8 (some (c_ix top))] T (fun o T' => T' = T ∧ o = (m_kids A top).head?) := by
  refine cCr.of (L := [some (cv X 8 (some (c_ix top))), some (cv X 8 (some (c_ix top))), none, none]) (by rw [ml55]; rfl) ?_
  have hk7 := (h.2.2.2.2.1 top ht).1
  have hl := hX.c ht
  refine bc55_0 hl (fun q => ?_) (fun z q => bc55_7 hl (cQr.e ⟨rfl, hk7⟩))
  refine bc55_12 (bc55_16 (fun q => absurd q (by decide)) (fun _ => bc55_22 (fun q => by cases q) (fun _ _ => bc55_26 (fun j hj => by cases hj; exact hl) (fun j hj => by cases hj; exact hl) (fun _ => bc55_54 (cQr.e ⟨rfl, ?_⟩)) (fun q => absurd rfl q))))
  rw [← hk7, q]
/-- how many it is under -/
theorem c_depth (hI : m_Inv A) (hX : c_X A X) (h : c_G A T) {x : Nat} (hx : x < m_nD A) : cCi ext X 0 58 [cv X 8 (some x)] T (fun v T' => T' = T ∧ v = nI (m_depth A x)) := by
  have hJ := hI.J
  have hD := hI.2.2.1
  refine cCi.of (L := [some (cv X 8 (some x)), none, none, none]) (by rw [ml58]; rfl) ?_
  refine bc58_0 (hX.d hx) ?_
  rw [(h.2.2.2.1 x hx).2.2.2.2.2.2.1]
  have climb : ∀ (n k y : Nat), y < m_nD A → m_depth A y = n → k + n = m_depth A x → cA ext X 0 58 9 [some (cv X 8 (some x)), some (.int (nI k)), some (cv X 8 (some (c_ix (c_pa A y)))), some (.int (nI k))] [] T (cQi X (fun v T' => T' = T ∧ v = nI (m_depth A x))) := by
    intro n
    induction n with
    | zero =>
      intro k y hy hd hkn
      have hc := c_pa_ok hI hy
      have hlt := m_depth_lt hJ hx
      cases hu : m_un A y with
      | some p => rw [m_depth_some hJ hy hu] at hd; omega
      | none =>
        have hp : c_pa A y = .inr (m_mp A y) := by unfold c_pa; rw [hu]
        rw [hp] at hc ⊢
        have hm := h.2.2.1 (m_mp A y) hc
        have fin : cA ext X 0 58 41 [some (cv X 8 (some x)), some (.int (nI k)), some (cv X 8 (some (c_ix (.inr (m_mp A y))))), some (.int (nI k))] [] T (cQi X (fun v T' => T' = T ∧ v = nI (m_depth A x))) := bc58_41 (cQi.e ⟨rfl, by rw [← hkn]; rfl⟩)
        exact bc58_9 (fun _ => fin) (fun _ => bc58_15 (fun q => by cases q) (fun _ _ => bc58_19 (hX.c hc) (fun _ => fin) (fun q => absurd hm.2.2.2.1 q)))
    | succ n ih =>
      intro k y hy hd hkn
      have hlt := m_depth_lt hJ hx
      cases hu : m_un A y with
      | none => rw [m_depth_none hu] at hd; omega
      | some p =>
        have hp : c_pa A y = .inl p := by unfold c_pa; rw [hu]
        have hpl := hJ.un hy hu
        rw [m_depth_some hJ hy hu] at hd
        rw [hp]
        refine bc58_9 (fun q => absurd q (nI_ge (a := k) (b := 120) (by omega) (by decide))) (fun _ => bc58_15 (fun q => by cases q) (fun _ _ => bc58_19 (hX.d hpl) (fun q => absurd q ?_) (fun _ => bc58_27 (hX.d hpl) ?_)))
        · show ¬ T.1 8 p 0 = -1
          rw [(h.2.2.2.1 p hpl).2.1]
          intro q
          exact absurd (show nI p < 0 by rw [q]; decide) (nI_pos (by omega))
        · show cA ext X 0 58 9 [some (cv X 8 (some x)), some (.int (nI k + 1)), some (cv X 8 (T.2 8 p 6)), some (.int (nI k + 1))] [] T _
          rw [(h.2.2.2.1 p hpl).2.2.2.2.2.2.1, nI_1]
          exact ih (k + 1) p hpl (by omega) (by omega)
  exact climb (m_depth A x) 0 x hx rfl (by omega)
end CN
