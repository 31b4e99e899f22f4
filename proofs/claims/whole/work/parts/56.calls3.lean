/-! THE CLASS'S CALL: differ -/
def c_pt (A : mS) (m i : Nat) (st : List Nat) : Prop := (∃ vs n, vs.length = i ∧ c_at A m vs n st) ∨ (st = [] ∧ (m_order A m).length ≤ i)
theorem c_pt_get {A : mS} (hI : m_J A) {m i : Nat} {st : List Nat} (h : c_pt A m i st) : (m_order A m)[i]? = st.head? := by
  rcases h with ⟨vs, n, rfl, h⟩ | ⟨rfl, h⟩
  · cases st with
    | nil => rw [c_at_nil h, List.getElem?_eq_none (Nat.le_refl _)]; rfl
    | cons x st =>
      obtain ⟨n', rfl, -⟩ := c_at_s hI h
      rw [c_at_get h]
      rfl
  · rw [List.getElem?_eq_none h]
    rfl
theorem c_pt_0 (A : mS) (m : Nat) : c_pt A m 0 (m_kids A (.inr m)) := Or.inl ⟨[], _, rfl, c_at_0 A m⟩
theorem c_pt_nil {A : mS} {m i : Nat} (h : c_pt A m i []) : c_pt A m (i + 1) [] := by
  refine Or.inr ⟨rfl, ?_⟩
  rcases h with ⟨vs, n, rfl, h⟩ | ⟨-, h⟩
  · rw [c_at_nil h]; omega
  · omega
theorem c_pt_s {A : mS} (hI : m_J A) {m i x : Nat} {st : List Nat} (h : c_pt A m i (x :: st)) : x < m_nD A ∧ c_stk A (.inr m) (m_depth A x + 1) x st ∧ c_pt A m (i + 1) (m_kids A (.inl x) ++ st) := by
  rcases h with ⟨vs, n, rfl, h⟩ | ⟨h, -⟩
  · obtain ⟨n', rfl, h2⟩ := c_at_s hI h
    obtain ⟨a, b⟩ := h.2.2.2 x st rfl
    exact ⟨a, b, Or.inl ⟨_, n', by rw [List.length_append]; rfl, h2⟩⟩
  · cases h
def m_unl (A : mS) (o1 o2 : Option Nat) : Bool := match o1, o2 with
  | some x, some y => decide (m_lb A x ≠ m_lb A y) || decide (m_depth A x ≠ m_depth A y)
  | _, _ => true
theorem m_unl_ss (A : mS) (x y : Nat) : m_unl A (some x) (some y) = (decide (m_lb A x ≠ m_lb A y) || decide (m_depth A x ≠ m_depth A y)) := rfl
theorem m_dfp_unl (A : mS) (l1 l2 : List Nat) (i : Nat) : m_dfp A l1 l2 i = m_unl A l1[i]? l2[i]? := rfl
theorem m_dfn_le (A : mS) (l1 l2 : List Nat) : ∀ n, m_dfn A l1 l2 n ≤ n
  | 0 => Nat.le_refl _
  | n + 1 => by
    have := m_dfn_le A l1 l2 n
    unfold m_dfn
    split <;> omega
section CD
variable {ext : av_X} {X : cX} {T : cT} {A : mS}
theorem c_unlike (hI : m_Inv A) (hX : c_X A X) (h : c_G A T) {o1 o2 : Option Nat} (h1 : ∀ x, o1 = some x → x < m_nD A) (h2 : ∀ x, o2 = some x → x < m_nD A) : cCi ext X 1 22 [cv X 8 o1, cv X 8 o2] T (fun v T' => T' = T ∧ v = bI (m_unl A o1 o2)) := by
  have hD := hI.2.2.1
  refine cCi.of (L := [some (cv X 8 o1), some (cv X 8 o2)]) (by rw [ml22]; rfl) ?_
  cases o1 with
  | none => exact bc22_0 (fun _ => bc22_8 (cQi.e ⟨rfl, rfl⟩)) (fun _ q => by cases q)
  | some x =>
    refine bc22_0 (fun q => by cases q) (fun _ _ => ?_)
    cases o2 with
    | none => exact bc22_4 (fun _ => bc22_8 (cQi.e ⟨rfl, rfl⟩)) (fun _ q => by cases q)
    | some y =>
      have hx := h1 x rfl
      have hy := h2 y rfl
      have gx := h.2.2.2.1 x hx
      have gy := h.2.2.2.1 y hy
      have bx := (hI.2.2.2.1 x hx).2.2
      have bY := (hI.2.2.2.1 y hy).2.2
      have dx := m_depth_lt hI.J hx
      have dy := m_depth_lt hI.J hy
      refine bc22_4 (fun q => by cases q) (fun _ _ => bc22_10 (hX.d hx) (hX.d hy) (fun q => ?_) (fun q => ?_))
      · rw [gx.2.2.2.2.1, gy.2.2.2.2.1] at q
        refine bc22_32 (bc22_37 (Or.inr rfl) (cQi.e ⟨rfl, ?_⟩))
        rw [m_unl_ss, decide_eq_true (show m_lb A x ≠ m_lb A y from fun z => q (by rw [z]))]
        rfl
      · rw [gx.2.2.2.2.1, gy.2.2.2.2.1, nI_eq (by omega) (by omega)] at q
        refine bc22_21 (hX.d hx) (c_depth hI hX h hx) ?_
        rintro v T1 ⟨rfl, rfl⟩
        refine bc22_25 (hX.d hy) (c_depth hI hX h hy) ?_
        rintro v T2 ⟨rfl, rfl⟩
        refine bc22_29 (fun q2 => ?_) (fun q2 => ?_)
        · rw [nI_eq (by omega) (by omega)] at q2
          refine bc22_36 (bc22_37 (Or.inl rfl) (cQi.e ⟨rfl, ?_⟩))
          rw [m_unl_ss, decide_eq_false (show ¬ (m_lb A x ≠ m_lb A y) from fun z => z q), decide_eq_false (show ¬ (m_depth A x ≠ m_depth A y) from fun z => z q2)]
          rfl
        · refine bc22_32 (bc22_37 (Or.inr rfl) (cQi.e ⟨rfl, ?_⟩))
          rw [m_unl_ss, decide_eq_true (show m_depth A x ≠ m_depth A y from fun z => q2 (by rw [z])), Bool.or_true]
          rfl
theorem c_differ (hI : m_Inv A) (hX : c_X A X) (h : c_RA A T) (m o : Int32) : cCi ext X 2 21 [cv X 0 (some 0), .int m, .int o] T (fun v T' => v = sp_differ A m o ∧ c_RA A T') := by
  have hJ := hI.J
  have hM5 := hI.2.1.1
  have hD := hI.2.2.1
  have l0 := hX.z (s := 0) (by decide)
  refine cCi.of (L := [some (cv X 0 (some 0)), some (.int m), some (.int o), none, none, none, none, none, none]) (by rw [ml21]; rfl) ?_
  generalize hv : sp_differ A m o = w
  unfold sp_differ at hv
  refine bc21_0 l0 ((c_findTree hI hX h.1 m).mono (by decide)) ?_
  rintro r T1 ⟨rfl, rfl⟩
  refine bc21_5 l0 ((c_findTree hI hX h.1 o).mono (by decide)) ?_
  rintro r T2 ⟨rfl, rfl⟩
  by_cases hm : 0 ≤ m ∧ m ≤ nI (m_nM A) - 1
  case neg =>
    rw [if_neg (fun q => hm q.1)] at hv
    rw [if_neg hm]
    exact bc21_11 (fun _ => bc21_22 (cQi.e ⟨hv, h⟩)) (fun _ q => by cases q)
  by_cases ho : 0 ≤ o ∧ o ≤ nI (m_nM A) - 1
  case neg =>
    rw [if_neg (fun q => ho q.2)] at hv
    rw [if_pos hm, if_neg ho]
    exact bc21_11 (fun q => by cases q) (fun _ _ => bc21_17 (fun _ => bc21_22 (cQi.e ⟨hv, h⟩)) (fun _ q => by cases q))
  rw [if_pos ⟨hm, ho⟩] at hv
  rw [if_pos hm, if_pos ho]
  obtain ⟨m, hmi, rfl⟩ := (rI_rng (by omega)).mp hm
  obtain ⟨o, hoi, rfl⟩ := (rI_rng (by omega)).mp ho
  rw [nI_clamp (by omega), nI_clamp (by omega)] at hv
  rw [nI_clamp (by omega), nI_clamp (by omega)]
  have hr := (h.1.2.2.1 m hmi).2.2.1
  have hro := (h.1.2.2.1 o hoi).2.2.1
  have ol1 := (m_order_le A m).1
  have ol2 := (m_order_le A o).1
  refine bc21_11 (fun q => by cases q) (fun _ _ => bc21_17 (fun q => by cases q) (fun _ _ => ?_))
  refine bc21_24 (b_2 := 1000 + m) (hX.m hmi) hr (by rw [hr]; exact (c_next0 hX h.1 (top := .inr m) hmi).mono (by decide)) ?_
  rintro r T1 ⟨rfl, rfl⟩
  refine bc21_35 (b_2 := 1000 + o) (hX.m hoi) hro (by rw [hro]; exact (c_next0 hX h.1 (top := .inr o) hoi).mono (by decide)) ?_
  rintro r T1 ⟨rfl, rfl⟩
  refine bc21_50 ?_
  generalize hl1 : m_order A m = l1 at ol1
  generalize hl2 : m_order A o = l2 at ol2
  have hw : w = nI (m_dfn A l1 l2 (max l1.length l2.length)) := by rw [← hv]; unfold m_differ; rw [hl1, hl2]
  have loop : ∀ (n i : Nat) (st1 st2 : List Nat), i + n = max l1.length l2.length → c_pt A m i st1 → c_pt A o i st2 → cA ext X 2 21 58 [some (cv X 0 (some 0)), some (.int (nI m)), some (.int (nI o)), some (cv X 7 (some m)), some (cv X 7 (some o)), some (cv X 8 st1.head?), some (cv X 8 st2.head?), some (.int (nI (m_dfn A l1 l2 i))), some (.int (nI i))] [] T1 (cQi X (fun v T' => v = w ∧ c_RA A T')) := by
    intro n
    induction n with
    | zero =>
      intro i st1 st2 hn p1 p2
      have fin : cA ext X 2 21 135 [some (cv X 0 (some 0)), some (.int (nI m)), some (.int (nI o)), some (cv X 7 (some m)), some (cv X 7 (some o)), some (cv X 8 st1.head?), some (cv X 8 st2.head?), some (.int (nI (m_dfn A l1 l2 i))), some (.int (nI i))] [] T1 (cQi X (fun v T' => v = w ∧ c_RA A T')) := bc21_135 (cQi.e ⟨by rw [hw]; congr 2, h⟩)
      have e1 := c_pt_get hJ p1
      have e2 := c_pt_get hJ p2
      rw [hl1, List.getElem?_eq_none (by omega)] at e1
      rw [hl2, List.getElem?_eq_none (by omega)] at e2
      refine bc21_58 (fun _ => fin) (fun _ => bc21_65 (fun _ => bc21_70 (fun _ => fin) (fun _ q => ?_)) (fun _ q => ?_))
      · rw [← e2] at q; cases q
      · rw [← e1] at q; cases q
    | succ n ih =>
      intro i st1 st2 hn p1 p2
      have e1 := c_pt_get hJ p1
      have e2 := c_pt_get hJ p2
      rw [hl1] at e1
      rw [hl2] at e2
      have hle := m_dfn_le A l1 l2 i
      have hmax : i < 120 := by
        have : max l1.length l2.length ≤ m_nD A := Nat.max_le.mpr ⟨ol1, ol2⟩
        omega
      -- one place
      have body : cA ext X 2 21 75 [some (cv X 0 (some 0)), some (.int (nI m)), some (.int (nI o)), some (cv X 7 (some m)), some (cv X 7 (some o)), some (cv X 8 st1.head?), some (cv X 8 st2.head?), some (.int (nI (m_dfn A l1 l2 i))), some (.int (nI i))] [] T1 (cQi X (fun v T' => v = w ∧ c_RA A T')) := by
        have b1 : ∀ x, st1.head? = some x → x < m_nD A := fun x hx => by
          cases st1 with
          | nil => cases hx
          | cons y st => cases hx; exact (c_pt_s hJ p1).1
        have b2 : ∀ x, st2.head? = some x → x < m_nD A := fun x hx => by
          cases st2 with
          | nil => cases hx
          | cons y st => cases hx; exact (c_pt_s hJ p2).1
        refine bc21_75 (c_unlike hI hX h.1 b1 b2) ?_
        rintro v T2 ⟨rfl, rfl⟩
        have adv : ∀ (st1' st2' : List Nat), c_pt A m (i + 1) st1' → c_pt A o (i + 1) st2' → ∀ r5 : Option Nat, cA ext X 2 21 127 [some (cv X 0 (some 0)), some (.int (nI m)), some (.int (nI o)), some (cv X 7 (some m)), some (cv X 7 (some o)), some (cv X 8 st1'.head?), some (cv X 8 r5), some (.int (nI (m_dfn A l1 l2 (i + 1)))), some (.int (nI i))] [cv X 8 st2'.head?] T2 (cQi X (fun v T' => v = w ∧ c_RA A T')) := by
          intro st1' st2' p1' p2' r5
          refine bc21_127 ?_
          rw [nI_1]
          exact ih (i + 1) st1' st2' (by omega) p1' p2'
        have snd : ∀ st1', c_pt A m (i + 1) st1' → ∀ r : Option Nat, cA ext X 2 21 106 [some (cv X 0 (some 0)), some (.int (nI m)), some (.int (nI o)), some (cv X 7 (some m)), some (cv X 7 (some o)), some (cv X 8 r), some (cv X 8 st2.head?), some (.int (nI (m_dfn A l1 l2 (i + 1)))), some (.int (nI i))] [cv X 8 st1'.head?] T2 (cQi X (fun v T' => v = w ∧ c_RA A T')) := by
          intro st1' p1' r
          cases st2 with
          | nil => exact bc21_106 (fun _ => bc21_113 (adv st1' [] p1' (c_pt_nil p2) none)) (fun _ q => by cases q)
          | cons y st2 =>
            obtain ⟨hy, hs, p2'⟩ := c_pt_s hJ p2
            refine bc21_106 (fun q => by cases q) (fun _ _ => bc21_117 (hX.m hoi) (hX.d hy) (by rw [hro]; exact (c_next hI hX h.1 (top := .inr o) hoi hy hs).mono (by decide)) ?_)
            rintro v T3 ⟨rfl, rfl⟩
            exact adv st1' _ p1' p2' _
        have fst : cA ext X 2 21 88 [some (cv X 0 (some 0)), some (.int (nI m)), some (.int (nI o)), some (cv X 7 (some m)), some (cv X 7 (some o)), some (cv X 8 st1.head?), some (cv X 8 st2.head?), some (.int (nI (m_dfn A l1 l2 (i + 1)))), some (.int (nI i))] [] T2 (cQi X (fun v T' => v = w ∧ c_RA A T')) := by
          cases st1 with
          | nil => exact bc21_88 (fun _ => bc21_93 (snd [] (c_pt_nil p1) _)) (fun _ q => by cases q)
          | cons x st1 =>
            obtain ⟨hx, hs, p1'⟩ := c_pt_s hJ p1
            refine bc21_88 (fun q => by cases q) (fun _ _ => bc21_97 (hX.m hmi) (hX.d hx) (by rw [hr]; exact (c_next hI hX h.1 (top := .inr m) hmi hx hs).mono (by decide)) ?_)
            rintro v T3 ⟨rfl, rfl⟩
            exact snd _ p1' _
        have hdf : m_dfp A l1 l2 i = m_unl A st1.head? st2.head? := by rw [m_dfp_unl, e1, e2]
        refine bc21_82 (fun q => ?_) (fun q => ?_)
        · have ec := bI_0.mp q
          have e : m_dfn A l1 l2 (i + 1) = m_dfn A l1 l2 i := by
            rw [m_dfn, hdf, ec]
            rfl
          rw [e] at fst
          exact fst
        · have ec : m_unl A st1.head? st2.head? = true := by
            cases hc : m_unl A st1.head? st2.head? with
            | true => rfl
            | false => rw [hc] at q; exact absurd rfl q
          have e : m_dfn A l1 l2 (i + 1) = m_dfn A l1 l2 i + 1 := by
            rw [m_dfn, hdf, ec]
            rfl
          refine bc21_85 ?_
          rw [nI_1, ← e]
          exact fst
      refine bc21_58 (fun q => absurd q (nI_ge (a := i) (b := 120) hmax (by decide))) (fun _ => bc21_65 (fun q => bc21_70 (fun q2 => ?_) (fun _ _ => body)) (fun _ _ => body))
      exfalso
      rw [q] at e1
      rw [q2] at e2
      rw [List.getElem?_eq_none_iff] at e1 e2
      omega
  exact loop (max l1.length l2.length) 0 _ _ (Nat.zero_add _) (c_pt_0 A m) (c_pt_0 A o)
end CD
