/-! THE FOREST AND THE GRAPH -/
theorem cnt_le {p q : Nat → Bool} : ∀ (l : List Nat), (∀ x ∈ l, p x = true → q x = true) → (l.filter p).length ≤ (l.filter q).length
  | [], _ => Nat.le_refl _
  | a :: l, h => by
    have ih := cnt_le l (fun x hx => h x (List.mem_cons_of_mem _ hx))
    rw [List.filter_cons, List.filter_cons]
    by_cases hp : p a = true
    · rw [if_pos hp, if_pos (h a List.mem_cons_self hp)]
      exact Nat.succ_le_succ ih
    · rw [if_neg hp]
      by_cases hq : q a = true
      · rw [if_pos hq]
        exact Nat.le_succ_of_le ih
      · rw [if_neg hq]
        exact ih
theorem cnt_lt {p q : Nat → Bool} {y : Nat} : ∀ (l : List Nat), (∀ x ∈ l, p x = true → q x = true) → y ∈ l → q y = true → p y = false → (l.filter p).length < (l.filter q).length
  | [], _, hy, _, _ => by cases hy
  | a :: l, h, hy, hq1, hp1 => by
    have hl := cnt_le l (fun x hx => h x (List.mem_cons_of_mem _ hx))
    rw [List.filter_cons, List.filter_cons]
    rcases List.mem_cons.mp hy with rfl | hy
    · rw [if_neg (by rw [hp1]; decide), if_pos hq1]
      exact Nat.lt_succ_of_le hl
    · have ih := cnt_lt l (fun x hx => h x (List.mem_cons_of_mem _ hx)) hy hq1 hp1
      by_cases hp : p a = true
      · rw [if_pos hp, if_pos (h a List.mem_cons_self hp)]
        exact Nat.succ_lt_succ ih
      · rw [if_neg hp]
        by_cases hq : q a = true
        · rw [if_pos hq]
          exact Nat.lt_succ_of_lt ih
        · rw [if_neg hq]
          exact ih
/-- ranks, below the number of divisions -/
def m_Rk (A : mS) (rk : Nat → Nat) : Prop := ∀ d, d < m_nD A → rk d < m_nD A ∧ (∀ p, m_un A d = some p → rk d < rk p) ∧ ∀ r, m_rp A d = some r → rk r < rk d
theorem m_rank {A : mS} (hI : m_Inv A) : ∃ rk, m_Rk A rk := by
  obtain ⟨rk, hrk⟩ := hI.2.2.2.2.2.2.2.1
  have lt : ∀ x y, y < m_nD A → rk y < rk x → ((List.range (m_nD A)).filter (fun k => decide (rk k < rk y))).length < ((List.range (m_nD A)).filter (fun k => decide (rk k < rk x))).length := by
    intro x y hy h
    refine cnt_lt (y := y) _ (fun k _ hk => decide_eq_true (Nat.lt_trans (of_decide_eq_true hk) h)) (List.mem_range.mpr hy) (decide_eq_true h) (decide_eq_false (Nat.lt_irrefl _))
  refine ⟨fun d => ((List.range (m_nD A)).filter (fun k => decide (rk k < rk d))).length, fun d hd => ⟨?_, fun p hp => ?_, fun r hr => ?_⟩⟩
  · have h1 := cnt_lt (p := fun k => decide (rk k < rk d)) (q := fun _ => true) (y := d) (List.range (m_nD A)) (fun _ _ _ => rfl) (List.mem_range.mpr hd) rfl (decide_eq_false (Nat.lt_irrefl _))
    have h2 : ((List.range (m_nD A)).filter (fun _ => true)).length = m_nD A := by
      rw [List.filter_eq_self.mpr (fun _ _ => rfl), List.length_range]
    rw [h2] at h1
    exact h1
  · exact lt p d hd ((hrk d hd).1 p hp)
  · exact lt d r (hI.2.2.2.2.2.1 d hd r hr).1 ((hrk d hd).2 r hr)
/-- the forest alone: numbers in their bounds, and ranks that grow upwards -/
def m_Fr (A : mS) (rk : Nat → Nat) : Prop := ∀ d, d < m_nD A → rk d < m_nD A ∧ ∀ p, m_un A d = some p → p < m_nD A ∧ rk d < rk p
def m_J (A : mS) : Prop := m_nD A ≤ 120 ∧ (∃ rk, m_Fr A rk) ∧ ∀ d, d < m_nD A → ∀ r, m_rp A d = some r → r < m_nD A
theorem m_Inv.J {A : mS} (hI : m_Inv A) : m_J A := by
  obtain ⟨rk, hr⟩ := m_rank hI
  exact ⟨hI.2.2.1, ⟨rk, fun d hd => ⟨(hr d hd).1, fun p hp => ⟨(hI.2.2.2.2.1 d hd p hp).1, (hr d hd).2.1 p hp⟩⟩⟩, fun d hd r hr => (hI.2.2.2.2.2.1 d hd r hr).1⟩
theorem m_J.un {A : mS} (hI : m_J A) {d : Nat} (hd : d < m_nD A) {p : Nat} (h : m_un A d = some p) : p < m_nD A := by
  obtain ⟨rk, hr⟩ := hI.2.1
  exact ((hr d hd).2 p h).1
/-- how many a division is under -/
def m_dep (A : mS) : Nat → Nat → Nat
  | 0, _ => 0
  | f + 1, d => match m_un A d with
    | none => 0
    | some p => m_dep A f p + 1
def m_depth (A : mS) (d : Nat) : Nat := m_dep A 120 d
theorem m_dep_more {A : mS} (hI : m_J A) {rk : Nat → Nat} (hr : m_Fr A rk) : ∀ (f d : Nat), d < m_nD A → m_nD A ≤ f + rk d → m_dep A (f + 1) d = m_dep A f d
  | 0, d, hd, h => by
    have := (hr d hd).1
    omega
  | f + 1, d, hd, h => by
    rw [m_dep, m_dep]
    cases hu : m_un A d with
    | none => rfl
    | some p =>
      have h1 := ((hr d hd).2 p hu).2
      have h2 := hI.un hd hu
      show m_dep A (f + 1) p + 1 = m_dep A f p + 1
      rw [m_dep_more hI hr f p h2 (by omega)]
theorem m_depth_none {A : mS} {d : Nat} (h : m_un A d = none) : m_depth A d = 0 := by
  unfold m_depth
  rw [m_dep, h]
theorem m_depth_some {A : mS} (hI : m_J A) {d p : Nat} (hd : d < m_nD A) (h : m_un A d = some p) : m_depth A d = m_depth A p + 1 := by
  obtain ⟨rk, hr⟩ := hI.2.1
  have h1 := ((hr d hd).2 p h).2
  have h2 := hI.un hd h
  have h3 := hI.1
  unfold m_depth
  rw [m_dep, h]
  show m_dep A 119 p + 1 = m_dep A 120 p + 1
  rw [m_dep_more hI hr 119 p h2 (by omega)]
theorem m_dep_lt {A : mS} (hI : m_J A) {rk : Nat → Nat} (hr : m_Fr A rk) : ∀ (f d : Nat), d < m_nD A → m_dep A f d + rk d < m_nD A
  | 0, d, hd => by
    have := (hr d hd).1
    rw [m_dep]
    omega
  | f + 1, d, hd => by
    have h0 := (hr d hd).1
    rw [m_dep]
    cases hu : m_un A d with
    | none => show 0 + rk d < m_nD A; omega
    | some p =>
      have h1 := ((hr d hd).2 p hu).2
      have h2 := m_dep_lt hI hr f p (hI.un hd hu)
      show m_dep A f p + 1 + rk d < m_nD A
      omega
theorem m_depth_lt {A : mS} (hI : m_J A) {d : Nat} (hd : d < m_nD A) : m_depth A d < m_nD A := by
  obtain ⟨rk, hr⟩ := hI.2.1
  have := m_dep_lt hI hr 120 d hd
  unfold m_depth
  omega
/-- under: itself, or one that it is under -/
def m_anc (A : mS) : Nat → Nat → Nat → Bool
  | 0, d, o => decide (d = o)
  | f + 1, d, o => decide (d = o) || (match m_un A d with
    | none => false
    | some p => m_anc A f p o)
def m_isU (A : mS) (d o : Nat) : Bool := m_anc A (m_depth A d) d o
theorem m_isU_none {A : mS} {d : Nat} (o : Nat) (h : m_un A d = none) : m_isU A d o = decide (d = o) := by
  unfold m_isU
  rw [m_depth_none h, m_anc]
theorem m_isU_some {A : mS} (hI : m_J A) {d p : Nat} (o : Nat) (hd : d < m_nD A) (h : m_un A d = some p) : m_isU A d o = (decide (d = o) || m_isU A p o) := by
  unfold m_isU
  rw [m_depth_some hI hd h, m_anc, h]
/-- how many are just under it -/
def m_kidn (A : mS) (n d : Nat) : Nat := ((List.range n).filter (fun k => decide (m_un A k = some d))).length
theorem m_kidn_succ (A : mS) (n d : Nat) : m_kidn A (n + 1) d = m_kidn A n d + (if m_un A n = some d then 1 else 0) := by
  unfold m_kidn
  rw [List.range_succ, List.filter_append, List.length_append]
  by_cases h : m_un A n = some d
  · rw [if_pos h]; simp [h]
  · rw [if_neg h]; simp [h]
theorem m_kidn_le (A : mS) (n d : Nat) : m_kidn A n d ≤ n := by
  unfold m_kidn
  exact Nat.le_trans (List.length_filter_le _ _) (by rw [List.length_range]; exact Nat.le_refl _)
theorem oI_eq {o : Option Nat} {d : Nat} (h : ∀ p, o = some p → p < 2147483648) (hd : d < 2147483648) : oI o = nI d ↔ o = some d := by
  cases o with
  | none => exact ⟨fun q => absurd (by rw [← q]; decide : nI d < 0) (nI_pos hd), fun q => by cases q⟩
  | some p => exact ⟨fun q => by rw [(nI_eq (h p rfl) hd).mp q], fun q => by cases q; rfl⟩
/-- the divisions and their links alone -/
def r_RD (A : mS) (W : rW) : Prop := r_gD A (W.1 6) (W.1 7) (W.1 8) (W.1 9) (W.1 10) (W.1 11) (W.2 5) ∧ r_gL A (W.1 12) (W.1 13) (W.1 14)
theorem r_RA.D {A : mS} {W : rW} (h : r_RA A W) : r_RD A W := ⟨h.2.2.1, h.2.2.2.1⟩
theorem r_RD.cong {A : mS} {W W' : rW} (h : r_RD A W) (h1 : ∀ k, k ∈ [6, 7, 8, 9, 10, 11, 12, 13, 14] → W'.1 k = W.1 k) (h2 : W'.2 5 = W.2 5) : r_RD A W' := by
  unfold r_RD
  rw [h1 6 (by decide), h1 7 (by decide), h1 8 (by decide), h1 9 (by decide), h1 10 (by decide), h1 11 (by decide), h1 12 (by decide), h1 13 (by decide), h1 14 (by decide), h2]
  exact h
section RG
variable {ext : av_X} {X : rX} {W : rW} {A : mS}
theorem r_un (hI : m_J A) (h : r_RD A W) {d : Nat} (hd : d < m_nD A) : W.1 7 d = oI (m_un A d) ∧ ∀ p, m_un A d = some p → p < m_nD A := ⟨(h.1.2.1 d hd).2.1, fun p hp => hI.un hd hp⟩
theorem r_depth (hI : m_J A) (h : r_RA A W) {d : Nat} (hd : d < m_nD A) : rCi ext X 0 82 [.ref X.1, .int (nI d)] W (fun x W' => W' = W ∧ x = nI (m_depth A d)) := by
  have hD := hI.1
  refine rCi.of (L := [some (.ref X.1), some (.int (nI d)), none, none]) (by rw [ml82]; rfl) ?_
  refine br82_0 (i_1 := d) rfl (by omega) ?_
  have loop : ∀ (n k : Nat) (o : Option Nat), (∀ p, o = some p → p < m_nD A) → (match o with | none => 0 | some p => m_depth A p + 1) = n → k + n = m_depth A d → rA ext X 0 82 9 [some (.ref X.1), some (.int (nI d)), some (.int (nI k)), some (.int (oI o))] [] W (fun r W' => ∃ x, r = some (.int x) ∧ W' = W ∧ x = nI (m_depth A d)) := by
    intro n
    induction n with
    | zero =>
      intro k o ho hn hk
      cases o with
      | none => exact br82_9 (fun _ => br82_26 ⟨_, rfl, rfl, by rw [← hk]; rfl⟩) (fun e => absurd (by decide) e)
      | some p => exact absurd hn (Nat.succ_ne_zero _)
    | succ n ih =>
      intro k o ho hn hk
      cases o with
      | none => exact absurd (show (0 : Nat) = n + 1 from hn) (by omega)
      | some p =>
        have hp := ho p rfl
        refine br82_9 (fun e => absurd e (nI_pos (by omega))) (fun _ => ?_)
        refine br82_13 (i_1 := p) rfl (by omega) ?_
        rw [(r_un hI h.D hp).1, nI_1]
        refine ih (k + 1) _ (r_un hI h.D hp).2 ?_ (by omega)
        have hn' : m_depth A p + 1 = n + 1 := hn
        cases hu : m_un A p with
        | none =>
          show 0 = n
          rw [m_depth_none hu] at hn'
          omega
        | some q =>
          show m_depth A q + 1 = n
          rw [m_depth_some hI hp hu] at hn'
          omega
  rw [(r_un hI h.D hd).1]
  refine loop (m_depth A d) 0 _ (r_un hI h.D hd).2 ?_ (Nat.zero_add _)
  cases hu : m_un A d with
  | none => exact (m_depth_none hu).symm
  | some q => exact (m_depth_some hI hd hu).symm
theorem r_isUnder (hI : m_J A) (h : r_RA A W) {d o : Nat} (hd : d < m_nD A) (ho : o < m_nD A) : rCi ext X 0 78 [.ref X.1, .int (nI d), .int (nI o)] W (fun x W' => W' = W ∧ x = if m_isU A d o = true then 1 else 0) := by
  have hD := hI.1
  refine rCi.of (L := [some (.ref X.1), some (.int (nI d)), some (.int (nI o)), none]) (by rw [ml78]; rfl) ?_
  refine br78_0 ?_
  have fin1 : ∀ (x3 : Int32), x3 = nI o → m_isU A d o = true → rA ext X 0 78 21 [some (.ref X.1), some (.int (nI d)), some (.int (nI o)), some (.int x3)] [] W (fun r W' => ∃ x, r = some (.int x) ∧ W' = W ∧ x = if m_isU A d o = true then 1 else 0) := fun x3 e hu => by
    rw [if_pos hu]
    exact br78_21 (fun z => absurd e z) (fun _ => br78_26 (br78_31 (Or.inr rfl) ⟨_, rfl, rfl, rfl⟩))
  have fin0 : ∀ (x3 : Int32), ¬ x3 = nI o → m_isU A d o = false → rA ext X 0 78 21 [some (.ref X.1), some (.int (nI d)), some (.int (nI o)), some (.int x3)] [] W (fun r W' => ∃ x, r = some (.int x) ∧ W' = W ∧ x = if m_isU A d o = true then 1 else 0) := fun x3 e hu => by
    rw [hu, if_neg (by decide)]
    exact br78_21 (fun _ => br78_30 (br78_31 (Or.inl rfl) ⟨_, rfl, rfl, rfl⟩)) (fun z => absurd z e)
  have loop : ∀ (n : Nat) (p : Nat), p < m_nD A → m_depth A p = n → m_isU A d o = m_isU A p o → rA ext X 0 78 2 [some (.ref X.1), some (.int (nI d)), some (.int (nI o)), some (.int (nI p))] [] W (fun r W' => ∃ x, r = some (.int x) ∧ W' = W ∧ x = if m_isU A d o = true then 1 else 0) := by
    intro n
    induction n with
    | zero =>
      intro p hp hn hu
      refine br78_2 (fun e => absurd e (nI_pos (by omega))) (fun _ => ?_)
      have hun : m_un A p = none := by
        cases hq : m_un A p with
        | none => rfl
        | some q => rw [m_depth_some hI hp hq] at hn; omega
      rw [m_isU_none o hun] at hu
      refine br78_6 (fun e => ?_) (fun e => ?_)
      · exact fin1 _ e (by rw [hu]; exact decide_eq_true ((nI_eq (by omega) (by omega)).mp e))
      · refine br78_11 (i_1 := p) rfl (by omega) ?_
        rw [(r_un hI h.D hp).1, hun]
        refine br78_2 (fun _ => ?_) (fun e => absurd (by decide) e)
        refine fin0 _ (fun q => absurd (by rw [← q]; decide : nI o < 0) (nI_pos (by omega))) ?_
        rw [hu]
        exact decide_eq_false (fun q => e (by rw [q]))
    | succ n ih =>
      intro p hp hn hu
      refine br78_2 (fun e => absurd e (nI_pos (by omega))) (fun _ => ?_)
      cases hq : m_un A p with
      | none => rw [m_depth_none hq] at hn; omega
      | some q =>
        rw [m_isU_some hI o hp hq] at hu
        refine br78_6 (fun e => ?_) (fun e => ?_)
        · exact fin1 _ e (by rw [hu, decide_eq_true ((nI_eq (by omega) (by omega)).mp e), Bool.true_or])
        · refine br78_11 (i_1 := p) rfl (by omega) ?_
          have hne : ¬ p = o := fun z => e (by rw [z])
          rw [decide_eq_false hne, Bool.false_or] at hu
          rw [(r_un hI h.D hp).1, hq]
          refine ih q ((r_un hI h.D hp).2 q hq) ?_ hu
          rw [m_depth_some hI hp hq] at hn
          omega
  exact loop _ d hd rfl rfl
theorem r_children (hI : m_J A) (h : r_RD A W) {d : Nat} (hd : d < m_nD A) : rCi ext X 0 74 [.ref X.1, .int (nI d)] W (fun x W' => W' = W ∧ x = nI (m_kidn A (m_nD A) d)) := by
  have hD := hI.1
  refine rCi.of (L := [some (.ref X.1), some (.int (nI d)), none, none]) (by rw [ml74]; rfl) ?_
  refine br74_0 ?_
  have loop : ∀ (n k : Nat), k + n = m_nD A → rA ext X 0 74 4 [some (.ref X.1), some (.int (nI d)), some (.int (nI (m_kidn A k d))), some (.int (nI k))] [] W (fun r W' => ∃ x, r = some (.int x) ∧ W' = W ∧ x = nI (m_kidn A (m_nD A) d)) := by
    intro n
    induction n with
    | zero =>
      intro k hk
      refine br74_4 (fun _ => ?_) (fun e => absurd (by rw [h.1.1]; exact nI_le (by omega) (by omega)) e)
      exact br74_36 ⟨_, rfl, rfl, by rw [show k = m_nD A by omega]⟩
    | succ n ih =>
      intro k hk
      refine br74_4 (fun e => absurd e (by rw [h.1.1]; exact nI_ge (by omega) (by omega))) (fun _ => ?_)
      have hkl : k < m_nD A := by omega
      have hu := r_un hI h hkl
      have hu2 : ∀ p, m_un A k = some p → p < 2147483648 := fun p hp => by have := hu.2 p hp; omega
      refine br74_12 (i_1 := k) rfl (by omega) (fun e => ?_) (fun e => ?_)
      · rw [hu.1, oI_eq hu2 (by omega)] at e
        refine br74_27 (br74_28 ?_)
        have e2 : nI (m_kidn A k d) + 0 = nI (m_kidn A (k + 1) d) := by rw [m_kidn_succ, if_neg e]; exact nI_add _ 0
        rw [e2, nI_1]
        exact ih (k + 1) (by omega)
      · rw [hu.1, oI_eq hu2 (by omega)] at e
        refine br74_23 (br74_28 ?_)
        have e2 : nI (m_kidn A k d) + 1 = nI (m_kidn A (k + 1) d) := by rw [m_kidn_succ, if_pos e, nI_1]
        rw [e2, nI_1]
        exact ih (k + 1) (by omega)
  exact loop (m_nD A) 0 (Nat.zero_add _)
end RG
