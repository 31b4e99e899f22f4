/-! THE CLASS'S CALLS: size, about -/
theorem m_kf_eq {A B : mS} (h : B.2.2.1 = A.2.2.1) (c : Nat ⊕ Nat) (n : Nat) : m_kf B c n = m_kf A c n := by
  obtain ⟨a1, a2, a3, a4⟩ := A
  obtain ⟨b1, b2, b3, b4⟩ := B
  have h' : b3 = a3 := h
  subst h'
  induction n with
  | zero => rfl
  | succ n ih =>
    unfold m_kf
    rw [ih]
    rfl
theorem m_kids_eq {A B : mS} (h : B.2.2.1 = A.2.2.1) (c : Nat ⊕ Nat) : m_kids B c = m_kids A c := by
  have e : m_nD B = m_nD A := congrArg (fun z => z.1) h
  unfold m_kids
  rw [m_kf_eq h, e]
theorem nd_sub : ∀ (l1 l2 : List Nat), l1.Nodup → (∀ x ∈ l1, x ∈ l2) → l1.length ≤ l2.length
  | [], l2, _, _ => Nat.zero_le _
  | a :: l1, l2, hn, h => by
    rw [List.nodup_cons] at hn
    have ha := h a List.mem_cons_self
    have h1 := nd_sub l1 (l2.erase a) hn.2 (fun x hx => by
      have hne : x ≠ a := fun e => hn.1 (e ▸ hx)
      exact (List.mem_erase_of_ne hne).mpr (h x (List.mem_cons_of_mem _ hx)))
    rw [List.length_erase_of_mem ha] at h1
    have h2 : 0 < l2.length := List.length_pos_of_mem ha
    rw [List.length_cons]
    omega
theorem nd_same {l1 l2 : List Nat} (h1 : l1.Nodup) (h2 : l2.Nodup) (h : ∀ x, x ∈ l1 ↔ x ∈ l2) : l1.length = l2.length :=
  Nat.le_antisymm (nd_sub l1 l2 h1 (fun x hx => (h x).mp hx)) (nd_sub l2 l1 h2 (fun x hx => (h x).mpr hx))
/-- on the way through what is under one -/
def c_wy (A : mS) (t : Nat) (vs st : List Nat) : Prop := (vs ++ st).Nodup ∧ (∀ x ∈ vs ++ st, x < m_nD A ∧ m_depth A t < m_depth A x ∧ m_isU A x t = true) ∧ (∀ x ∈ vs ++ st, ∃ p, m_un A x = some p ∧ (p = t ∨ p ∈ vs)) ∧ ∀ p, (p = t ∨ p ∈ vs) → ∀ y ∈ m_kids A (.inl p), y ∈ vs ++ st
theorem m_kid_un {A : mS} {x p : Nat} (h : x ∈ m_kids A (.inl p)) : x < m_nD A ∧ m_un A x = some p := ⟨(m_kids_mem.mp h).1, of_decide_eq_true (m_kids_mem.mp h).2⟩
theorem c_wy_0 {A : mS} (hI : m_J A) {t : Nat} (ht : t < m_nD A) : c_wy A t [] (m_kids A (.inl t)) := by
  refine ⟨m_kids_nodup A _, fun x hx => ?_, fun x hx => ?_, fun p hp y hy => ?_⟩
  · obtain ⟨h1, h2⟩ := m_kid_un hx
    refine ⟨h1, by rw [m_depth_some hI h1 h2]; omega, ?_⟩
    rw [m_isU_some hI t h1 h2, m_isU_self hI ht, Bool.or_true]
  · exact ⟨t, (m_kid_un hx).2, Or.inl rfl⟩
  · rcases hp with rfl | hp
    · exact hy
    · cases hp
theorem c_wy_s {A : mS} (hI : m_J A) {t d : Nat} {vs st : List Nat} (h : c_wy A t vs (d :: st)) : c_wy A t (vs ++ [d]) (m_kids A (.inl d) ++ st) := by
  obtain ⟨h1, h2, h3, h4⟩ := h
  have e : (vs ++ [d]) ++ (m_kids A (.inl d) ++ st) = vs ++ d :: (m_kids A (.inl d) ++ st) := by rw [List.append_assoc]; rfl
  have hdm : d ∈ vs ++ d :: st := List.mem_append_right _ List.mem_cons_self
  have hd := h2 d hdm
  have hdv : d ∉ vs := by
    rw [List.nodup_append] at h1
    exact fun z => h1.2.2 d z d List.mem_cons_self rfl
  have hdt : d ≠ t := fun z => by have := hd.2.1; rw [z] at this; omega
  have hnew : ∀ x ∈ m_kids A (.inl d), x ∉ vs ++ d :: st := fun x hx hz => by
    obtain ⟨p, hp, hpp⟩ := h3 x hz
    rw [(m_kid_un hx).2] at hp
    cases hp
    rcases hpp with q | q
    · exact hdt q
    · exact hdv q
  have hin : ∀ x, x ∈ vs ++ d :: (m_kids A (.inl d) ++ st) ↔ x ∈ vs ++ d :: st ∨ x ∈ m_kids A (.inl d) := fun x => by
    simp only [List.mem_append, List.mem_cons]
    constructor
    · rintro (a | a | a | a)
      · exact Or.inl (Or.inl a)
      · exact Or.inl (Or.inr (Or.inl a))
      · exact Or.inr a
      · exact Or.inl (Or.inr (Or.inr a))
    · rintro ((a | a | a) | a)
      · exact Or.inl a
      · exact Or.inr (Or.inl a)
      · exact Or.inr (Or.inr (Or.inr a))
      · exact Or.inr (Or.inr (Or.inl a))
  have hv : ∀ x, x ∈ vs ++ [d] ↔ x ∈ vs ∨ x = d := fun x => by rw [List.mem_append, List.mem_singleton]
  refine ⟨?_, fun x hx => ?_, fun x hx => ?_, fun p hp y hy => ?_⟩
  · rw [e, List.nodup_append]
    rw [List.nodup_append] at h1
    obtain ⟨a1, a2, a3⟩ := h1
    rw [List.nodup_cons] at a2
    refine ⟨a1, List.nodup_cons.mpr ⟨fun hz => ?_, List.nodup_append.mpr ⟨m_kids_nodup A _, a2.2, fun x hx y hy he => ?_⟩⟩, fun x hx y hy he => ?_⟩
    · rcases List.mem_append.mp hz with hz | hz
      · exact hnew d hz hdm
      · exact a2.1 hz
    · subst he
      exact hnew x hx (List.mem_append_right _ (List.mem_cons_of_mem _ hy))
    · subst he
      rcases List.mem_cons.mp hy with hy | hy
      · exact hdv (hy ▸ hx)
      · rcases List.mem_append.mp hy with hy | hy
        · exact hnew x hy (List.mem_append_left _ hx)
        · exact a3 x hx x (List.mem_cons_of_mem _ hy) rfl
  · rw [e] at hx
    rcases (hin x).mp hx with hx | hx
    · exact h2 x hx
    · obtain ⟨q1, q2⟩ := m_kid_un hx
      refine ⟨q1, by rw [m_depth_some hI q1 q2]; omega, ?_⟩
      rw [m_isU_some hI t q1 q2, hd.2.2, Bool.or_true]
  · rw [e] at hx
    rcases (hin x).mp hx with hx | hx
    · obtain ⟨p, q1, q2⟩ := h3 x hx
      refine ⟨p, q1, ?_⟩
      rcases q2 with q2 | q2
      · exact Or.inl q2
      · exact Or.inr ((hv p).mpr (Or.inl q2))
    · exact ⟨d, (m_kid_un hx).2, Or.inr ((hv d).mpr (Or.inr rfl))⟩
  · rw [e, hin]
    rcases hp with hp | hp
    · exact Or.inl (h4 p (Or.inl hp) y hy)
    · rcases (hv p).mp hp with hp | rfl
      · exact Or.inl (h4 p (Or.inr hp) y hy)
      · exact Or.inr hy
theorem c_wy_all {A : mS} (hI : m_J A) {t : Nat} {vs : List Nat} (h : c_wy A t vs []) : ∀ (n k : Nat), k < m_nD A → m_depth A k = n → k ≠ t → m_isU A k t = true → k ∈ vs := by
  intro n
  induction n with
  | zero =>
    intro k hk hn hkt hu
    cases e : m_un A k with
    | none =>
      rw [m_isU_none t e, decide_eq_true_eq] at hu
      exact absurd hu hkt
    | some p => rw [m_depth_some hI hk e] at hn; omega
  | succ n ih =>
    intro k hk hn hkt hu
    cases e : m_un A k with
    | none =>
      rw [m_isU_none t e, decide_eq_true_eq] at hu
      exact absurd hu hkt
    | some p =>
      rw [m_depth_some hI hk e] at hn
      rw [m_isU_some hI t hk e, Bool.or_eq_true, decide_eq_true_eq] at hu
      have hp := hI.un hk e
      have hk2 : k ∈ m_kids A (.inl p) := m_kids_mem.mpr ⟨hk, decide_eq_true e⟩
      have h4 := h.2.2.2
      rw [List.append_nil] at h4
      by_cases ep : p = t
      · exact h4 p (Or.inl ep) k hk2
      · have := ih p hp (by omega) ep (hu.resolve_left hkt)
        exact h4 p (Or.inr this) k hk2
theorem c_wy_cnt {A : mS} (hI : m_J A) {t : Nat} {vs : List Nat} (h : c_wy A t vs []) : vs.length = m_dn A (m_nD A) t := by
  unfold m_dn
  have h1 := h.1
  have h2 := h.2.1
  rw [List.append_nil] at h1 h2
  refine nd_same h1 (List.nodup_range.filter _) (fun x => ?_)
  rw [List.mem_filter, List.mem_range, Bool.and_eq_true, decide_eq_true_eq]
  constructor
  · intro hx
    have q := h2 x hx
    exact ⟨q.1, fun z => by have := q.2.1; rw [z] at this; omega, q.2.2⟩
  · rintro ⟨a, b, c⟩
    exact c_wy_all hI h _ x a rfl b c
section CB
variable {ext : av_X} {X : cX} {T : cT} {A : mS}
theorem c_countUnder (hI : m_Inv A) (hX : c_X A X) (h : c_G A T) {t : Nat} (ht : t < m_nD A) : cCi ext X 1 59 [cv X 8 (some t)] T (fun v T' => T' = T ∧ v = nI (m_dn A (m_nD A) t)) := by
  have hJ := hI.J
  have hD := hI.2.2.1
  refine cCi.of (L := [some (cv X 8 (some t)), none, none, none]) (by rw [ml59]; rfl) ?_
  refine bc59_0 (hX.d ht) (c_next0 hX h (top := .inl t) ht) ?_
  rintro o T1 ⟨rfl, rfl⟩
  refine bc59_7 ?_
  have loop : ∀ (n : Nat) (vs st : List Nat), vs.length + n = m_nD A + 1 → c_wy A t vs st → c_cur A (.inl t) st → cA ext X 1 59 10 [some (cv X 8 (some t)), some (.int (nI vs.length)), some (cv X 8 st.head?), some (.int (nI vs.length))] [] T1 (cQi X (fun v T' => T' = T1 ∧ v = nI (m_dn A (m_nD A) t))) := by
    intro n
    induction n with
    | zero =>
      intro vs st hn hw hc
      have := nd_len _ _ hw.1 (fun x hx => (hw.2.1 x hx).1)
      rw [List.length_append] at this
      omega
    | succ n ih =>
      intro vs st hn hw hc
      have hle := nd_len _ _ hw.1 (fun x hx => (hw.2.1 x hx).1)
      rw [List.length_append] at hle
      cases st with
      | nil =>
        have fin : cA ext X 1 59 35 [some (cv X 8 (some t)), some (.int (nI vs.length)), some (cv X 8 ([] : List Nat).head?), some (.int (nI vs.length))] [] T1 (cQi X (fun v T' => T' = T1 ∧ v = nI (m_dn A (m_nD A) t))) := bc59_35 (cQi.e ⟨rfl, by rw [c_wy_cnt hJ hw]⟩)
        exact bc59_10 (fun _ => fin) (fun _ => bc59_16 (fun _ => fin) (fun _ q => by cases q))
      | cons x st =>
        have hle' : vs.length + (st.length + 1) ≤ m_nD A := hle
        obtain ⟨hx, hs⟩ := hc x st rfl
        refine bc59_10 (fun q => absurd q (nI_ge (a := vs.length) (b := 120) (by omega) (by decide))) (fun _ => bc59_16 (fun q => by cases q) (fun _ _ => bc59_20 (hX.d hx) (c_next hI hX h (top := .inl t) ht hx hs) ?_))
        rintro o T2 ⟨rfl, rfl⟩
        refine bc59_28 ?_
        rw [nI_1]
        have := ih (vs ++ [x]) (m_kids A (.inl x) ++ st) (by rw [List.length_append]; show vs.length + 1 + n = _; omega) (c_wy_s hJ hw) (c_cur_s hJ hx hs)
        rw [List.length_append] at this
        exact this
  exact loop (m_nD A + 1) [] _ (by show 0 + _ = _; omega) (c_wy_0 hJ ht) (c_cur_0 _)
theorem c_about (hI : m_Inv A) (hX : c_X A X) (h : c_RA A T) (dd wh : Int32) : cCi ext X 2 23 [cv X 0 (some 0), .int dd, .int wh] T (fun v T' => v = sp_about A dd wh ∧ c_RA A T') := by
  have hJ := hI.J
  have hM5 := hI.2.1.1
  have hD := hI.2.2.1
  have l0 := hX.z (s := 0) (by decide)
  refine cCi.of (L := [some (cv X 0 (some 0)), some (.int dd), some (.int wh), none]) (by rw [ml23]; rfl) ?_
  generalize hv : sp_about A dd wh = w
  unfold sp_about at hv
  refine bc23_0 l0 ((c_findDivision hI hX h.1 dd).mono (by decide)) ?_
  rintro o T1 ⟨rfl, rfl⟩
  by_cases hm : 0 ≤ dd ∧ dd ≤ nI (m_nD A) - 1
  case neg =>
    rw [if_neg hm] at hv ⊢
    exact bc23_5 (fun _ => bc23_10 (cQi.e ⟨hv, h⟩)) (fun _ q => by cases q)
  rw [if_pos hm] at hv ⊢
  obtain ⟨d, hd, rfl⟩ := (rI_rng (by omega)).mp hm
  rw [nI_clamp (by omega)] at hv ⊢
  have hg := h.1.2.2.2.1 d hd
  refine bc23_5 (fun q => by cases q) (fun _ _ => bc23_12 ?_)
  by_cases cw : 0 ≤ wh ∧ wh ≤ 6
  · obtain ⟨k, hk, rfl⟩ := (rI_rg2 (n := 6) rfl (by decide)).mp cw
    rw [if_pos cw, nI_clamp (by omega)] at hv
    rw [tsw_nI (by omega)]
    match k, hk with
    | 0, _ => exact bc23_56 (hX.d hd) (cQi.e ⟨by rw [hg.2.2.1]; exact hv, h⟩)
    | 1, _ =>
      refine bc23_61 (hX.d hd) (fun q => by rw [hg.2.2.2.2.2.2.1] at q; cases q) (fun _ _ => ?_)
      refine bc23_72 (b_2 := c_ix (c_pa A d)) (hX.d hd) hg.2.2.2.2.2.2.1 (bc23_79 (cQi.e ⟨?_, h⟩))
      have hv' : oI (m_un A d) = w := hv
      cases hu : m_un A d with
      | none =>
        have hp : c_pa A d = .inr (m_mp A d) := by unfold c_pa; rw [hu]
        rw [hp, ← hv', hu]
        exact (h.1.2.2.1 _ (hI.2.2.2.1 d hd).1).2.2.2.1
      | some p =>
        have hp : c_pa A d = .inl p := by unfold c_pa; rw [hu]
        rw [hp, ← hv', hu]
        exact (h.1.2.2.2.1 p (hJ.un hd hu)).2.1
    | 2, _ => exact bc23_80 (hX.d hd) (cQi.e ⟨by rw [hg.2.2.2.1]; exact hv, h⟩)
    | 3, _ => exact bc23_85 (hX.d hd) (cQi.e ⟨by rw [hg.2.2.2.2.1]; exact hv, h⟩)
    | 4, _ => exact bc23_90 (hX.d hd) (cQi.e ⟨by rw [hg.2.2.2.2.2.1]; exact hv, h⟩)
    | 5, _ =>
      have hv' : oI (m_rp A d) = w := hv
      refine bc23_95 (hX.d hd) (fun q => bc23_102 (bc23_113 (cQi.e ⟨?_, h⟩))) (fun r q => bc23_106 (b_2 := r) (hX.d hd) q (bc23_113 (cQi.e ⟨?_, h⟩)))
      · rw [hg.2.2.2.2.2.2.2] at q
        rw [← hv', q]
        rfl
      · rw [hg.2.2.2.2.2.2.2] at q
        rw [← hv', q]
        exact (h.1.2.2.2.1 r (hI.2.2.2.2.2.1 d hd r q).1).2.1
    | 6, _ =>
      refine bc23_114 (hX.d hd) (c_countUnder hI hX h.1 hd) ?_
      rintro v T2 ⟨rfl, rfl⟩
      exact bc23_118 (cQi.e ⟨hv, h⟩)
    | k + 7, hk => exact absurd hk (by omega)
  · rw [if_neg cw] at hv
    have fin : cA ext X 2 23 119 [some (cv X 0 (some 0)), some (.int (nI d)), some (.int wh), some (cv X 8 (some d))] [] T1 (cQi X (fun v T' => v = w ∧ c_RA A T')) := bc23_119 (cQi.e ⟨hv, h⟩)
    by_cases c0 : wh < 0
    · rw [tsw_neg c0]
      exact fin
    · obtain ⟨k, hk, rfl⟩ := nI_of c0
      have hk5 : 7 ≤ k := by
        refine Nat.le_of_not_lt (fun q => cw ?_)
        exact (rI_rg2 (n := 6) rfl (by decide)).mpr ⟨k, by omega, rfl⟩
      rw [tsw_nI hk, List.getD_eq_getElem?_getD, List.getElem?_eq_none (by show 7 ≤ k; omega)]
      exact fin
theorem c_size (hI : m_Inv A) (hX : c_X A X) (h : c_RA A T) (f n : Int32) : cCi ext X 1 3 [cv X 0 (some 0), .int f, .int n] T (fun v T' => v = (sp_size A f n).1 ∧ c_RA (sp_size A f n).2 T') := by
  have hF := hI.1.1
  have l0 := hX.z (s := 0) (by decide)
  refine cCi.of (L := [some (cv X 0 (some 0)), some (.int f), some (.int n), none, none]) (by rw [ml3]; rfl) ?_
  generalize hv : sp_size A f n = w
  unfold sp_size at hv
  refine bc3_0 l0 (c_findFile hI hX h.1 f) ?_
  rintro o T1 ⟨rfl, rfl⟩
  by_cases hm : 0 ≤ f ∧ f ≤ nI (m_nF A) - 1
  case neg =>
    rw [if_neg hm] at hv ⊢
    exact bc3_5 (fun _ => bc3_10 (cQi.e (by rw [← hv]; exact ⟨rfl, h⟩))) (fun _ q => by cases q)
  rw [if_pos hm] at hv ⊢
  obtain ⟨f, hf, rfl⟩ := (rI_rng (by omega)).mp hm
  rw [nI_clamp (by omega)] at hv ⊢
  refine bc3_5 (fun q => by cases q) (fun _ _ => bc3_12 (c_isSize n) ?_)
  rintro v T2 ⟨rfl, rfl⟩
  by_cases hn : 0 ≤ n ∧ n ≤ 100000
  case neg =>
    rw [if_neg hn] at hv ⊢
    exact bc3_16 (fun q => absurd rfl q) (fun _ => bc3_19 (cQi.e (by rw [← hv]; exact ⟨rfl, h⟩)))
  rw [if_pos hn] at hv ⊢
  refine bc3_16 (fun _ => bc3_22 (hX.f hf) (cQi.e ?_)) (fun q => absurd q (by decide))
  rw [← hv]
  have key : ∀ s i k, ¬ (s = 6 ∧ i = f ∧ k = 1) → (iset T2 6 f 1 n).1 s i k = T2.1 s i k := fun s i k hn => iset_n _ _ hn
  refine ⟨(h.1.2.1 f hf).2.2, ⟨⟨?_, ?_, ?_, ?_, ?_, ?_, h.1.2.2.2.2.2.2⟩, h.2.1, ?_, ?_⟩⟩
  · refine ⟨?_, ?_, ?_⟩
    · rw [key _ _ _ (by omega)]; exact h.1.1.1
    · rw [key _ _ _ (by omega)]; exact h.1.1.2.1
    · rw [key _ _ _ (by omega)]; exact h.1.1.2.2
  · intro g hg
    refine ⟨(h.1.2.1 g hg).1, ?_, ?_⟩
    · rw [key _ _ _ (by omega)]; exact (h.1.2.1 g hg).2.1
    · show (iset T2 6 f 1 n).1 6 g 1 = nI (va_up (m_fz A) f n.toNatClampNeg g)
      by_cases e : g = f
      · subst e
        rw [iset_s, va_up_self]
        exact nI_32 n hn.1
      · rw [key _ _ _ (fun z => e z.2.1), va_up_ne _ _ e]
        exact (h.1.2.1 g hg).2.2
  · intro m hm
    have := h.1.2.2.1 m hm
    refine ⟨this.1, ?_, this.2.2.1, ?_, ?_, this.2.2.2.2.2⟩
    · rw [key _ _ _ (by omega)]; exact this.2.1
    · rw [key _ _ _ (by omega)]; exact this.2.2.2.1
    · rw [key _ _ _ (by omega)]; exact this.2.2.2.2.1
  · intro d hd
    have := h.1.2.2.2.1 d hd
    refine ⟨this.1, ?_, ?_, ?_, ?_, ?_, this.2.2.2.2.2.2⟩
    · rw [key _ _ _ (by omega)]; exact this.2.1
    · rw [key _ _ _ (by omega)]; exact this.2.2.1
    · rw [key _ _ _ (by omega)]; exact this.2.2.2.1
    · rw [key _ _ _ (by omega)]; exact this.2.2.2.2.1
    · rw [key _ _ _ (by omega)]; exact this.2.2.2.2.2.1
  · intro c hc
    show _ = (m_kids (m_wF A (m_nF A) (va_up (m_fz A) f n.toNatClampNeg)) c).head? ∧ c_chn _ 8 8 (m_kids (m_wF A (m_nF A) (va_up (m_fz A) f n.toNatClampNeg)) c)
    rw [m_kids_eq (A := A) (B := m_wF A (m_nF A) (va_up (m_fz A) f n.toNatClampNeg)) rfl c]
    exact h.1.2.2.2.2.1 c hc
  · intro d j e hd he
    have := h.1.2.2.2.2.2.1 d j e hd he
    refine ⟨this.1, this.2.1, this.2.2.1, ?_, ?_⟩
    · rw [key _ _ _ (by omega)]; exact this.2.2.2.1
    · rw [key _ _ _ (by omega)]; exact this.2.2.2.2
  · exact h.2.2.1
  · exact h.2.2.2
end CB
