/-! THE CLASS'S CALLS: repeat, move -/
theorem m_kf_cg {A B : mS} (hu : m_un B = m_un A) (hm : m_mp B = m_mp A) (ho : m_od B = m_od A) (c : Nat ⊕ Nat) : ∀ n, m_kf B c n = m_kf A c n
  | 0 => rfl
  | n + 1 => by
    have e : m_isK B c n = m_isK A c n := by
      cases c with
      | inl p => show decide (m_un B n = some p) = decide (m_un A n = some p); rw [hu]
      | inr m => show (decide (m_un B n = none) && decide (m_mp B n = m)) = (decide (m_un A n = none) && decide (m_mp A n = m)); rw [hu, hm]
    show (if m_isK B c n = true then m_ins (m_od B) n (m_kf B c n) else m_kf B c n) = (if m_isK A c n = true then m_ins (m_od A) n (m_kf A c n) else m_kf A c n)
    rw [e, m_kf_cg hu hm ho c n, ho]
theorem m_kids_cg {A B : mS} (hn : m_nD B = m_nD A) (hu : m_un B = m_un A) (hm : m_mp B = m_mp A) (ho : m_od B = m_od A) (c : Nat ⊕ Nat) : m_kids B c = m_kids A c := by
  unfold m_kids
  rw [hn]
  exact m_kf_cg hu hm ho c _
theorem c_chn.cong {T T' : cT} {s k : Nat} {l : List Nat} (h : c_chn T s k l) (e : ∀ x ∈ l, T'.2 s x k = T.2 s x k) : c_chn T' s k l := fun l1 x l2 he => by
  rw [e x (by rw [he]; simp)]
  exact h l1 x l2 he
theorem c_RA_rep {A : mS} {T : cT} (h : c_RA A T) {d : Nat} (hd : d < 1000) (o : Nat) : c_RA (m_rep A d o) (oset T 8 d 9 (some o)) := by
  obtain ⟨⟨gN, gF, gM, gD, gK, gL, gC⟩, gS, gT, gP⟩ := h
  have k : ∀ s, s ≠ 8 → (oset T 8 d 9 (some o)).2 s = T.2 s := fun s hs => oset_k _ _ _ _ hs
  have k8 : ∀ i q, ¬ (i = d ∧ q = 9) → (oset T 8 d 9 (some o)).2 8 i q = T.2 8 i q := fun i q hq => oset_n _ _ (fun z => hq ⟨z.2.1, z.2.2⟩)
  refine ⟨⟨gN, ?_, ?_, ?_, ?_, ?_, ?_⟩, ?_, gT, gP⟩
  · intro f hf
    rw [k 20 (by decide)]
    exact gF f hf
  · intro m hm
    rw [k 21 (by decide), k 7 (by decide), k8 _ _ (by omega)]
    exact gM m hm
  · intro x hx
    have := gD x hx
    rw [k 22 (by decide), k8 x 6 (by omega)]
    refine ⟨this.1, this.2.1, this.2.2.1, this.2.2.2.1, this.2.2.2.2.1, this.2.2.2.2.2.1, this.2.2.2.2.2.2.1, ?_⟩
    show _ = va_up (m_rp A) d (some o) x
    by_cases e : x = d
    · subst e
      rw [oset_s, va_up_self]
    · rw [k8 x 9 (by omega), va_up_ne _ _ e]
      exact this.2.2.2.2.2.2.2
  · intro c hc
    have e : m_kids (m_rep A d o) c = m_kids A c := m_kids_cg (A := A) (B := m_rep A d o) rfl rfl rfl rfl c
    rw [e, k8 _ _ (by omega)]
    exact ⟨(gK c hc).1, (gK c hc).2.cong (fun x _ => k8 x 8 (by omega))⟩
  · intro x j e hx he
    rw [k 34 (by decide), k 9 (by decide)]
    exact gL x j e hx he
  · intro f hf
    obtain ⟨l, a1, a2, a3⟩ := gC f hf
    refine ⟨l, ?_, a2.cong (fun x _ => by rw [k 9 (by decide)]), a3⟩
    rw [k 6 (by decide)]
    exact a1
  · unfold c_gS
    rw [k 29 (by decide), k 30 (by decide)]
    exact gS
theorem c_sm.RA {A : mS} {T T' : cT} {ss : List Nat} (w : c_sm ss T T') (h : c_RA A T) (hs : ∀ s, s ∈ [0, 3, 4, 5, 6, 7, 8, 9, 20, 21, 22, 29, 30, 31, 32, 33, 34] → s ∉ ss) : c_RA A T' :=
  ⟨w.G h.1 (fun s a => hs s (by revert a; revert s; decide)), h.2.1.cong (fun s a => w s (hs s (by revert a; revert s; decide))), h.2.2.1.cong (fun s a => w s (hs s (by revert a; revert s; decide))), h.2.2.2.cong (fun s a => w s (hs s (by revert a; revert s; decide)))⟩
theorem m_lt_tr {od : Nat → Nat} {a b c : Nat} (h1 : m_lt od a b) (h2 : m_lt od b c) : m_lt od a c := by
  unfold m_lt at *
  omega
theorem m_lt_tot {od : Nat → Nat} {a b : Nat} (h : ¬ m_lt od a b) (hne : a ≠ b) : m_lt od b a := by
  unfold m_lt at *
  omega
theorem m_ins_pw {od : Nat → Nat} {l1 l2 : List Nat} {d : Nat} (h : (l1 ++ l2).Pairwise (m_lt od)) (hd : d ∉ l1 ++ l2) (h1 : ∀ x ∈ l1, m_lt od x d) (h2 : ∀ x l, l2 = x :: l → ¬ m_lt od x d) : (l1 ++ d :: l2).Pairwise (m_lt od) := by
  rw [List.pairwise_append] at h
  obtain ⟨a1, a2, a3⟩ := h
  have hb : ∀ y ∈ l2, m_lt od d y := by
    intro y hy
    cases l2 with
    | nil => cases hy
    | cons z l =>
      have hz : m_lt od d z := m_lt_tot (h2 z l rfl) (fun e => hd (by rw [← e]; simp))
      rcases List.mem_cons.mp hy with e | hy
      · rw [e]; exact hz
      · exact m_lt_tr hz ((List.pairwise_cons.mp a2).1 y hy)
  rw [List.pairwise_append, List.pairwise_cons]
  refine ⟨a1, ⟨hb, a2⟩, fun x hx y hy => ?_⟩
  rcases List.mem_cons.mp hy with e | hy
  · rw [e]; exact h1 x hx
  · exact a3 x hx y hy
theorem c_kid_iff {A : mS} {c : Nat ⊕ Nat} {x : Nat} : x ∈ m_kids A c ↔ x < m_nD A ∧ c_pa A x = c := by
  constructor
  · intro h
    have := c_pa_k h
    exact ⟨this.2, this.1⟩
  · rintro ⟨h, rfl⟩
    exact c_pa_in h
theorem c_ix_inj {A : mS} (hI : m_Inv A) {a b : Nat ⊕ Nat} (ha : c_ok A a) (hb : c_ok A b) (h : c_ix a = c_ix b) : a = b := by
  have hD := hI.2.2.1
  cases a with
  | inl x =>
    have hx : x < m_nD A := ha
    cases b with
    | inl y => exact congrArg _ h
    | inr y =>
      have h' : x = 1000 + y := h
      omega
  | inr x =>
    cases b with
    | inl y =>
      have hy : y < m_nD A := hb
      have h' : 1000 + x = y := h
      omega
    | inr y =>
      have h' : 1000 + x = 1000 + y := h
      rw [show x = y by omega]
theorem c_pa_mov {A : mS} {d x : Nat} {u : Option Nat} (h : x ≠ d) : c_pa (m_mov A d u) x = c_pa A x := by
  have e : m_un (m_mov A d u) x = m_un A x := va_up_ne _ _ h
  unfold c_pa
  rw [e]
  rfl
section CM
variable {ext : av_X} {X : cX} {T : cT} {A : mS}
theorem c_repeat (hI : m_Inv A) (hX : c_X A X) (h : c_RA A T) (dd oo : Int32) : cCi ext X 3 11 [cv X 0 (some 0), .int dd, .int oo] T (fun v T' => v = (sp_repeat A dd oo).1 ∧ c_RA (sp_repeat A dd oo).2 T') := by
  have hD := hI.2.2.1
  have hM5 := hI.2.1.1
  have l0 := hX.z (s := 0) (by decide)
  refine cCi.of (L := [some (cv X 0 (some 0)), some (.int dd), some (.int oo), none, none]) (by rw [ml11]; rfl) ?_
  generalize hv : sp_repeat A dd oo = w
  unfold sp_repeat at hv
  refine bc11_0 l0 ((c_findDivision hI hX h.1 dd).mono (by decide)) ?_
  rintro r T1 ⟨rfl, rfl⟩
  refine bc11_5 l0 ((c_findDivision hI hX h.1 oo).mono (by decide)) ?_
  rintro r T2 ⟨rfl, rfl⟩
  by_cases hm : 0 ≤ dd ∧ dd ≤ nI (m_nD A) - 1
  case neg =>
    rw [if_neg (fun q => hm q.1)] at hv
    rw [if_neg hm]
    exact bc11_11 (fun _ => bc11_22 (cQi.e (by rw [← hv]; exact ⟨rfl, h⟩))) (fun _ q => by cases q)
  by_cases ho : 0 ≤ oo ∧ oo ≤ nI (m_nD A) - 1
  case neg =>
    rw [if_neg (fun q => ho q.2)] at hv
    rw [if_pos hm, if_neg ho]
    exact bc11_11 (fun q => by cases q) (fun _ _ => bc11_17 (fun _ => bc11_22 (cQi.e (by rw [← hv]; exact ⟨rfl, h⟩))) (fun _ q => by cases q))
  rw [if_pos ⟨hm, ho⟩] at hv
  rw [if_pos hm, if_pos ho]
  obtain ⟨d, hd, rfl⟩ := (rI_rng (by omega)).mp hm
  obtain ⟨o, hol, rfl⟩ := (rI_rng (by omega)).mp ho
  rw [nI_clamp (by omega), nI_clamp (by omega)] at hv
  rw [nI_clamp (by omega), nI_clamp (by omega)]
  have hmd := (hI.2.2.2.1 d hd).1
  have hmo := (hI.2.2.2.1 o hol).1
  refine bc11_11 (fun q => by cases q) (fun _ _ => bc11_17 (fun q => by cases q) (fun _ _ => bc11_24 (hX.d hd) ((c_isEmpty hI hX h.1 hd).mono (by decide)) ?_))
  rintro v T3 ⟨rfl, rfl⟩
  have hemp : m_emp A d = true ↔ ((m_lk A d).length = 0 ∧ m_kidn A (m_nD A) d = 0 ∧ m_rp A d = none) := by
    unfold m_emp
    rw [Bool.and_eq_true, Bool.and_eq_true, decide_eq_true_eq, decide_eq_true_eq, decide_eq_true_eq]
  have bad : w = (-3, A) → cA ext X 3 11 43 [some (cv X 0 (some 0)), some (.int (nI d)), some (.int (nI o)), some (cv X 8 (some d)), some (cv X 8 (some o))] [] T3 (cQi X (fun v T' => v = w.1 ∧ c_RA w.2 T')) := fun e => bc11_43 (cQi.e (by rw [e]; exact ⟨rfl, h⟩))
  refine bc11_28 (fun q => bad ?_) (fun q => ?_)
  · rw [← hv, if_neg]
    rintro ⟨a, b, c, -⟩
    rw [hemp.mpr ⟨a, b, c⟩] at q
    exact absurd q (by decide)
  have hem : m_emp A d = true := by
    cases hc : m_emp A d with
    | true => rfl
    | false => rw [hc] at q; exact absurd rfl q
  refine bc11_31 (hX.d hd) (hX.d hol) (fun q2 => ?_) (fun q2 => bad ?_)
  · rw [(h.1.2.2.2.1 d hd).2.2.1, (h.1.2.2.2.1 o hol).2.2.1, nI_eq (by omega) (by omega)] at q2
    refine bc11_46 l0 (c_comesTo hI hX h.1 hol (hX.d hd)) ?_
    rintro v T4 ⟨w4, c, rfl, hc⟩
    have h4 : c_RA A T4 := w4.RA h (by decide)
    refine bc11_56 (fun q3 => ?_) (fun q3 => ?_)
    · have ec := bI_0.mp q3
      have hno : sp_rc A o d = false := sp_rc_no.mpr (fun z => by rw [hc.mpr ⟨hd, z⟩] at ec; cases ec)
      refine bc11_62 (hX.d hd) (fun j hj => by cases hj; exact hX.d hol) (cQi.e ?_)
      rw [← hv, if_pos ⟨(hemp.mp hem).1, (hemp.mp hem).2.1, (hemp.mp hem).2.2, q2, hno⟩]
      exact ⟨rfl, c_RA_rep h4 (by omega) o⟩
    · have ec : c = true := by
        cases c with
        | true => rfl
        | false => exact absurd rfl q3
      refine bc11_59 (cQi.e ?_)
      rw [← hv, if_neg]
      · exact ⟨rfl, h4⟩
      · rintro ⟨-, -, -, -, z⟩
        exact sp_rc_no.mp z (hc.mp ec).2
  · rw [(h.1.2.2.2.1 d hd).2.2.1, (h.1.2.2.2.1 o hol).2.2.1] at q2
    rw [← hv, if_neg]
    rintro ⟨-, -, -, z, -⟩
    exact q2 (by rw [z])
end CM
