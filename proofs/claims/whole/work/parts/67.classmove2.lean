/-! THE CLASS'S CALL: move -/
theorem c_kp.RA {A A' : mS} {T T' : cT} {d c : Nat} {K : List Nat} (hkp : c_kp d c K T T') : T'.1 = T.1 := hkp.1
section CMv
variable {ext : av_X} {X : cX} {T : cT} {A : mS}
theorem c_RA_mov {T' : cT} (hI : m_Inv A) (h : c_RA A T) {d : Nat} {u : Option Nat} (hd : d < m_nD A) (h1 : T'.1 = T.1) (h2 : ∀ s, s ≠ 8 → T'.2 s = T.2 s) (h3 : ∀ i k, k ≠ 6 → k ≠ 7 → k ≠ 8 → T'.2 8 i k = T.2 8 i k) (h4 : ∀ i, i ≠ d → T'.2 8 i 6 = T.2 8 i 6) (h5 : T'.2 8 d 6 = some (c_ix (c_pa (m_mov A d u) d))) (h6 : c_gK (m_mov A d u) T') : c_RA (m_mov A d u) T' := by
  obtain ⟨⟨gN, gF, gM, gD, gK, gL, gC⟩, gS, gT, gP⟩ := h
  refine ⟨⟨?_, ?_, ?_, ?_, h6, ?_, ?_⟩, ?_, ?_, ?_⟩
  · unfold c_gN
    rw [h1]
    exact gN
  · intro f hf
    rw [h1, h2 20 (by decide)]
    exact gF f hf
  · intro m hm
    rw [h1, h2 21 (by decide), h2 7 (by decide), h3 _ _ (by decide) (by decide) (by decide)]
    exact gM m hm
  · intro x hx
    have := gD x hx
    rw [h1, h2 22 (by decide), h3 x 9 (by decide) (by decide) (by decide)]
    refine ⟨this.1, this.2.1, this.2.2.1, this.2.2.2.1, this.2.2.2.2.1, this.2.2.2.2.2.1, ?_, this.2.2.2.2.2.2.2⟩
    by_cases e : x = d
    · subst e; exact h5
    · rw [h4 x e, c_pa_mov e]
      exact this.2.2.2.2.2.2.1
  · intro x j e hx he
    rw [h1, h2 34 (by decide), h2 9 (by decide)]
    exact gL x j e hx he
  · intro f hf
    obtain ⟨l, a1, a2, a3⟩ := gC f hf
    refine ⟨l, ?_, a2.cong (fun x _ => by rw [h2 9 (by decide)]), a3⟩
    rw [h2 6 (by decide)]
    exact a1
  · unfold c_gS
    rw [h1, h2 29 (by decide), h2 30 (by decide)]
    exact gS
  · unfold c_gT
    rw [h1]
    exact gT
  · unfold c_gP
    rw [h1]
    exact gP
set_option maxHeartbeats 1000000 in
theorem c_move (hI : m_Inv A) (hX : c_X A X) (h : c_RA A T) (dd uu : Int32) : cCi ext X 3 12 [cv X 0 (some 0), .int dd, .int uu] T (fun v T' => v = (sp_move A dd uu).1 ∧ c_RA (sp_move A dd uu).2 T') := by
  have hD := hI.2.2.1
  have hM5 := hI.2.1.1
  have hJ := hI.J
  have l0 := hX.z (s := 0) (by decide)
  refine cCi.of (L := [some (cv X 0 (some 0)), some (.int dd), some (.int uu), none, none, none]) (by rw [ml12]; rfl) ?_
  generalize hv : sp_move A dd uu = w
  unfold sp_move at hv
  refine bc12_0 l0 ((c_findDivision hI hX h.1 dd).mono (by decide)) ?_
  rintro r T1 ⟨rfl, rfl⟩
  by_cases hm : 0 ≤ dd ∧ dd ≤ nI (m_nD A) - 1
  case neg =>
    rw [if_neg (fun q => hm q.1)] at hv
    rw [if_neg hm]
    exact bc12_5 (fun _ => bc12_10 (cQi.e (by rw [← hv]; exact ⟨rfl, h⟩))) (fun _ q => by cases q)
  rw [if_pos hm]
  obtain ⟨d, hd, rfl⟩ := (rI_rng (by omega)).mp hm
  rw [nI_clamp (by omega)] at hv ⊢
  have gd := h.1.2.2.2.1 d hd
  have hmd := (hI.2.2.2.1 d hd).1
  refine bc12_5 (fun q => by cases q) (fun _ _ => bc12_12 l0 (hX.d hd) (by rw [gd.2.2.1]; exact (c_findTree hI hX h.1 _).mono (by decide)) ?_)
  rintro r T2 ⟨rfl, rfl⟩
  rw [if_pos ((rI_rng (by omega)).mpr ⟨m_mp A d, hmd, rfl⟩), nI_clamp (by omega)]
  refine bc12_20 (fun q => by cases q) (fun _ _ => bc12_29 l0 ((c_findParent hI hX h.1 hmd uu).mono (by decide)) ?_)
  rintro r T2 ⟨rfl, rfl⟩
  -- the new place
  by_cases hu : uu = -1 ∨ (0 ≤ uu ∧ uu ≤ nI (m_nD A) - 1)
  case neg =>
    rw [if_neg (fun q => hu q.2)] at hv
    rw [if_neg (fun q => hu (Or.inl q)), if_neg (fun q => hu (Or.inr q))]
    exact bc12_36 (fun _ => bc12_43 (cQi.e (by rw [← hv]; exact ⟨rfl, h⟩))) (fun _ q => by cases q)
  rw [if_pos ⟨hm, hu⟩] at hv
  generalize hc1 : c_pa (m_mov A d (sp_opt uu)) d = c1
  have hun : m_un (m_mov A d (sp_opt uu)) d = sp_opt uu := va_up_self _ _ _
  have key : (if uu = -1 then some (1000 + m_mp A d) else if 0 ≤ uu ∧ uu ≤ nI (m_nD A) - 1 then some uu.toNatClampNeg else none) = some (c_ix c1) ∧ c_ok A c1 ∧ (sp_mbad A d (sp_opt uu) = true ↔ (T2.1 8 (c_ix c1) 1 ≠ T2.1 8 d 1 ∨ T2.2 8 (c_ix c1) 9 ≠ none ∨ (c_ix c1 < m_nD A ∧ m_rc A d (c_ix c1)))) := by
    rw [← hc1]
    unfold c_pa
    rw [hun]
    by_cases e : uu = -1
    · have eo : sp_opt uu = none := by unfold sp_opt; rw [if_pos e]
      rw [if_pos e, eo]
      have g := h.1.2.2.1 (m_mp A d) hmd
      refine ⟨rfl, hmd, ?_⟩
      show false = true ↔ (T2.1 8 (1000 + m_mp A d) 1 ≠ T2.1 8 d 1 ∨ T2.2 8 (1000 + m_mp A d) 9 ≠ none ∨ (1000 + m_mp A d < m_nD A ∧ _))
      constructor
      · intro q; cases q
      · rintro (q | q | q)
        · rw [g.2.2.2.2.1, gd.2.2.1] at q; exact absurd rfl q
        · exact absurd g.2.2.2.2.2 q
        · omega
    · obtain ⟨p, hp, rfl⟩ := (rI_rng (by omega)).mp (hu.resolve_left e)
      have eo : sp_opt (nI p) = some p := by unfold sp_opt; rw [if_neg e, nI_clamp (by omega)]
      rw [if_neg e, if_pos (hu.resolve_left e), nI_clamp (by omega), eo]
      have gp := h.1.2.2.2.1 p hp
      have hmp := (hI.2.2.2.1 p hp).1
      refine ⟨rfl, hp, ?_⟩
      show (decide (m_mp A p ≠ m_mp A d) || (decide (m_rp A p ≠ none) || sp_rc A d p)) = true ↔ (T2.1 8 p 1 ≠ T2.1 8 d 1 ∨ T2.2 8 p 9 ≠ none ∨ (p < m_nD A ∧ m_rc A d p))
      rw [gp.2.2.1, gd.2.2.1, gp.2.2.2.2.2.2.2, Bool.or_eq_true, Bool.or_eq_true, decide_eq_true_eq, decide_eq_true_eq, sp_rc_iff]
      constructor
      · rintro (q | q | q)
        · exact Or.inl (fun z => q ((nI_eq (by omega) (by omega)).mp z))
        · exact Or.inr (Or.inl q)
        · exact Or.inr (Or.inr ⟨hp, q⟩)
      · rintro (q | q | q)
        · exact Or.inl (fun z => q (by rw [z]))
        · exact Or.inr (Or.inl q)
        · exact Or.inr (Or.inr q.2)
  obtain ⟨kA, kB, kC⟩ := key
  rw [kA]
  have lc1 := hX.c kB
  refine bc12_36 (fun q => by cases q) (fun _ _ => ?_)
  have bad : ∀ (T3 : cT), c_RA A T3 → w = (-3, A) → cA ext X 3 12 65 [some (cv X 0 (some 0)), some (.int (nI d)), some (.int uu), some (cv X 8 (some d)), some (cv X 7 (some (m_mp A d))), some (cv X 8 (some (c_ix c1)))] [] T3 (cQi X (fun v T' => v = w.1 ∧ c_RA w.2 T')) := fun T3 h3 e => bc12_65 (cQi.e (by rw [e]; exact ⟨rfl, h3⟩))
  refine bc12_45 (hX.d hd) lc1 (fun q => bad T2 h ?_) (fun q => bc12_57 lc1 (fun q2 => ?_) (fun z q2 => bad T2 h ?_))
  · rw [← hv, if_pos (kC.mpr (Or.inl q))]
  case refine_3 => rw [← hv, if_pos (kC.mpr (Or.inr (Or.inl (by rw [q2]; exact fun z => by cases z))))]
  refine bc12_68 l0 (c_comesTo hI hX h.1 hd lc1) ?_
  rintro v T3 ⟨w3, c, rfl, hc⟩
  have h3 : c_RA A T3 := w3.RA h (by decide)
  refine bc12_78 (fun q3 => ?_) (fun q3 => ?_)
  case refine_2 =>
    have ec : c = true := by
      cases c with
      | true => rfl
      | false => exact absurd rfl q3
    refine bc12_81 (cQi.e ?_)
    rw [← hv, if_pos (kC.mpr (Or.inr (Or.inr (hc.mp ec))))]
    exact ⟨rfl, h3⟩
  have ec := bI_0.mp q3
  have hok : sp_mbad A d (sp_opt uu) = false := by
    cases hb : sp_mbad A d (sp_opt uu) with
    | false => rfl
    | true =>
      rcases kC.mp hb with z | z | z
      · exact absurd q z
      · exact absurd q2 z
      · rw [hc.mpr z] at ec; cases ec
  rw [hok, if_neg (by decide)] at hv
  have g3 := h3.1.2.2.2.1 d hd
  -- out of the old chain
  generalize hc0 : c_pa A d = c0 at g3
  have hc0ok : c_ok A c0 := by rw [← hc0]; exact c_pa_ok hI hd
  obtain ⟨l1, l2, hK0⟩ : ∃ l1 l2, m_kids A c0 = l1 ++ d :: l2 := List.append_of_mem (by rw [← hc0]; exact c_pa_in hd)
  have gk0 := h3.1.2.2.2.2.1 c0 hc0ok
  rw [hK0] at gk0
  have hnd0 := m_kids_nodup A c0
  rw [hK0] at hnd0
  have hlen0 : (l1 ++ d :: l2).length ≤ 120 := by
    have := m_kf_len A c0 (m_nD A)
    have e : (m_kids A c0).length ≤ m_nD A := this
    rw [hK0] at e
    omega
  have hin0 : ∀ x, x ∈ l1 ++ d :: l2 ↔ x < m_nD A ∧ c_pa A x = c0 := fun x => by rw [← hK0]; exact c_kid_iff
  refine bc12_84 (hX.d hd) (fun q => by rw [g3.2.2.2.2.2.2.1] at q; cases q) (fun _ _ => ?_)
  refine bc12_91 (b_2 := c_ix c0) (hX.d hd) g3.2.2.2.2.2.2.1 ((c_drop (hX.d hd) (hX.c hc0ok) (fun x hx => hX.d ((hin0 x).mp hx).1) hnd0 hlen0 gk0.1 gk0.2).mono (by decide)) ?_
  rintro T4 ⟨k4, f7, f8⟩
  obtain ⟨k41, k42, k43, k44, k45, k46⟩ := k4
  have hdl : d ∉ l1 ++ l2 := fun z => by
    rw [List.nodup_append] at hnd0
    rcases List.mem_append.mp z with z | z
    · exact hnd0.2.2 d z d List.mem_cons_self rfl
    · exact (List.nodup_cons.mp hnd0.2.1).1 z
  -- what there is now
  obtain ⟨K1, hK1⟩ : ∃ K1 : Nat ⊕ Nat → List Nat, ∀ c, (c = c0 → K1 c = l1 ++ l2) ∧ (c ≠ c0 → K1 c = m_kids A c) := by
    refine ⟨fun c => @ite _ (c = c0) (Classical.propDecidable _) (l1 ++ l2) (m_kids A c), fun c => ⟨fun e => ?_, fun e => ?_⟩⟩
    · exact @if_pos _ (Classical.propDecidable _) e _ _ _
    · exact @if_neg _ (Classical.propDecidable _) e _ _ _
  have hK1in : ∀ c x, x ∈ K1 c ↔ x < m_nD A ∧ c_pa A x = c ∧ x ≠ d := by
    intro c x
    by_cases e : c = c0
    · rw [(hK1 c).1 e]
      constructor
      · intro hx
        have hx' : x ∈ l1 ++ d :: l2 := by
          rcases List.mem_append.mp hx with a | a
          · exact List.mem_append_left _ a
          · exact List.mem_append_right _ (List.mem_cons_of_mem _ a)
        have := (hin0 x).mp hx'
        exact ⟨this.1, this.2.trans e.symm, fun z => hdl (z ▸ hx)⟩
      · rintro ⟨a, b, n⟩
        have := (hin0 x).mpr ⟨a, b.trans e⟩
        rcases List.mem_append.mp this with p | p
        · exact List.mem_append_left _ p
        · rcases List.mem_cons.mp p with p | p
          · exact absurd p n
          · exact List.mem_append_right _ p
    · rw [(hK1 c).2 e, c_kid_iff]
      constructor
      · rintro ⟨a, b⟩
        exact ⟨a, b, fun z => e (by rw [← b, z, hc0])⟩
      · rintro ⟨a, b, -⟩
        exact ⟨a, b⟩
  have hK1s : ∀ c, (K1 c).Pairwise (m_lt (m_od A)) := by
    intro c
    have hs := m_kids_sorted A c
    by_cases e : c = c0
    · rw [(hK1 c).1 e]
      rw [e, hK0] at hs
      rw [List.pairwise_append, List.pairwise_cons] at hs
      exact List.pairwise_append.mpr ⟨hs.1, hs.2.1.2, fun x hx y hy => hs.2.2 x hx y (List.mem_cons_of_mem _ hy)⟩
    · rw [(hK1 c).2 e]
      exact hs
  have lt_ne : ∀ {a b : Nat}, m_lt (m_od A) a b → a ≠ b := fun {a b} q e => by rw [e] at q; unfold m_lt at q; omega
  have hK1n : ∀ c, (K1 c).Nodup := fun c => (hK1s c).imp (fun {a b} q => lt_ne q)
  have hg4 : ∀ c, c_ok A c → T4.2 8 (c_ix c) 7 = (K1 c).head? ∧ c_chn T4 8 8 (K1 c) := by
    intro c hcok
    by_cases e : c = c0
    · rw [(hK1 c).1 e, e]
      exact ⟨f7, f8⟩
    · rw [(hK1 c).2 e, k45 _ (fun z => e (c_ix_inj hI hcok hc0ok z))]
      have g := h3.1.2.2.2.2.1 c hcok
      refine ⟨g.1, g.2.cong (fun x hx => ?_)⟩
      have hx' := c_kid_iff.mp hx
      refine k46 x (fun z => e ?_) (fun z => e ?_)
      · rw [← hx'.2, z, hc0]
      · rw [← hx'.2, ((hin0 x).mp z).2]
  have hn4 : ∀ x, (x = d ∨ x ∈ K1 c1) → T4.1 8 x 0 = nI x ∧ T4.1 8 x 2 = nI (m_od A x) ∧ x < 1000000 ∧ m_od A x < 1000000 := by
    intro x hx
    have hxD : x < m_nD A := hx.elim (fun e => e ▸ hd) (fun e => ((hK1in c1 x).mp e).1)
    have g := h3.1.2.2.2.1 x hxD
    have b := (hI.2.2.2.1 x hxD).2.1
    rw [k41]
    exact ⟨g.2.1, g.2.2.2.1, by omega, by omega⟩
  have hd1 : d ∉ K1 c1 := fun z => ((hK1in c1 d).mp z).2.2 rfl
  have hl1 : (K1 c1).length < 120 := by
    have := nd_len (m_nD A) (d :: K1 c1) (List.nodup_cons.mpr ⟨hd1, hK1n c1⟩) (fun x hx => by
      rcases List.mem_cons.mp hx with e | hx
      · rw [e]; exact hd
      · exact ((hK1in c1 x).mp hx).1)
    rw [List.length_cons] at this
    omega
  -- into the new chain
  refine bc12_99 lc1 ((c_take (od := m_od A) (hX.d hd) lc1 (fun x hx => hX.d ((hK1in c1 x).mp hx).1) hn4 (hK1n c1) hd1 hl1 (hg4 c1 kB).1 (hg4 c1 kB).2).mono (by decide)) ?_
  rintro T5 ⟨⟨k51, k52, k53, k54, k55, k56⟩, e6, m1, m2, hm12, hlt, hge, g7, g8⟩
  refine bc12_105 (cQi.e ?_)
  rw [← hv]
  refine ⟨rfl, c_RA_mov hI h3 hd (k51.trans k41) (fun s hs => (k52 s hs).trans (k42 s hs)) (fun i k a b c => (k53 i k a b c).trans (k43 i k a b c)) (fun i hi => (k54 i hi).trans (k44 i hi)) (by rw [hc1]; exact e6) ?_⟩
  intro c hcok
  have hcok' : c_ok A c := hcok
  have hpa : ∀ x, c_pa (m_mov A d (sp_opt uu)) x = if x = d then c1 else c_pa A x := fun x => by
    by_cases e : x = d
    · rw [if_pos e, e, hc1]
    · rw [if_neg e, c_pa_mov e]
  by_cases e : c = c1
  · subst e
    have ek : m_kids (m_mov A d (sp_opt uu)) c = m1 ++ d :: m2 := by
      rw [hm12] at hd1
      refine m_lt_only (od := m_od A) _ _ (m_kids_sorted (m_mov A d (sp_opt uu)) c) (m_ins_pw (by rw [← hm12]; exact hK1s c) hd1 hlt hge) (fun x => ?_)
      rw [c_kid_iff, hpa]
      have hx1 : x ∈ m1 ++ d :: m2 ↔ x = d ∨ x ∈ K1 c := by
        rw [hm12]
        simp only [List.mem_append, List.mem_cons]
        constructor
        · rintro (a | a | a)
          · exact Or.inr (Or.inl a)
          · exact Or.inl a
          · exact Or.inr (Or.inr a)
        · rintro (a | a | a)
          · exact Or.inr (Or.inl a)
          · exact Or.inl a
          · exact Or.inr (Or.inr a)
      rw [hx1, hK1in]
      show (x < m_nD A ∧ _) ↔ _
      by_cases ex : x = d
      · rw [if_pos ex]
        exact ⟨fun _ => Or.inl ex, fun _ => ⟨by rw [ex]; exact hd, rfl⟩⟩
      · rw [if_neg ex]
        exact ⟨fun z => Or.inr ⟨z.1, z.2, ex⟩, fun z => z.elim (fun q => absurd q ex) (fun q => ⟨q.1, q.2.1⟩)⟩
    rw [ek]
    exact ⟨g7, g8⟩
  · have ek : m_kids (m_mov A d (sp_opt uu)) c = K1 c := by
      refine m_lt_only (od := m_od A) _ _ (m_kids_sorted (m_mov A d (sp_opt uu)) c) (hK1s c) (fun x => ?_)
      rw [c_kid_iff, hpa, hK1in]
      show (x < m_nD A ∧ _) ↔ _
      by_cases ex : x = d
      · rw [if_pos ex]
        exact ⟨fun z => absurd z.2.symm e, fun z => absurd ex z.2.2⟩
      · rw [if_neg ex]
        exact ⟨fun z => ⟨z.1, z.2, ex⟩, fun z => ⟨z.1, z.2.1⟩⟩
    rw [ek, k55 _ (fun z => e (c_ix_inj hI hcok' kB z))]
    have g := hg4 c hcok'
    refine ⟨g.1, g.2.cong (fun x hx => ?_)⟩
    have hx' := (hK1in c x).mp hx
    refine k56 x hx'.2.2 (fun z => e ?_)
    rw [← hx'.2.1, ((hK1in c1 x).mp z).2.1]
end CMv
