/-! THE CLASS'S STEPS -/
def c_stp (A : mS) (T : cT) (ss : List (Nat × Nat × Nat × Nat × Nat)) : Prop := T.1 3 0 2 = nI ss.length ∧ ∀ i e, ss[i]? = some e → (∃ t, T.2 29 0 i = some t ∧ c_lvL A t ∧ t / 5 = e.1 ∧ m_lnk A t = (e.2.1, e.2.2.1, e.2.2.2.1)) ∧ T.2 30 0 i = some e.2.2.2.2 ∧ e.2.2.2.2 < m_nD A
theorem m_rd_len (A : mS) : ∀ (n : Nat) (st : List (Nat × Option Nat)), (m_rd A n st).length ≤ n
  | 0, _ => Nat.le_refl _
  | n + 1, [] => Nat.zero_le _
  | n + 1, (d, a) :: st => Nat.succ_le_succ (m_rd_len A n _)
theorem m_sof_len {A : mS} (hI : m_Inv A) : ∀ (vs : List (Nat × Nat)), (∀ v ∈ vs, v.1 < m_nD A) → (m_sof A vs).length ≤ 5 * vs.length
  | [], _ => Nat.le_refl _
  | v :: vs, h => by
    have h1 := m_sof_len hI vs (fun w hw => h w (List.mem_cons_of_mem _ hw))
    have h2 := (hI.2.2.2.2.2.2.1 v.1 (h v List.mem_cons_self)).1
    show ((m_lks A v) ++ m_sof A vs).length ≤ 5 * (vs.length + 1)
    have h3 : (m_lks A v).length = (m_lk A v.1).length := List.length_map ..
    rw [List.length_append]
    omega
section CS
variable {ext : av_X} {X : cX} {T : cT} {A : mS}
theorem c_addLinks (hI : m_Inv A) (hX : c_X A X) (h : c_G A T) {ss : List (Nat × Nat × Nat × Nat × Nat)} (hs : c_stp A T ss) {x z : Nat} (hx : x < m_nD A) (hz : z < m_nD A) (hl : ss.length + (m_lk A x).length ≤ 5000) : cCv ext X 0 37 [cv X 3 (some 0), cv X 8 (some x), cv X 8 (some z)] T (fun T' => c_sm [3, 29, 30] T T' ∧ c_stp A T' (ss ++ m_lks A (x, z))) := by
  have l3 := hX.z (s := 3) (by decide)
  have hlk := hI.2.2.2.2.2.2.1 x hx
  refine cCv.of (L := [some (cv X 3 (some 0)), some (cv X 8 (some x)), some (cv X 8 (some z)), none]) (by rw [ml37]; rfl) ?_
  refine bc37_0 (fun q => by cases q) (fun _ _ => bc37_5 ?_)
  have hGk : ∀ T2, c_sm [3, 29, 30] T T2 → c_G A T2 := fun T2 w => w.G h (by decide)
  have loop : ∀ (n j : Nat) (s1 : List (Nat × Nat × Nat × Nat × Nat)) (T1 : cT), j + n = (m_lk A x).length → s1.length = ss.length + j → s1 ++ ((m_lk A x).drop j).map (fun e => (x, e.1, e.2.1, e.2.2, z)) = ss ++ m_lks A (x, z) → c_sm [3, 29, 30] T T1 → c_stp A T1 s1 → cA ext X 0 37 7 [some (cv X 3 (some 0)), some (cv X 8 (some x)), some (cv X 8 (some z)), some (.int (nI j))] [] T1 (cQv X (fun T' => c_sm [3, 29, 30] T T' ∧ c_stp A T' (ss ++ m_lks A (x, z)))) := by
    intro n
    induction n with
    | zero =>
      intro j s1 T1 hj hs1 he w1 p1
      have g := (hGk T1 w1).2.2.2.1 x hx
      refine bc37_7 (hX.d hx) (fun _ => bc37_77 (cQv.e ⟨w1, ?_⟩)) (fun q => absurd (by rw [g.2.2.2.2.2.1]; exact nI_le (by omega) (by omega)) q)
      rw [List.drop_eq_nil_of_le (by omega)] at he
      rw [← he, List.map_nil, List.append_nil]
      exact p1
    | succ n ih =>
      intro j s1 T1 hj hs1 he w1 p1
      have g1 := hGk T1 w1
      have g := g1.2.2.2.1 x hx
      have hjl : j < (m_lk A x).length := by omega
      have hje : (m_lk A x)[j]? = some ((m_lk A x)[j]) := List.getElem?_eq_getElem hjl
      rw [List.drop_eq_getElem_cons hjl, List.map_cons] at he
      generalize (m_lk A x)[j] = e at hje he
      have hL := g1.2.2.2.2.2.1 x j e hx hje
      obtain ⟨b1, b2, b3⟩ := m_lnk_at hI hx hje
      refine bc37_7 (hX.d hx) (fun q => absurd q (by rw [g.2.2.2.2.2.1]; exact nI_ge hjl (by omega))) (fun _ => bc37_15 (hX.d hx) (fun q => absurd q (nI_ge b3 (by decide))) (fun _ => bc37_24 l3 (fun q => absurd q (by rw [p1.1]; exact nI_ge (by omega) (by decide))) (fun _ => ?_)))
      refine bc37_36 (i_3 := j) (i_6 := s1.length) (i_9 := s1.length) l3 (hX.d hx) rfl b3 p1.1 (by omega) (by rw [oset_1]; exact p1.1) (by omega) (fun q hq => by cases hq; exact hX.d hz) ?_
      rw [hL.1, oset_1, oset_1, p1.1]
      obtain ⟨T2, hT2⟩ : ∃ T2, iset (oset (oset T1 29 0 s1.length (some (5 * x + j))) 30 0 s1.length (some z)) 3 0 2 (nI s1.length + 1) = T2 := ⟨_, rfl⟩
      rw [hT2]
      refine bc37_71 ?_
      rw [nI_1]
      refine ih (j + 1) (s1 ++ [(x, e.1, e.2.1, e.2.2, z)]) T2 (by omega) (by rw [List.length_append]; show s1.length + 1 = _; omega) (by rw [List.append_assoc]; exact he) ?_ ⟨?_, fun i v hv => ?_⟩
      · rw [← hT2]
        exact ((w1.o _ _ _ (by decide)).o _ _ _ (by decide)).i _ _ _ (by decide)
      · rw [← hT2, iset_s, nI_1, List.length_append]
        rfl
      · have f29 : T2.2 29 0 i = if i = s1.length then some (5 * x + j) else T1.2 29 0 i := by
          rw [← hT2, iset_2, oset_n _ _ (by omega)]
          by_cases q : i = s1.length
          · subst q; rw [if_pos rfl]; exact oset_s _ _ _ _ _
          · rw [if_neg q]; exact oset_n _ _ (fun r => q r.2.2)
        have f30 : T2.2 30 0 i = if i = s1.length then some z else T1.2 30 0 i := by
          rw [← hT2, iset_2]
          by_cases q : i = s1.length
          · subst q; rw [if_pos rfl]; exact oset_s _ _ _ _ _
          · rw [if_neg q, oset_n _ _ (fun r => q r.2.2)]; exact oset_n _ _ (by omega)
        rw [f29, f30]
        by_cases c1 : i < s1.length
        · rw [List.getElem?_append_left c1] at hv
          rw [if_neg (by omega), if_neg (by omega)]
          exact p1.2 i v hv
        · rw [List.getElem?_append_right (by omega)] at hv
          have hj2 : i - s1.length < 1 := (List.getElem?_eq_some_iff.mp hv).1
          have ej : i = s1.length := by omega
          subst ej
          rw [Nat.sub_self] at hv
          cases hv
          rw [if_pos rfl, if_pos rfl]
          exact ⟨⟨_, rfl, ⟨x, j, e, hx, hje, rfl⟩, b2, b1⟩, rfl, hz⟩
  exact loop (m_lk A x).length 0 ss T (by omega) rfl rfl (c_sm.rf _ _) hs
theorem c_keep (hI : m_Inv A) (hX : c_X A X) (h : c_G A T) {vs : List (Nat × Nat)} (hm : c_met A T vs) (hv : ∀ v ∈ vs, v.1 < m_nD A ∧ v.2 < m_nD A) (hvl : vs.length ≤ 1000) : cCv ext X 1 36 [cv X 3 (some 0), cv X 2 (some 0)] T (fun T' => c_sm [3, 29, 30] T T' ∧ c_stp A T' (m_sof A vs)) := by
  have l3 := hX.z (s := 3) (by decide)
  have l2 := hX.z (s := 2) (by decide)
  refine cCv.of (L := [some (cv X 3 (some 0)), some (cv X 2 (some 0)), none]) (by rw [ml36]; rfl) ?_
  refine bc36_0 l3 ?_
  have hGk : ∀ T2, c_sm [3, 29, 30] T T2 → c_G A T2 := fun T2 w => w.G h (by decide)
  have w0 : c_sm [3, 29, 30] T (iset T 3 0 2 0) := (c_sm.rf _ T).i _ _ _ (by decide)
  have p0 : c_stp A (iset T 3 0 2 0) [] := ⟨iset_s _ _ _ _ _, fun i e he => by cases he⟩
  generalize iset T 3 0 2 0 = T0 at w0 p0
  have hsl := m_sof_len hI vs (fun v hv' => (hv v hv').1)
  have loop : ∀ (todo done : List (Nat × Nat)) (T1 : cT), done ++ todo = vs → c_sm [3, 29, 30] T T1 → c_stp A T1 (m_sof A done) → cA ext X 1 36 7 [some (cv X 3 (some 0)), some (cv X 2 (some 0)), some (.int (nI done.length))] [] T1 (cQv X (fun T' => c_sm [3, 29, 30] T T' ∧ c_stp A T' (m_sof A vs))) := by
    intro todo
    induction todo with
    | nil =>
      intro done T1 he w1 p1
      rw [List.append_nil] at he
      subst he
      have h2 : T1.1 2 0 2 = nI done.length := by rw [(w1 2 (by decide)).1]; exact hm.1
      exact bc36_7 l2 (fun _ => bc36_44 (cQv.e ⟨w1, p1⟩)) (fun q => absurd (by rw [h2]; exact nI_le (Nat.le_refl _) (by omega)) q)
    | cons v todo ih =>
      intro done T1 he w1 p1
      have hdl : done.length < vs.length := by rw [← he, List.length_append]; show _ < _ + (todo.length + 1); omega
      have hget : vs[done.length]? = some v := by rw [← he, List.getElem?_append_right (Nat.le_refl _), Nat.sub_self]; rfl
      have hvv := hv v (List.mem_of_getElem? hget)
      have h2 : T1.1 2 0 2 = nI vs.length := by rw [(w1 2 (by decide)).1]; exact hm.1
      have hmm := hm.2.1 _ _ hget
      have h25 : T1.2 25 0 done.length = some v.1 := by rw [(w1 25 (by decide)).2]; exact hmm.1
      have h26 : T1.2 26 0 done.length = some v.2 := by rw [(w1 26 (by decide)).2]; exact hmm.2
      have hle : (m_sof A done).length + (m_lk A v.1).length ≤ 5000 := by
        have e : m_sof A vs = m_sof A done ++ (m_lks A v ++ m_sof A todo) := by
          unfold m_sof
          rw [← he, List.flatMap_append, List.flatMap_cons]
        rw [e, List.length_append, List.length_append] at hsl
        have h3 : (m_lks A v).length = (m_lk A v.1).length := List.length_map ..
        omega
      refine bc36_7 l2 (fun q => absurd q (by rw [h2]; exact nI_ge hdl (by omega))) (fun _ => bc36_15 (fun q => absurd q (nI_ge (b := 1000) (by omega) (by decide))) (fun _ => ?_))
      refine bc36_22 (i_3 := done.length) l3 l2 rfl (by omega) (by rw [h25, h26]; exact c_addLinks hI hX (hGk T1 w1) p1 hvv.1 hvv.2 hle) ?_
      rintro T2 ⟨w2, p2⟩
      refine bc36_38 ?_
      rw [nI_1]
      have := ih (done ++ [v]) T2 (by rw [List.append_assoc]; exact he) (w1.tr w2) (by rw [m_sof_app]; exact p2)
      rw [List.length_append] at this
      exact this
  exact loop vs [] T0 rfl w0 p0
theorem c_read (hI : m_Inv A) (hX : c_X A X) (h : c_RA A T) (m : Int32) : cCi ext X 3 14 [cv X 0 (some 0), .int m] T (fun v T' => v = (sp_read A m).1 ∧ c_RA (sp_read A m).2 T') := by
  have hM5 := hI.2.1.1
  have l0 := hX.z (s := 0) (by decide)
  refine cCi.of (L := [some (cv X 0 (some 0)), some (.int m), none]) (by rw [ml14]; rfl) ?_
  generalize hv : sp_read A m = w
  unfold sp_read at hv
  refine bc14_0 l0 ((c_findTree hI hX h.1 m).mono (by decide)) ?_
  rintro r T1 ⟨rfl, rfl⟩
  by_cases hm : 0 ≤ m ∧ m ≤ nI (m_nM A) - 1
  case neg =>
    rw [if_neg hm] at hv ⊢
    exact bc14_5 (fun _ => bc14_10 (cQi.e (by rw [← hv]; exact ⟨rfl, h⟩))) (fun _ q => by cases q)
  rw [if_pos hm] at hv ⊢
  obtain ⟨m, hmi, rfl⟩ := (rI_rng (by omega)).mp hm
  rw [nI_clamp (by omega)] at hv ⊢
  refine bc14_5 (fun q => by cases q) (fun _ _ => ?_)
  refine bc14_12 l0 (hX.m hmi) (by rw [(h.1.2.2.1 m hmi).2.2.1]; exact c_goThrough hI hX h.1 hmi) ?_
  rintro T2 ⟨w2, p2⟩
  have g2 : c_G A T2 := w2.G h.1 (by decide)
  refine bc14_23 l0 ((c_keep hI hX g2 p2 (m_visit_mem hI m) (m_rd_len A 1000 _)).mono (by decide)) ?_
  rintro T3 ⟨w3, p3⟩
  have g3 : c_G A T3 := w3.G g2 (by decide)
  refine bc14_34 l0 (cQi.e ?_)
  rw [← hv]
  refine ⟨p3.1, ⟨g3.1, g3.2.1, g3.2.2.1, g3.2.2.2.1, fun c hc => ?_, g3.2.2.2.2.2⟩, p3, ?_, ?_⟩
  · show _ = (m_kids (m_wS A (m_steps A m)) c).head? ∧ c_chn _ 8 8 (m_kids (m_wS A (m_steps A m)) c)
    rw [m_kids_eq (A := A) (B := m_wS A (m_steps A m)) rfl c]
    exact g3.2.2.2.2.1 c hc
  · exact (h.2.2.1.cong (fun s hs => w2 s (by revert hs; revert s; decide))).cong (fun s hs => w3 s (by revert hs; revert s; decide))
  · exact (h.2.2.2.cong (fun s hs => w2 s (by revert hs; revert s; decide))).cong (fun s hs => w3 s (by revert hs; revert s; decide))
end CS
