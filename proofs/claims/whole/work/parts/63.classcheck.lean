/-! THE CLASS'S CALL: check -/
section CCk
variable {ext : av_X} {X : cX} {T : cT} {A : mS}
theorem c_inNone (hI : m_Inv A) (hX : c_X A X) (h : c_G A T) {vs : List (Nat × Nat)} (hvs : ∀ v ∈ vs, v.1 < m_nD A) (hvl : vs.length ≤ 1000) (hm : ∀ d, d < m_nD A → T.1 27 0 d = nI (c_cnt vs d)) {f : Nat} (hf : f < m_nF A) : cCi ext X 1 48 [cv X 6 (some f), cv X 27 (some 0)] T (fun v T' => T' = T ∧ v = bI (m_non (m_sof A vs) f (m_fz A f))) := by
  obtain ⟨l, h2, hch, hnd, hmem, hsort⟩ := h.2.2.2.2.2.2 f hf
  have hl : c_fch A f l := ⟨hnd, hmem, hsort⟩
  have hsum : ∀ x, m_cov (m_sof A vs) f x = lsum (fun t => if m_cv A x t = true then c_cnt vs (t / 5) else 0) l := fun x => m_cov_sum hI hl vs hvs
  have hll : l.length ≤ 600 := nd_len _ _ hnd (fun t ht => (c_lvL_lt hI ((hmem t).mp ht).1).1)
  have hsz := hI.1.2 f hf
  have g6 := (h.2.1 f hf).2.2
  refine cCi.of (L := [some (cv X 6 (some f)), some (cv X 27 (some 0)), none, none, none]) (by rw [ml48]; rfl) ?_
  refine bc48_0 (hX.f hf) ?_
  rw [h2]
  generalize hQ : cQi X (fun v T' => T' = T ∧ v = bI (m_non (m_sof A vs) f (m_fz A f))) = Q
  -- the end
  have fin : ∀ (l1 l2 : List Nat) (re : Nat) (x4 : Int32) (o3 : Option Nat), l = l1 ++ l2 → re ≤ 100000 → (∀ t ∈ l1, 0 < c_cnt vs (t / 5) → (m_lnk A t).2.2 ≤ re) → (∀ x, x < re → 0 < m_cov (m_sof A vs) f x) → (∀ t ∈ l2, re < (m_lnk A t).2.1) → cA ext X 1 48 58 [some (cv X 6 (some f)), some (cv X 27 (some 0)), some (.int (nI re)), some (cv X 9 o3), some (.int x4)] [] T Q := by
    intro l1 l2 re x4 o3 he hre hto hcov hrest
    refine bc48_58 (hX.f hf) (fun q => ?_) (fun q => ?_)
    · rw [g6, nI_leI (by omega) (by omega)] at q
      refine bc48_70 (bc48_71 (Or.inl rfl) ?_)
      rw [← hQ]
      refine cQi.e ⟨rfl, ?_⟩
      cases hc : m_non (m_sof A vs) f (m_fz A f) with
      | false => rfl
      | true =>
        obtain ⟨x, hx, hx2⟩ := m_non_iff.mp hc
        have := hcov x (by omega)
        omega
    · rw [g6, nI_leI (by omega) (by omega)] at q
      refine bc48_66 (bc48_71 (Or.inr rfl) ?_)
      rw [← hQ]
      refine cQi.e ⟨rfl, ?_⟩
      rw [m_non_iff.mpr ⟨re, by omega, ?_⟩]
      · rfl
      · rw [hsum, he, lsum_app, lsum_0 (l := l1), lsum_0 (l := l2)]
        · intro u hu
          refine if_neg (fun z => ?_)
          unfold m_cv at z
          rw [Bool.and_eq_true, decide_eq_true_eq] at z
          have := hrest u hu
          omega
        · intro u hu
          by_cases cu : m_cv A re u = true
          · rw [if_pos cu]
            refine Nat.eq_zero_of_not_pos (fun hp => ?_)
            have r1 := hto u hu hp
            unfold m_cv at cu
            rw [Bool.and_eq_true, decide_eq_true_eq, decide_eq_true_eq] at cu
            omega
          · rw [if_neg cu]
  have loop : ∀ (l2 l1 : List Nat) (re : Nat), l = l1 ++ l2 → re ≤ 100000 → (∀ t ∈ l1, 0 < c_cnt vs (t / 5) → (m_lnk A t).2.2 ≤ re) → (∀ x, x < re → 0 < m_cov (m_sof A vs) f x) → cA ext X 1 48 10 [some (cv X 6 (some f)), some (cv X 27 (some 0)), some (.int (nI re)), some (cv X 9 l2.head?), some (.int (nI l1.length))] [] T Q := by
    intro l2
    induction l2 with
    | nil =>
      intro l1 re he hre hto hcov
      have fn := fin l1 [] re (nI l1.length) none he hre hto hcov (fun t ht => by cases ht)
      exact bc48_10 (fun _ => fn) (fun _ => bc48_18 (fun _ => fn) (fun _ q => by cases q))
    | cons t l2 ih =>
      intro l1 re he hre hto hcov
      have htm : t ∈ l := by rw [he]; simp
      have htl := ((hmem t).mp htm).1
      obtain ⟨a1, a2, a3, a4, a5⟩ := c_link_at hI hX h htl
      obtain ⟨b1, b2, b3, b4, b5⟩ := c_lvL_lt hI htl
      have hcl := c_cnt_le vs (t / 5)
      have hlen : l1.length < 600 := by
        rw [he, List.length_append] at hll
        have : l1.length + (l2.length + 1) ≤ 600 := hll
        omega
      have hs2 : ∀ u ∈ l2, (m_lnk A t).2.1 ≤ (m_lnk A u).2.1 := fun u hu => by
        rw [he, List.pairwise_append, List.pairwise_cons] at hsort
        exact hsort.2.1.1 u hu
      refine bc48_10 (fun q => absurd q (nI_ge (b := 600) hlen (by decide))) (fun _ => bc48_18 (fun q => by cases q) (fun _ _ => bc48_22 a1 (fun q => ?_) (fun q => ?_)))
      · rw [a4, nI_ltI (by omega) (by omega)] at q
        exact fin l1 (t :: l2) re _ _ he hre hto hcov (fun u hu => by
          rcases List.mem_cons.mp hu with e | hu
          · rw [e]; exact q
          · have := hs2 u hu
            omega)
      · rw [a4, nI_ltI (by omega) (by omega)] at q
        have hadv : ∀ (re' : Nat), re' ≤ 100000 → (∀ u ∈ l1 ++ [t], 0 < c_cnt vs (u / 5) → (m_lnk A u).2.2 ≤ re') → (∀ x, x < re' → 0 < m_cov (m_sof A vs) f x) → cA ext X 1 48 47 [some (cv X 6 (some f)), some (cv X 27 (some 0)), some (.int (nI re')), some (cv X 9 (some t)), some (.int (nI l1.length))] [] T Q := by
          intro re' c1 c2 c3
          refine bc48_47 a1 ?_
          rw [hch l1 t l2 he, nI_1]
          have := ih (l1 ++ [t]) re' (by rw [he, List.append_assoc]; rfl) c1 c2 c3
          rw [List.length_append] at this
          exact this
        refine bc48_30 a1 (c_times hI hX h hm htl) ?_
        rintro v T1 ⟨rfl, rfl⟩
        refine bc48_35 (fun q1 => ?_) (fun q1 => ?_)
        · have c0 : c_cnt vs (t / 5) = 0 := by
            refine Nat.eq_zero_of_not_pos (fun hp => ?_)
            exact nI_nle hp (by omega) q1
          refine hadv re hre (fun u hu hc => ?_) hcov
          rcases List.mem_append.mp hu with hu | hu
          · exact hto u hu hc
          · rw [List.mem_singleton.mp hu, c0] at hc; omega
        · have c1 : 0 < c_cnt vs (t / 5) := Nat.pos_of_ne_zero (fun z => q1 (by rw [z]; decide))
          refine bc48_38 a1 (by rw [a5]; exact c_max (by omega) (by omega)) ?_
          rintro v T2 ⟨rfl, rfl⟩
          refine bc48_46 (hadv _ (Nat.max_le.mpr ⟨hre, b5⟩) (fun u hu hc => ?_) (fun x hx => ?_))
          · rcases List.mem_append.mp hu with hu | hu
            · exact Nat.le_trans (hto u hu hc) (Nat.le_max_left _ _)
            · rw [List.mem_singleton.mp hu]; exact Nat.le_max_right _ _
          · by_cases cx : x < re
            · exact hcov x cx
            · have hx2 : x < (m_lnk A t).2.2 := by omega
              rw [hsum]
              have r2 := lsum_mem (g := fun u => if m_cv A x u = true then c_cnt vs (u / 5) else 0) htm
              have cu : m_cv A x t = true := by
                unfold m_cv
                rw [decide_eq_true (show (m_lnk A t).2.1 ≤ x by omega), decide_eq_true hx2]
                rfl
              rw [if_pos cu] at r2
              omega
  exact loop l [] 0 rfl (by omega) (fun t ht => by cases ht) (fun x hx => by omega)
theorem c_faultsF (hI : m_Inv A) (hX : c_X A X) (hG : c_G A T) {vs : List (Nat × Nat)} (hvs : ∀ v ∈ vs, v.1 < m_nD A) (hvl : vs.length ≤ 1000) (hm : ∀ d, d < m_nD A → T.1 27 0 d = nI (c_cnt vs d)) {l : List (Nat × Nat)} (h : c_fl T l) {f : Nat} (hf : f < m_nF A) (hl : l.length + (m_ff A (m_sof A vs) f).length ≤ 300) : cCv ext X 2 18 [cv X 0 (some 0), cv X 6 (some f)] T (fun T' => c_sm [4, 31, 32] T T' ∧ c_fl T' (l ++ m_ff A (m_sof A vs) f)) := by
  have l0 := hX.z (s := 0) (by decide)
  refine cCv.of (L := [some (cv X 0 (some 0)), some (cv X 6 (some f))]) (by rw [ml18]; rfl) ?_
  generalize hQ : cQv X (fun T' => c_sm [4, 31, 32] T T' ∧ c_fl T' (l ++ m_ff A (m_sof A vs) f)) = Q
  have hGk : ∀ T2, c_sm [4, 31, 32] T T2 → c_G A T2 := fun T2 w => w.G hG (by decide)
  have hmk : ∀ T2, c_sm [4, 31, 32] T T2 → ∀ d, d < m_nD A → T2.1 27 0 d = nI (c_cnt vs d) := fun T2 w d hd => by rw [(w 27 (by decide)).1]; exact hm d hd
  generalize ht : m_twi (m_sof A vs) f (m_fz A f) = t
  generalize hu : m_non (m_sof A vs) f (m_fz A f) = u
  have eff : m_ff A (m_sof A vs) f = m_w1 t 4 f ++ m_w1 u 5 f := by unfold m_ff; rw [ht, hu]
  rw [eff, List.length_append, m_w1_len, m_w1_len] at hl
  have second : ∀ (l2 : List (Nat × Nat)) (T2 : cT), l2.length + (if u = true then 1 else 0) ≤ 300 → l2 ++ m_w1 u 5 f = l ++ m_ff A (m_sof A vs) f → c_sm [4, 31, 32] T T2 → c_fl T2 l2 → cA ext X 2 18 31 [some (cv X 0 (some 0)), some (cv X 6 (some f))] [] T2 Q := by
    intro l2 T2 hl2 hrest w2 p2
    refine bc18_31 l0 (hX.f hf) (c_inNone hI hX (hGk T2 w2) hvs hvl (hmk T2 w2) hf) ?_
    rintro v T3 ⟨rfl, rfl⟩
    rw [hu]
    refine bc18_42 (fun q => ?_) (fun q => ?_)
    · rw [bI_0.mp q, show m_w1 false 5 f = [] from rfl, List.append_nil] at hrest
      refine bc18_57 ?_
      rw [← hQ, ← hrest]
      exact cQv.e ⟨w2, p2⟩
    · have ec : u = true := by
        cases u with
        | true => rfl
        | false => exact absurd rfl q
      rw [ec] at hrest hl2
      rw [if_pos rfl] at hl2
      refine bc18_45 l0 (hX.f hf) (by rw [((hGk T3 w2).2.1 f hf).2.1]; exact (c_fadd hX p2 (by omega) 5 f).mono (by decide)) ?_
      rintro T4 ⟨w4, p4⟩
      refine bc18_57 ?_
      rw [← hQ, ← hrest]
      exact cQv.e ⟨w2.tr w4, p4⟩
  refine bc18_0 (fun q => by cases q) (fun _ _ => bc18_5 l0 (hX.f hf) (c_twice hI hX hG hvs hvl hm hf) ?_)
  rintro v T3 ⟨rfl, rfl⟩
  rw [ht]
  refine bc18_16 (fun q => ?_) (fun q => ?_)
  · rw [bI_0.mp q, if_neg (by decide)] at hl
    refine second l T3 (by omega) ?_ (c_sm.rf _ _) h
    rw [eff, bI_0.mp q]
    rfl
  · have ec : t = true := by
      cases t with
      | true => rfl
      | false => exact absurd rfl q
    rw [ec, if_pos rfl] at hl
    refine bc18_19 l0 (hX.f hf) (by rw [(hG.2.1 f hf).2.1]; exact (c_fadd hX h (by omega) 4 f).mono (by decide)) ?_
    rintro T4 ⟨w4, p4⟩
    refine second (l ++ [(4, f)]) T4 (by rw [List.length_append]; show l.length + 1 + _ ≤ 300; omega) ?_ w4 p4
    rw [eff, ec, List.append_assoc]
    rfl
theorem c_check (hI : m_Inv A) (hX : c_X A X) (h : c_RA A T) (mm : Int32) : cCi ext X 3 16 [cv X 0 (some 0), .int mm] T (fun v T' => v = (sp_check A mm).1 ∧ c_RA (sp_check A mm).2 T') := by
  have hM5 := hI.2.1.1
  have hD := hI.2.2.1
  have hF30 := hI.1.1
  have l0 := hX.z (s := 0) (by decide)
  refine cCi.of (L := [some (cv X 0 (some 0)), some (.int mm), none, none, none]) (by rw [ml16]; rfl) ?_
  generalize hv : sp_check A mm = w
  unfold sp_check at hv
  refine bc16_0 l0 ((c_findTree hI hX h.1 mm).mono (by decide)) ?_
  rintro r T1 ⟨rfl, rfl⟩
  by_cases hm : 0 ≤ mm ∧ mm ≤ nI (m_nM A) - 1
  case neg =>
    rw [if_neg hm] at hv ⊢
    exact bc16_5 (fun _ => bc16_10 (cQi.e (by rw [← hv]; exact ⟨rfl, h⟩))) (fun _ q => by cases q)
  rw [if_pos hm] at hv ⊢
  obtain ⟨m, hmi, rfl⟩ := (rI_rng (by omega)).mp hm
  rw [nI_clamp (by omega)] at hv ⊢
  refine bc16_5 (fun q => by cases q) (fun _ _ => bc16_12 l0 ?_)
  generalize hQ : cQi X (fun v T' => v = w.1 ∧ c_RA w.2 T') = Q
  have hfl := m_faults_len hI m
  generalize hp : (fun d => decide (m_mp A d = m)) = p
  have hpd : ∀ d, p d = decide (m_mp A d = m) := fun d => by rw [← hp]
  have hfa : m_faults A m = ((List.range (m_nD A)).filter p).flatMap (m_fd A) ++ (if m_kd A m = 0 then (List.range (m_nF A)).flatMap (m_ff A (m_steps A m)) else []) := by unfold m_faults; rw [hp]
  generalize hl1 : ((List.range (m_nD A)).filter p).flatMap (m_fd A) = l1 at hfa
  have hl1len : l1.length ≤ 300 := by rw [hfa, List.length_append] at hfl; omega
  have w0 : c_sm [2, 4, 25, 26, 27, 28, 31, 32] T1 (iset T1 4 0 2 0) := (c_sm.rf _ T1).i _ _ _ (by decide)
  have p0 : c_fl (iset T1 4 0 2 0) [] := ⟨iset_s _ _ _ _ _, fun i e he => by cases he⟩
  generalize iset T1 4 0 2 0 = T0 at w0 p0
  have hGk : ∀ T2, c_sm [2, 4, 25, 26, 27, 28, 31, 32] T1 T2 → c_G A T2 := fun T2 w => w.G h.1 (by decide)
  -- the end
  have fin : ∀ (T2 : cT) (x3 : Int32) (o4 : Option Value), c_sm [2, 4, 25, 26, 27, 28, 31, 32] T1 T2 → c_fl T2 (m_faults A m) → cA ext X 3 16 108 [some (cv X 0 (some 0)), some (.int (nI m)), some (cv X 7 (some m)), some (.int x3), o4] [] T2 Q := by
    intro T2 x3 o4 w2 p2
    have g2 := hGk T2 w2
    refine bc16_108 l0 ?_
    rw [← hQ]
    refine cQi.e ?_
    rw [← hv]
    refine ⟨p2.1, ⟨g2.1, g2.2.1, g2.2.2.1, g2.2.2.2.1, fun c hc => ?_, g2.2.2.2.2.2⟩, ?_, p2, ?_⟩
    · show _ = (m_kids (m_wT A (m_faults A m)) c).head? ∧ c_chn _ 8 8 (m_kids (m_wT A (m_faults A m)) c)
      rw [m_kids_eq (A := A) (B := m_wT A (m_faults A m)) rfl c]
      exact g2.2.2.2.2.1 c hc
    · exact h.2.1.cong (fun s hs => w2 s (by revert hs; revert s; decide))
    · exact h.2.2.2.cong (fun s hs => w2 s (by revert hs; revert s; decide))
  -- the files
  have files : ∀ (n k : Nat) (T2 : cT) (o4 : Option Value), k + n = m_nF A → c_sm [2, 4, 25, 26, 27, 28, 31, 32] T1 T2 → c_met A T2 (m_visit A m) → m_kd A m = 0 → c_fl T2 (l1 ++ (List.range k).flatMap (m_ff A (m_steps A m))) → cA ext X 3 16 84 [some (cv X 0 (some 0)), some (.int (nI m)), some (cv X 7 (some m)), some (.int (nI k)), o4] [] T2 Q := by
    intro n
    induction n with
    | zero =>
      intro k T2 o4 hk w2 m2 hkd p2
      have ek : k = m_nF A := by omega
      subst ek
      refine bc16_84 l0 (fun _ => fin T2 _ _ w2 ?_) (fun q => absurd (by rw [(hGk T2 w2).1.1]; exact nI_le (Nat.le_refl _) (by omega)) q)
      rw [hfa, if_pos hkd]
      exact p2
    | succ n ih =>
      intro k T2 o4 hk w2 m2 hkd p2
      have g2 := hGk T2 w2
      have ekk : (List.range (k + 1)).flatMap (m_ff A (m_steps A m)) = (List.range k).flatMap (m_ff A (m_steps A m)) ++ m_ff A (m_steps A m) k := by
        rw [List.range_succ, List.flatMap_append, List.flatMap_cons, List.flatMap_nil, List.append_nil]
      have hlen : (l1 ++ (List.range k).flatMap (m_ff A (m_steps A m))).length + (m_ff A (m_steps A m) k).length ≤ 300 := by
        rw [hfa, if_pos hkd, List.length_append] at hfl
        have := flat_mono (m_ff A (m_steps A m)) (fun _ => true) (show k + 1 ≤ m_nF A by omega)
        have e1 : ∀ n, (List.range n).filter (fun _ => true) = List.range n := fun n => List.filter_eq_self.mpr (fun _ _ => rfl)
        rw [e1, e1, ekk, List.length_append] at this
        rw [List.length_append]
        omega
      refine bc16_84 l0 (fun q => absurd q (by rw [g2.1.1]; exact nI_ge (by omega) (by omega))) (fun _ => ?_)
      refine bc16_92 (i_2 := k) l0 rfl (by omega) (by rw [(g2.2.1 k (by omega)).1]; exact c_faultsF hI hX g2 (fun v hv => (m_visit_mem hI m v hv).1) (m_rd_len A 1000 _) m2.2.2 p2 (by omega) hlen) ?_
      rintro T3 ⟨w3, p3⟩
      refine bc16_102 ?_
      rw [nI_1]
      refine ih (k + 1) T3 _ (by omega) (w2.tr (w3.wk (by decide))) (m2.cong ?_ (w3 25 (by decide)).2 (w3 26 (by decide)).2 (w3 27 (by decide)).1) hkd ?_
      · rw [(w3 2 (by decide)).1]
      · rw [ekk, ← List.append_assoc]
        exact p3
  -- behind the divisions
  have second : ∀ (T2 : cT) (x3 : Int32) (o4 : Option Value), c_sm [2, 4, 25, 26, 27, 28, 31, 32] T1 T2 → c_fl T2 l1 → cA ext X 3 16 64 [some (cv X 0 (some 0)), some (.int (nI m)), some (cv X 7 (some m)), some (.int x3), o4] [] T2 Q := by
    intro T2 x3 o4 w2 p2
    have g2 := hGk T2 w2
    have hkd := (g2.2.2.1 m hmi).2.1
    have hk1 := hI.2.1.2 m hmi
    refine bc16_64 (hX.m hmi) (fun q => ?_) (fun q => ?_)
    · rw [hkd] at q
      refine fin T2 _ _ w2 ?_
      rw [hfa, if_neg (fun z => q (by rw [z]; rfl)), List.append_nil]
      exact p2
    · rw [hkd] at q
      have hk0 : m_kd A m = 0 := (nI_eq (b := 0) (by omega) (by decide)).mp q
      refine bc16_71 l0 (hX.m hmi) (by rw [(g2.2.2.1 m hmi).2.2.1]; exact c_goThrough hI hX g2 hmi) ?_
      rintro T3 ⟨w3, m3⟩
      refine bc16_82 ?_
      refine files (m_nF A) 0 T3 _ (by omega) (w2.tr (w3.wk (by decide))) m3 hk0 ?_
      show c_fl T3 (l1 ++ [])
      rw [List.append_nil]
      unfold c_fl
      rw [(w3 4 (by decide)).1, (w3 31 (by decide)).1, (w3 32 (by decide)).1]
      exact p2
  -- the divisions
  have divs : ∀ (n k : Nat) (T2 : cT) (o4 : Option Value), k + n = m_nD A → c_sm [2, 4, 25, 26, 27, 28, 31, 32] T1 T2 → c_fl T2 (((List.range k).filter p).flatMap (m_fd A)) → cA ext X 3 16 22 [some (cv X 0 (some 0)), some (.int (nI m)), some (cv X 7 (some m)), some (.int (nI k)), o4] [] T2 Q := by
    intro n
    induction n with
    | zero =>
      intro k T2 o4 hk w2 p2
      have ek : k = m_nD A := by omega
      subst ek
      exact bc16_22 l0 (fun _ => second T2 _ _ w2 (by rw [← hl1]; exact p2)) (fun q => absurd (by rw [(hGk T2 w2).1.2.2]; exact nI_le (Nat.le_refl _) (by omega)) q)
    | succ n ih =>
      intro k T2 o4 hk w2 p2
      have hkD : k < m_nD A := by omega
      have g2 := hGk T2 w2
      have gd := g2.2.2.2.1 k hkD
      have hmM := (hI.2.2.2.1 k hkD).1
      have go : ∀ (T3 : cT), c_sm [2, 4, 25, 26, 27, 28, 31, 32] T1 T3 → c_fl T3 (((List.range (k + 1)).filter p).flatMap (m_fd A)) → cA ext X 3 16 58 [some (cv X 0 (some 0)), some (.int (nI m)), some (cv X 7 (some m)), some (.int (nI k)), some (cv X 8 (some k))] [] T3 Q := by
        intro T3 w3 p3
        refine bc16_58 ?_
        rw [nI_1]
        exact ih (k + 1) T3 _ (by omega) w3 p3
      refine bc16_22 l0 (fun q => absurd q (by rw [g2.1.2.2]; exact nI_ge (by omega) (by omega))) (fun _ => ?_)
      refine bc16_30 (i_2 := k) l0 rfl (by omega) (fun q => by rw [gd.1] at q; cases q) (fun _ _ => ?_)
      rw [gd.1]
      refine bc16_43 (hX.d hkD) (fun q => ?_) (fun q => ?_)
      · rw [gd.2.2.1] at q
        refine go T2 w2 ?_
        rw [fr_succ, hpd, if_neg (fun z => q (by rw [of_decide_eq_true z])), List.append_nil]
        exact p2
      · rw [gd.2.2.1] at q
        have e' : m_mp A k = m := (nI_eq (by omega) (by omega)).mp q
        have ekk : ((List.range (k + 1)).filter p).flatMap (m_fd A) = ((List.range k).filter p).flatMap (m_fd A) ++ m_fd A k := by
          rw [fr_succ, hpd, if_pos (decide_eq_true e'), List.flatMap_append, List.flatMap_cons, List.flatMap_nil, List.append_nil]
        have hlen : (((List.range k).filter p).flatMap (m_fd A)).length + (m_fd A k).length ≤ 300 := by
          have := flat_mono (m_fd A) p (show k + 1 ≤ m_nD A by omega)
          rw [hl1, ekk, List.length_append] at this
          omega
        refine bc16_52 l0 ((c_faultsD hI hX g2 p2 hkD hlen).mono (by decide)) ?_
        rintro T3 ⟨w3, p3⟩
        refine go T3 (w2.tr (w3.wk (by decide))) ?_
        rw [ekk]
        exact p3
  exact divs (m_nD A) 0 T0 _ (by omega) w0 p0
end CCk
