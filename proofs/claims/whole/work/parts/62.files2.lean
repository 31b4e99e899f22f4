/-! THE CLASS'S FAULTS OF FILES -/
def lsum (g : Nat → Nat) : List Nat → Nat
  | [] => 0
  | a :: l => g a + lsum g l
theorem lsum_app (g : Nat → Nat) : ∀ (l1 l2 : List Nat), lsum g (l1 ++ l2) = lsum g l1 + lsum g l2
  | [], l2 => (Nat.zero_add _).symm
  | a :: l1, l2 => by
    show g a + lsum g (l1 ++ l2) = g a + lsum g l1 + lsum g l2
    rw [lsum_app g l1 l2]
    omega
theorem lsum_0 {g : Nat → Nat} : ∀ {l : List Nat}, (∀ t ∈ l, g t = 0) → lsum g l = 0
  | [], _ => rfl
  | a :: l, h => by
    show g a + lsum g l = 0
    rw [h a List.mem_cons_self, lsum_0 (fun t ht => h t (List.mem_cons_of_mem _ ht))]
theorem lsum_mem {g : Nat → Nat} {t : Nat} : ∀ {l : List Nat}, t ∈ l → g t ≤ lsum g l
  | a :: l, h => by
    show g t ≤ g a + lsum g l
    rcases List.mem_cons.mp h with e | h
    · rw [e]; omega
    · have := lsum_mem (g := g) h
      omega
theorem lsum_add (g h : Nat → Nat) : ∀ (l : List Nat), lsum (fun t => g t + h t) l = lsum g l + lsum h l
  | [] => rfl
  | a :: l => by
    show g a + h a + lsum (fun t => g t + h t) l = g a + lsum g l + (h a + lsum h l)
    rw [lsum_add g h l]
    omega
theorem lsum_cg {g h : Nat → Nat} : ∀ {l : List Nat}, (∀ t ∈ l, g t = h t) → lsum g l = lsum h l
  | [], _ => rfl
  | a :: l, e => by
    show g a + lsum g l = h a + lsum h l
    rw [e a List.mem_cons_self, lsum_cg (fun t ht => e t (List.mem_cons_of_mem _ ht))]
theorem lsum_flt (p : Nat → Bool) : ∀ (l : List Nat), lsum (fun t => if p t = true then 1 else 0) l = (l.filter p).length
  | [] => rfl
  | a :: l => by
    show (if p a = true then 1 else 0) + lsum _ l = _
    rw [lsum_flt p l, List.filter_cons]
    by_cases h : p a = true
    · rw [if_pos h, if_pos h, List.length_cons]; omega
    · rw [if_neg h, if_neg h]; omega
theorem flt_rng {α : Type} (P : α → Bool) (d : α) (L : List α) : (L.filter P).length = ((List.range L.length).filter (fun j => P (L.getD j d))).length := by
  have e : L = (List.range L.length).map (fun j => L.getD j d) := by
    apply List.ext_getElem?
    intro i
    rw [List.getElem?_map]
    by_cases h : i < L.length
    · rw [List.getElem?_range h]
      exact getD_some h
    · rw [List.getElem?_eq_none (by omega), List.getElem?_eq_none (by rw [List.length_range]; omega)]
      rfl
  have e2 : (((List.range L.length).map (fun j => L.getD j d)).filter P).length = ((List.range L.length).filter (fun j => P (L.getD j d))).length := by
    rw [List.filter_map, List.length_map]
    rfl
  rw [← e] at e2
  exact e2
/-- a link holds a place -/
def m_cv (A : mS) (x t : Nat) : Bool := decide ((m_lnk A t).2.1 ≤ x) && decide (x < (m_lnk A t).2.2)
def c_fch (A : mS) (f : Nat) (l : List Nat) : Prop := l.Nodup ∧ (∀ t, t ∈ l ↔ (c_lvL A t ∧ (m_lnk A t).1 = f)) ∧ l.Pairwise (fun t u => (m_lnk A t).2.1 ≤ (m_lnk A u).2.1)
theorem m_cov_lks {A : mS} (hI : m_Inv A) {f x : Nat} {l : List Nat} (hl : c_fch A f l) {v : Nat × Nat} (hv : v.1 < m_nD A) : m_cov (m_lks A v) f x = lsum (fun t => if m_cv A x t = true then (if v.1 = t / 5 then 1 else 0) else 0) l := by
  have e1 : lsum (fun t => if m_cv A x t = true then (if v.1 = t / 5 then 1 else 0) else 0) l = lsum (fun t => if (m_cv A x t && decide (v.1 = t / 5)) = true then 1 else 0) l := by
    refine lsum_cg (fun t _ => ?_)
    by_cases a : m_cv A x t = true
    · rw [if_pos a, a, Bool.true_and]
      by_cases b : v.1 = t / 5
      · rw [if_pos b, if_pos (decide_eq_true b)]
      · rw [if_neg b, if_neg (by rw [decide_eq_true_eq]; exact b)]
    · rw [if_neg a]
      have a' : m_cv A x t = false := by
        cases h : m_cv A x t with
        | false => rfl
        | true => exact absurd h a
      rw [a', Bool.false_and, if_neg (by decide)]
  rw [e1, lsum_flt]
  unfold m_cov
  have e2 : ((m_lks A v).filter (m_in f x)).length = ((m_lk A v.1).filter (fun e => m_in f x (v.1, e.1, e.2.1, e.2.2, v.2))).length := by
    unfold m_lks
    rw [List.filter_map, List.length_map]
    rfl
  rw [e2, flt_rng _ (0, 0, 0)]
  have e3 : (((List.range (m_lk A v.1).length).filter (fun j => m_in f x (v.1, ((m_lk A v.1).getD j (0, 0, 0)).1, ((m_lk A v.1).getD j (0, 0, 0)).2.1, ((m_lk A v.1).getD j (0, 0, 0)).2.2, v.2))).map (fun j => 5 * v.1 + j)).length = (l.filter (fun t => m_cv A x t && decide (v.1 = t / 5))).length := by
    refine nd_same ?_ (hl.1.filter _) (fun t => ?_)
    · refine List.Pairwise.map _ ?_ (List.nodup_range.filter _)
      intro a b hab e
      omega
    · rw [List.mem_map, List.mem_filter, hl.2.1]
      constructor
      · rintro ⟨j, hj, rfl⟩
        rw [List.mem_filter, List.mem_range] at hj
        have hje := getD_some (d := (0, 0, 0)) hj.1
        obtain ⟨b1, b2, b3⟩ := m_lnk_at hI hv hje
        have hin := hj.2
        unfold m_in at hin
        rw [Bool.and_eq_true, Bool.and_eq_true, decide_eq_true_eq, decide_eq_true_eq, decide_eq_true_eq] at hin
        refine ⟨⟨⟨v.1, j, _, hv, hje, rfl⟩, by rw [b1]; exact hin.1⟩, ?_⟩
        unfold m_cv
        rw [b1, b2, decide_eq_true hin.2.1, decide_eq_true hin.2.2, decide_eq_true rfl]
        rfl
      · rintro ⟨⟨⟨d, j, e, hd, hje, rfl⟩, hf⟩, hp⟩
        obtain ⟨b1, b2, b3⟩ := m_lnk_at hI hd hje
        rw [Bool.and_eq_true, decide_eq_true_eq, b2] at hp
        obtain ⟨hc, rfl⟩ := hp
        have hjl := (List.getElem?_eq_some_iff.mp hje).1
        have hge : (m_lk A v.1).getD j (0, 0, 0) = e := by rw [List.getD_eq_getElem?_getD, hje]; rfl
        refine ⟨j, ?_, rfl⟩
        rw [List.mem_filter, List.mem_range, hge]
        refine ⟨hjl, ?_⟩
        unfold m_cv at hc
        rw [b1] at hc hf
        unfold m_in
        rw [decide_eq_true hf]
        exact hc
  rw [List.length_map] at e3
  exact e3
theorem m_cov_app2 (s1 s2 : List (Nat × Nat × Nat × Nat × Nat)) (f x : Nat) : m_cov (s1 ++ s2) f x = m_cov s1 f x + m_cov s2 f x := by
  unfold m_cov
  rw [List.filter_append, List.length_append]
theorem m_cov_sum {A : mS} (hI : m_Inv A) {f x : Nat} {l : List Nat} (hl : c_fch A f l) : ∀ (vs : List (Nat × Nat)), (∀ v ∈ vs, v.1 < m_nD A) → m_cov (m_sof A vs) f x = lsum (fun t => if m_cv A x t = true then c_cnt vs (t / 5) else 0) l
  | [], _ => by
    rw [lsum_0 (fun t _ => ?_)]
    · rfl
    · by_cases a : m_cv A x t = true
      · rw [if_pos a]; rfl
      · rw [if_neg a]
  | v :: vs, h => by
    have e : m_sof A (v :: vs) = m_lks A v ++ m_sof A vs := rfl
    rw [e, m_cov_app2, m_cov_lks hI hl (h v List.mem_cons_self), m_cov_sum hI hl vs (fun w hw => h w (List.mem_cons_of_mem _ hw)), ← lsum_add]
    refine lsum_cg (fun t _ => ?_)
    have ec : c_cnt (v :: vs) (t / 5) = (if v.1 = t / 5 then 1 else 0) + c_cnt vs (t / 5) := by
      unfold c_cnt
      rw [List.filter_cons]
      by_cases b : v.1 = t / 5
      · rw [if_pos (decide_eq_true b), if_pos b, List.length_cons]; omega
      · rw [if_neg (by rw [decide_eq_true_eq]; exact b), if_neg b]; omega
    by_cases a : m_cv A x t = true
    · rw [if_pos a, if_pos a, if_pos a, ec]
    · rw [if_neg a, if_neg a, if_neg a]
theorem c_cnt_le (vs : List (Nat × Nat)) (d : Nat) : c_cnt vs d ≤ vs.length := List.length_filter_le _ _
theorem c_lvL_lt {A : mS} (hI : m_Inv A) {t : Nat} (h : c_lvL A t) : t < 600 ∧ t / 5 < m_nD A ∧ (m_lnk A t).1 < m_nF A ∧ (m_lnk A t).2.1 < (m_lnk A t).2.2 ∧ (m_lnk A t).2.2 ≤ 100000 := by
  obtain ⟨d, j, e, hd, hje, rfl⟩ := h
  obtain ⟨b1, b2, b3⟩ := m_lnk_at hI hd hje
  have hD := hI.2.2.1
  have := (hI.2.2.2.2.2.2.1 d hd).2 e (List.mem_of_getElem? hje)
  rw [b1, b2]
  exact ⟨by omega, hd, this⟩
section CFi
variable {ext : av_X} {X : cX} {T : cT} {A : mS}
theorem c_max {a b : Nat} (ha : a < 2147483648) (hb : b < 2147483648) : cCi ext X 0 97 [.int (nI a), .int (nI b)] T (fun v T' => T' = T ∧ v = nI (max a b)) := by
  refine cCi.of (L := [some (.int (nI a)), some (.int (nI b))]) (by rw [ml97]; rfl) ?_
  refine bc97_0 (fun q => ?_) (fun q => ?_)
  · rw [nI_ltI ha hb] at q
    exact bc97_9 (bc97_10 (cQi.e ⟨rfl, by rw [Nat.max_eq_right (by omega)]⟩))
  · rw [nI_ltI ha hb] at q
    exact bc97_5 (bc97_10 (cQi.e ⟨rfl, by rw [Nat.max_eq_left (by omega)]⟩))
theorem c_link_at (hI : m_Inv A) (hX : c_X A X) (h : c_G A T) {t : Nat} (ht : c_lvL A t) : X.2.1 9 t ∧ T.2 9 t 0 = some (t / 5) ∧ T.2 9 t 1 = some (m_lnk A t).1 ∧ T.1 9 t 2 = nI (m_lnk A t).2.1 ∧ T.1 9 t 3 = nI (m_lnk A t).2.2 := by
  refine ⟨(hX 9 t).mpr ht, ?_⟩
  obtain ⟨d, j, e, hd, hje, rfl⟩ := ht
  obtain ⟨b1, b2, b3⟩ := m_lnk_at hI hd hje
  have := h.2.2.2.2.2.1 d j e hd hje
  rw [b1, b2]
  exact this.2
theorem c_times (hI : m_Inv A) (hX : c_X A X) (h : c_G A T) {vs : List (Nat × Nat)} (hm : ∀ d, d < m_nD A → T.1 27 0 d = nI (c_cnt vs d)) {t : Nat} (ht : c_lvL A t) : cCi ext X 0 61 [cv X 9 (some t), cv X 27 (some 0)] T (fun v T' => T' = T ∧ v = nI (c_cnt vs (t / 5))) := by
  have l27 := hX.z (s := 27) (by decide)
  have hD := hI.2.2.1
  obtain ⟨a1, a2, -⟩ := c_link_at hI hX h ht
  have hd := (c_lvL_lt hI ht).2.1
  have h0 := (h.2.2.2.1 _ hd).2.1
  refine cCi.of (L := [some (cv X 9 (some t)), some (cv X 27 (some 0)), none]) (by rw [ml61]; rfl) ?_
  refine bc61_0 (b_2 := t / 5) a1 a2 (fun q => absurd q (by rw [h0]; exact nI_pos (by omega))) (fun _ => ?_)
  rw [h0]
  refine bc61_12 l27 (fun _ => bc61_22 (i_2 := t / 5) l27 rfl (by omega) ?_) (fun q => absurd ((nI_ltI (by omega) (by decide)).mpr (show t / 5 < 120 by omega)) q)
  rw [hm _ hd]
  exact bc61_25 (cQi.e ⟨rfl, rfl⟩)
theorem c_twice (hI : m_Inv A) (hX : c_X A X) (h : c_G A T) {vs : List (Nat × Nat)} (hvs : ∀ v ∈ vs, v.1 < m_nD A) (hvl : vs.length ≤ 1000) (hm : ∀ d, d < m_nD A → T.1 27 0 d = nI (c_cnt vs d)) {f : Nat} (hf : f < m_nF A) : cCi ext X 1 47 [cv X 6 (some f), cv X 27 (some 0)] T (fun v T' => T' = T ∧ v = bI (m_twi (m_sof A vs) f (m_fz A f))) := by
  obtain ⟨l, h2, hch, hnd, hmem, hsort⟩ := h.2.2.2.2.2.2 f hf
  have hl : c_fch A f l := ⟨hnd, hmem, hsort⟩
  have hsum : ∀ x, m_cov (m_sof A vs) f x = lsum (fun t => if m_cv A x t = true then c_cnt vs (t / 5) else 0) l := fun x => m_cov_sum hI hl vs hvs
  have hll : l.length ≤ 600 := nd_len _ _ hnd (fun t ht => (c_lvL_lt hI ((hmem t).mp ht).1).1)
  have hsz := hI.1.2 f hf
  have g6 := (h.2.1 f hf).2.2
  refine cCi.of (L := [some (cv X 6 (some f)), some (cv X 27 (some 0)), none, none, none, none]) (by rw [ml47]; rfl) ?_
  refine bc47_0 (hX.f hf) ?_
  rw [h2]
  generalize hQ : cQi X (fun v T' => T' = T ∧ v = bI (m_twi (m_sof A vs) f (m_fz A f))) = Q
  have loop : ∀ (l2 l1 : List Nat) (re : Nat) (o5 : Option Value), l = l1 ++ l2 → re ≤ 100000 → (∀ t ∈ l1, 0 < c_cnt vs (t / 5) → (m_lnk A t).2.2 ≤ re) → (re = 0 ∨ ∃ t ∈ l1, 0 < c_cnt vs (t / 5) ∧ (m_lnk A t).2.2 = re) → (∀ x, x < m_fz A f → lsum (fun t => if m_cv A x t = true then c_cnt vs (t / 5) else 0) l1 ≤ 1) → cA ext X 1 47 10 [some (cv X 6 (some f)), some (cv X 27 (some 0)), some (.int (nI re)), some (cv X 9 l2.head?), some (.int (nI l1.length)), o5] [] T Q := by
    intro l2
    induction l2 with
    | nil =>
      intro l1 re o5 he hre hto hex hle
      have fin : cA ext X 1 47 88 [some (cv X 6 (some f)), some (cv X 27 (some 0)), some (.int (nI re)), some (cv X 9 ([] : List Nat).head?), some (.int (nI l1.length)), o5] [] T Q := by
        refine bc47_88 ?_
        rw [← hQ]
        refine cQi.e ⟨rfl, ?_⟩
        cases hc : m_twi (m_sof A vs) f (m_fz A f) with
        | false => rfl
        | true =>
          obtain ⟨x, hx, hx2⟩ := m_twi_iff.mp hc
          rw [hsum, he, List.append_nil] at hx2
          have := hle x hx
          omega
      exact bc47_10 (fun _ => fin) (fun _ => bc47_18 (fun _ => fin) (fun _ q => by cases q))
    | cons t l2 ih =>
      intro l1 re o5 he hre hto hex hle
      have htm : t ∈ l := by rw [he]; simp
      have htl := ((hmem t).mp htm).1
      obtain ⟨a1, a2, a3, a4, a5⟩ := c_link_at hI hX h htl
      obtain ⟨b1, b2, b3, b4, b5⟩ := c_lvL_lt hI htl
      have hcl := c_cnt_le vs (t / 5)
      have hlen : l1.length < 600 := by
        rw [he, List.length_append] at hll
        have : l1.length + (l2.length + 1) ≤ 600 := hll
        omega
      have hs1 : ∀ u ∈ l1, (m_lnk A u).2.1 ≤ (m_lnk A t).2.1 := fun u hu => by
        rw [he, List.pairwise_append] at hsort
        exact hsort.2.2 u hu t List.mem_cons_self
      have hs2 : ∀ u ∈ l2, (m_lnk A t).2.1 ≤ (m_lnk A u).2.1 := fun u hu => by
        rw [he, List.pairwise_append, List.pairwise_cons] at hsort
        exact hsort.2.1.1 u hu
      refine bc47_10 (fun q => absurd q (nI_ge (b := 600) hlen (by decide))) (fun _ => bc47_18 (fun q => by cases q) (fun _ _ => bc47_22 (hX.f hf) a1 (fun q => ?_) (fun q => ?_)))
      · -- behind the size
        rw [g6, a4, nI_leI (by omega) (by omega)] at q
        refine bc47_88 ?_
        rw [← hQ]
        refine cQi.e ⟨rfl, ?_⟩
        cases hc : m_twi (m_sof A vs) f (m_fz A f) with
        | false => rfl
        | true =>
          obtain ⟨x, hx, hx2⟩ := m_twi_iff.mp hc
          rw [hsum, he, lsum_app] at hx2
          have e0 : lsum (fun t => if m_cv A x t = true then c_cnt vs (t / 5) else 0) (t :: l2) = 0 := by
            refine lsum_0 (fun u hu => if_neg (fun z => ?_))
            unfold m_cv at z
            rw [Bool.and_eq_true, decide_eq_true_eq] at z
            rcases List.mem_cons.mp hu with e | hu
            · rw [e] at z; omega
            · have := hs2 u hu
              omega
          have := hle x hx
          omega
      · rw [g6, a4, nI_leI (by omega) (by omega)] at q
        have hcov : m_cv A (m_lnk A t).2.1 t = true := by
          unfold m_cv
          rw [decide_eq_true (Nat.le_refl _), decide_eq_true b4]
          rfl
        have yes : ∀ (x4 x5 : Int32), 1 < m_cov (m_sof A vs) f (m_lnk A t).2.1 → cA ext X 1 47 60 [some (cv X 6 (some f)), some (cv X 27 (some 0)), some (.int (nI re)), some (cv X 9 (some t)), some (.int x4), some (.int x5)] [] T Q := by
          intro x4 x5 hh
          refine bc47_60 ?_
          rw [← hQ]
          refine cQi.e ⟨rfl, ?_⟩
          rw [m_twi_iff.mpr ⟨(m_lnk A t).2.1, by omega, hh⟩]
          rfl
        have hadv : ∀ (re' : Nat) (x5 : Int32), re' ≤ 100000 → (∀ u ∈ l1 ++ [t], 0 < c_cnt vs (u / 5) → (m_lnk A u).2.2 ≤ re') → (re' = 0 ∨ ∃ u ∈ l1 ++ [t], 0 < c_cnt vs (u / 5) ∧ (m_lnk A u).2.2 = re') → (∀ x, x < m_fz A f → lsum (fun t => if m_cv A x t = true then c_cnt vs (t / 5) else 0) (l1 ++ [t]) ≤ 1) → cA ext X 1 47 77 [some (cv X 6 (some f)), some (cv X 27 (some 0)), some (.int (nI re')), some (cv X 9 (some t)), some (.int (nI l1.length)), some (.int x5)] [] T Q := by
          intro re' x5 c1 c2 c3 c4
          refine bc47_77 a1 ?_
          rw [hch l1 t l2 he, nI_1]
          have := ih (l1 ++ [t]) re' (some (.int x5)) (by rw [he, List.append_assoc]; rfl) c1 c2 c3 c4
          rw [List.length_append] at this
          exact this
        refine bc47_33 a1 (c_times hI hX h hm htl) ?_
        rintro v T1 ⟨rfl, rfl⟩
        refine bc47_38 (fun q1 => ?_) (fun q1 => ?_)
        · have q1' : 1 < c_cnt vs (t / 5) := (nI_ltI (a := 1) (by decide) (by omega)).mp q1
          refine yes _ _ ?_
          rw [hsum]
          have := lsum_mem (g := fun u => if m_cv A (m_lnk A t).2.1 u = true then c_cnt vs (u / 5) else 0) htm
          rw [if_pos hcov] at this
          omega
        · have q1' : ¬ 1 < c_cnt vs (t / 5) := fun z => q1 ((nI_ltI (a := 1) (by decide) (by omega)).mpr z)
          by_cases c1 : c_cnt vs (t / 5) = 1
          · refine bc47_46 (fun q2 => absurd (by rw [c1]; rfl) q2) (fun _ => bc47_52 a1 (fun q3 => ?_) (fun q3 => ?_))
            · rw [a4, nI_leI (by omega) (by omega)] at q3
              refine bc47_62 (fun q2 => absurd (by rw [c1]; rfl) q2) (fun _ => bc47_68 a1 (by rw [a5]; exact c_max (by omega) (by omega)) ?_)
              rintro v T2 ⟨rfl, rfl⟩
              refine bc47_76 (hadv _ _ (Nat.max_le.mpr ⟨hre, b5⟩) (fun u hu hc => ?_) (Or.inr ⟨t, by simp, by omega, ?_⟩) (fun x hx => ?_))
              · rcases List.mem_append.mp hu with hu | hu
                · exact Nat.le_trans (hto u hu hc) (Nat.le_max_left _ _)
                · rw [List.mem_singleton.mp hu]; exact Nat.le_max_right _ _
              · rw [Nat.max_eq_right (by omega)]
              · rw [lsum_app]
                show _ + ((if m_cv A x t = true then c_cnt vs (t / 5) else 0) + 0) ≤ 1
                by_cases cx : m_cv A x t = true
                · rw [if_pos cx, c1]
                  have e0 : lsum (fun t => if m_cv A x t = true then c_cnt vs (t / 5) else 0) l1 = 0 := by
                    refine lsum_0 (fun u hu => ?_)
                    by_cases cu : m_cv A x u = true
                    · rw [if_pos cu]
                      refine Nat.eq_zero_of_not_pos (fun hp => ?_)
                      have r1 := hto u hu hp
                      unfold m_cv at cu cx
                      rw [Bool.and_eq_true, decide_eq_true_eq, decide_eq_true_eq] at cu cx
                      omega
                    · rw [if_neg cu]
                  omega
                · rw [if_neg cx]
                  have := hle x hx
                  omega
            · rw [a4, nI_leI (by omega) (by omega)] at q3
              refine yes _ _ ?_
              rcases hex with h0 | ⟨u, hu, hc, hto2⟩
              · omega
              · rw [hsum, he, lsum_app]
                have r1 := lsum_mem (g := fun u => if m_cv A (m_lnk A t).2.1 u = true then c_cnt vs (u / 5) else 0) hu
                have r2 := lsum_mem (g := fun u => if m_cv A (m_lnk A t).2.1 u = true then c_cnt vs (u / 5) else 0) (List.mem_cons_self (a := t) (l := l2))
                have cu : m_cv A (m_lnk A t).2.1 u = true := by
                  unfold m_cv
                  rw [decide_eq_true (hs1 u hu), decide_eq_true (show (m_lnk A t).2.1 < (m_lnk A u).2.2 by omega)]
                  rfl
                rw [if_pos cu] at r1
                rw [if_pos hcov] at r2
                omega
          · have c0 : c_cnt vs (t / 5) = 0 := by omega
            have n1 : ¬ nI (c_cnt vs (t / 5)) = 1 := fun z => c1 ((nI_eq (b := 1) (by omega) (by decide)).mp z)
            refine bc47_46 (fun _ => bc47_62 (fun _ => hadv re _ hre (fun u hu hc => ?_) ?_ (fun x hx => ?_)) (fun q2 => absurd q2 n1)) (fun q2 => absurd q2 n1)
            · rcases List.mem_append.mp hu with hu | hu
              · exact hto u hu hc
              · rw [List.mem_singleton.mp hu, c0] at hc; omega
            · rcases hex with h0 | ⟨u, hu, hc⟩
              · exact Or.inl h0
              · exact Or.inr ⟨u, List.mem_append_left _ hu, hc⟩
            · rw [lsum_app]
              show _ + ((if m_cv A x t = true then c_cnt vs (t / 5) else 0) + 0) ≤ 1
              rw [c0, ite_self]
              exact hle x hx
  exact loop l [] 0 _ rfl (by omega) (fun t ht => by cases ht) (Or.inl rfl) (fun x _ => Nat.zero_le _)
end CFi
