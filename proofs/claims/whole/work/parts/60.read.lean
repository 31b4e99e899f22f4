/-! THE CLASS'S CALL: read -/
theorem c_cnt_app (vs : List (Nat × Nat)) (v : Nat × Nat) (d : Nat) : c_cnt (vs ++ [v]) d = c_cnt vs d + (if v.1 = d then 1 else 0) := by
  unfold c_cnt
  rw [List.filter_append, List.length_append]
  by_cases h : v.1 = d
  · rw [if_pos h, List.filter_cons, if_pos (decide_eq_true h)]; rfl
  · rw [if_neg h, List.filter_cons, if_neg (by rw [decide_eq_true_eq]; exact h)]; rfl
theorem c_op.cong {T T' : cT} {ro : List Nat} (h : c_op T ro) (h1 : T'.1 2 0 5 = T.1 2 0 5) (h2 : T'.2 28 = T.2 28) : c_op T' ro := ⟨by rw [h1]; exact h.1, fun i r hr => by rw [h2]; exact h.2 i r hr⟩
theorem c_met.cong {A : mS} {T T' : cT} {vs : List (Nat × Nat)} (h : c_met A T vs) (h1 : T'.1 2 0 2 = T.1 2 0 2) (h2 : T'.2 25 = T.2 25) (h3 : T'.2 26 = T.2 26) (h4 : T'.1 27 = T.1 27) : c_met A T' vs := ⟨by rw [h1]; exact h.1, by rw [h2, h3]; exact h.2.1, by rw [h4]; exact h.2.2⟩
theorem oset_k (T : cT) {s s' : Nat} (i k : Nat) (o : Option Nat) (h : s' ≠ s) : (oset T s i k o).2 s' = T.2 s' := by
  funext i' k'
  exact oset_n _ _ (fun q => h q.1)
theorem iset_k (T : cT) {s s' : Nat} (i k : Nat) (x : Int32) (h : s' ≠ s) : (iset T s i k x).1 s' = T.1 s' := by
  funext i' k'
  exact iset_n _ _ (fun q => h q.1)
section CRe
variable {ext : av_X} {X : cX} {T : cT} {A : mS}
theorem c_fill (hX : c_X A X) : cCv ext X 0 96 [cv X 27 (some 0), .int 0] T (fun T' => c_sm [27] T T' ∧ ∀ i, i < 120 → T'.1 27 0 i = 0) := by
  have l27 := hX.z (s := 27) (by decide)
  refine cCv.of (L := [some (cv X 27 (some 0)), some (.int 0), none, none]) (by rw [ml96]; rfl) ?_
  refine bc96_0 l27 ?_
  have loop : ∀ (n k : Nat) (T1 : cT), k + n = 120 → c_sm [27] T T1 → (∀ i, i < k → T1.1 27 0 i = 0) → cA ext X 0 96 5 [some (cv X 27 (some 0)), some (.int 0), some (.int (nI k)), some (.int (nI 120))] [] T1 (cQv X (fun T' => c_sm [27] T T' ∧ ∀ i, i < 120 → T'.1 27 0 i = 0)) := by
    intro n
    induction n with
    | zero =>
      intro k T1 hk w h
      refine bc96_5 (fun _ => bc96_20 (cQv.e ⟨w, fun i hi => h i (by omega)⟩)) (fun q => absurd (nI_le (by omega) (by omega)) q)
    | succ n ih =>
      intro k T1 hk w h
      refine bc96_5 (fun q => absurd q (nI_ge (by omega) (by decide))) (fun _ => bc96_10 (i_2 := k) l27 rfl (by omega) ?_)
      rw [nI_1]
      refine ih (k + 1) _ (by omega) (w.i _ _ _ (by decide)) (fun i hi => ?_)
      by_cases e : i = k
      · subst e; exact iset_s _ _ _ _ _
      · rw [iset_n _ _ (fun q => e q.2.2)]
        exact h i (by omega)
  exact loop 120 0 T (by omega) (c_sm.rf _ _) (fun i hi => by omega)
theorem c_meet (hI : m_Inv A) (hX : c_X A X) (h : c_G A T) {ro : List Nat} {vs : List (Nat × Nat)} (ho : c_op T ro) (hrl : ∀ r ∈ ro, r < m_nD A) (hro : ro.length < 120) (hv : c_met A T vs) (hvl : vs.length < 1000) {x : Nat} (hx : x < m_nD A) : cCv ext X 0 31 [cv X 2 (some 0), cv X 8 (some x)] T (fun T' => c_sm [2, 25, 26, 27, 28] T T' ∧ c_op T' ro ∧ c_met A T' (vs ++ [(x, ro.getLast?.getD x)])) := by
  have l2 := hX.z (s := 2) (by decide)
  have l26 := hX.z (s := 26) (by decide)
  have hD := hI.2.2.1
  refine cCv.of (L := [some (cv X 2 (some 0)), some (cv X 8 (some x))]) (by rw [ml31]; rfl) ?_
  have h0 : T.1 8 x 0 = nI x := (h.2.2.2.1 x hx).2.1
  refine bc31_0 l2 (fun q => absurd q (by rw [hv.1]; exact nI_ge hvl (by decide))) (fun _ => bc31_12 (hX.d hx) (fun q => absurd q (by rw [h0]; exact nI_pos (by omega))) (fun _ => bc31_19 l2 (hX.d hx) (fun _ => ?_) (fun q => absurd (by rw [h0, nI_ltI (by omega) (by decide)]; omega) q)))
  have e2 : (oset T 25 0 vs.length (some x)).1 = T.1 := rfl
  -- where it came
  have last : ∀ (z : Nat), z < m_nD A → z = ro.getLast?.getD x → cA ext X 0 31 67 [some (cv X 2 (some 0)), some (cv X 8 (some x))] [cv X 8 (some z), .int (nI vs.length), cv X 26 (some 0)] (oset T 25 0 vs.length (some x)) (cQv X (fun T' => c_sm [2, 25, 26, 27, 28] T T' ∧ c_op T' ro ∧ c_met A T' (vs ++ [(x, ro.getLast?.getD x)]))) := by
    intro z hz ez
    obtain ⟨T1, hT1⟩ : ∃ T1, oset (oset T 25 0 vs.length (some x)) 26 0 vs.length (some z) = T1 := ⟨_, rfl⟩
    have w1 : c_sm [2, 25, 26, 27, 28] T T1 := by rw [← hT1]; exact ((c_sm.rf _ T).o _ _ _ (by decide)).o _ _ _ (by decide)
    have f1 : T1.1 = T.1 := by rw [← hT1]; rfl
    have f25 : T1.2 25 = (oset T 25 0 vs.length (some x)).2 25 := by rw [← hT1]; exact oset_k _ _ _ _ (by decide)
    have f26 : ∀ i, T1.2 26 0 i = if i = vs.length then some z else T.2 26 0 i := fun i => by
      rw [← hT1]
      by_cases e : i = vs.length
      · subst e; rw [if_pos rfl]; exact oset_s _ _ _ _ _
      · rw [if_neg e, oset_n _ _ (fun q => e q.2.2), oset_n _ _ (fun q => by omega)]
    have f28 : T1.2 28 = T.2 28 := by rw [← hT1, oset_k _ _ _ _ (by decide), oset_k _ _ _ _ (by decide)]
    refine bc31_67 (i_4 := vs.length) (i_8 := x) l2 (hX.d hx) l26 rfl hvl (fun j hj => by cases hj; exact hX.d hz) (by rw [hT1, iset_n _ _ (by omega), f1]; exact h0) (by omega) ?_
    rw [hT1, f1]
    refine cQv.e ⟨(w1.i _ _ _ (by decide)).i _ _ _ (by decide), ho.cong ?_ f28, ?_, fun i v hi => ?_, fun d hd => ?_⟩
    · rw [iset_n _ _ (by omega), iset_n _ _ (by omega), f1]
    · rw [iset_n _ _ (by omega), iset_s, hv.1, nI_1, List.length_append]
      rfl
    · rw [iset_2, iset_2, f25, f26]
      by_cases c1 : i < vs.length
      · rw [List.getElem?_append_left c1] at hi
        rw [if_neg (by omega), oset_n _ _ (by omega)]
        exact hv.2.1 i v hi
      · rw [List.getElem?_append_right (by omega)] at hi
        have hj : i - vs.length < 1 := (List.getElem?_eq_some_iff.mp hi).1
        have ej : i = vs.length := by omega
        subst ej
        rw [Nat.sub_self] at hi
        cases hi
        rw [if_pos rfl, oset_s, ez]
        exact ⟨rfl, rfl⟩
    · rw [c_cnt_app]
      by_cases e : x = d
      · subst e
        rw [iset_s, iset_n _ _ (by omega), f1, hv.2.2 x hd, if_pos rfl, nI_1]
      · rw [iset_n _ _ (fun q => e q.2.2.symm), iset_n _ _ (by omega), f1, hv.2.2 d hd, if_neg (show ¬ (x, ro.getLast?.getD x).1 = d from e)]
        rfl
  refine bc31_32 (i_2 := vs.length) l2 hv.1 hvl (fun j hj => by cases hj; exact hX.d hx) (fun q => ?_) (fun q => ?_)
  · have e0 : ro = [] := by
      cases ro with
      | nil => rfl
      | cons r ro =>
        have hro' : ro.length + 1 < 120 := hro
        have h5 : T.1 2 0 5 = nI (ro.length + 1) := ho.1
        rw [e2, h5] at q
        exact absurd q (nI_nle (by omega) (by omega))
    refine bc31_66 ?_
    rw [e2, hv.1]
    exact last x hx (by rw [e0]; rfl)
  · cases hr : ro.getLast? with
    | none =>
      have e0 : ro = [] := List.getLast?_eq_none_iff.mp hr
      rw [e2, ho.1, e0] at q
      exact absurd (by decide) q
    | some z =>
      have hz : z ∈ ro := List.mem_of_getLast? hr
      have h28 : T.2 28 0 0 = some z := ho.2 0 z (by
        rw [← List.head?_eq_getElem?, List.head?_reverse]
        exact hr)
      refine bc31_57 l2 ?_
      rw [e2, hv.1, show (oset T 25 0 vs.length (some x)).2 28 0 0 = some z from (oset_n _ _ (by omega)).trans h28]
      have last' := last z (hrl z hz) (by rw [hr]; rfl)
      rw [hr] at last'
      exact last'
theorem c_enter (hI : m_Inv A) (hX : c_X A X) (h : c_G A T) {ro : List Nat} (ho : c_op T ro) (hro : ro.length < 120) {x : Nat} (hx : x < m_nD A) : cCr ext X 8 0 32 [cv X 2 (some 0), cv X 8 (some x)] T (fun o T' => c_sm [2, 28] T T' ∧ T'.1 2 0 2 = T.1 2 0 2 ∧ c_op T' (x :: ro) ∧ o = m_rp A x) := by
  have l2 := hX.z (s := 2) (by decide)
  refine cCr.of (L := [some (cv X 2 (some 0)), some (cv X 8 (some x))]) (by rw [ml32]; rfl) ?_
  refine bc32_0 l2 (fun _ => ?_) (fun q => absurd (by rw [ho.1, nI_ltI (by omega) (by decide)]; exact hro) q)
  refine bc32_14 (i_3 := ro.length) l2 (hX.d hx) ho.1 hro ?_
  refine cQr.e ⟨((c_sm.rf _ T).o _ _ _ (by decide)).i _ _ _ (by decide), iset_n _ _ (by omega), ⟨?_, fun i r hr => ?_⟩, ?_⟩
  · rw [iset_s, oset_1, ho.1, nI_1]
    rfl
  · rw [iset_2]
    rw [List.reverse_cons] at hr
    by_cases c : i < ro.length
    · rw [List.getElem?_append_left (by rw [List.length_reverse]; exact c)] at hr
      rw [oset_n _ _ (by omega)]
      exact ho.2 i r hr
    · rw [List.getElem?_append_right (by rw [List.length_reverse]; omega), List.length_reverse] at hr
      have hj : i - ro.length < 1 := (List.getElem?_eq_some_iff.mp hr).1
      have ej : i = ro.length := by omega
      subst ej
      rw [Nat.sub_self] at hr
      cases hr
      exact oset_s _ _ _ _ _
  · rw [iset_2, oset_n _ _ (by omega)]
    exact (h.2.2.2.1 x hx).2.2.2.2.2.2.2
theorem c_goThrough (hI : m_Inv A) (hX : c_X A X) (h : c_G A T) {m : Nat} (hm : m < m_nM A) : cCv ext X 2 30 [cv X 2 (some 0), cv X 8 (some (1000 + m))] T (fun T' => c_sm [2, 25, 26, 27, 28] T T' ∧ c_met A T' (m_visit A m)) := by
  have l2 := hX.z (s := 2) (by decide)
  have hD := hI.2.2.1
  have hJ := hI.J
  refine cCv.of (L := [some (cv X 2 (some 0)), some (cv X 8 (some (1000 + m))), none, none]) (by rw [ml30]; rfl) ?_
  refine bc30_0 l2 ((c_fill hX).mono (by decide)) ?_
  rintro T1 ⟨w1, z1⟩
  have w1' : c_sm [2, 25, 26, 27, 28] T (iset (iset T1 2 0 2 0) 2 0 5 0) := ((w1.wk (by decide)).i _ _ _ (by decide)).i _ _ _ (by decide)
  have hGk : ∀ T2, c_sm [2, 25, 26, 27, 28] T T2 → c_G A T2 := fun T2 w => w.G h (by decide)
  refine bc30_8 l2 (hX.c (c := .inr m) hm) ((c_next0 hX (hGk _ w1') (top := .inr m) hm).mono (by decide)) ?_
  rintro o T2 ⟨rfl, rfl⟩
  refine bc30_23 ?_
  have o1 : c_op (iset (iset T1 2 0 2 0) 2 0 5 0) [] := ⟨iset_s _ _ _ _ _, fun i r hr => by cases hr⟩
  have m1 : c_met A (iset (iset T1 2 0 2 0) 2 0 5 0) [] := by
    refine ⟨?_, fun i v hv => ?_, fun d hd => ?_⟩
    · rw [iset_n _ _ (by omega), iset_s]
      rfl
    · cases hv
    · rw [iset_n _ _ (by omega), iset_n _ _ (by omega), z1 d (by omega)]
      rfl
  generalize iset (iset T1 2 0 2 0) 2 0 5 0 = T2 at w1' o1 m1
  have loop : ∀ (n : Nat) (vs : List (Nat × Nat)) (ro seg : List Nat) (pl : List (Nat × Option Nat)) (T3 : cT), vs.length + n = 1000 → m_visit A m = vs ++ m_rd A n (seg.map (fun z => (z, ro.getLast?)) ++ pl) → c_rem A m ro pl → c_cu A (c_tp A m ro) seg → (seg = [] → ro = []) → c_sm [2, 25, 26, 27, 28] T T3 → c_op T3 ro → c_met A T3 vs → cA ext X 2 30 26 [some (cv X 2 (some 0)), some (cv X 8 (some (1000 + m))), some (cv X 8 seg.head?), some (.int (nI vs.length))] [] T3 (cQv X (fun T' => c_sm [2, 25, 26, 27, 28] T T' ∧ c_met A T' (m_visit A m))) := by
    intro n
    induction n with
    | zero =>
      intro vs ro seg pl T3 hn hvis hrem hcu hnil w3 o3 m3
      have e : m_visit A m = vs := by rw [hvis]; exact List.append_nil _
      refine bc30_26 (fun _ => bc30_70 (cQv.e ⟨w3, by rw [e]; exact m3⟩)) (fun q => absurd (nI_le (a := 1000) (by omega) (by omega)) q)
    | succ n ih =>
      intro vs ro seg pl T3 hn hvis hrem hcu hnil w3 o3 m3
      refine bc30_26 (fun q => absurd q (nI_ge (b := 1000) (by omega) (by decide))) (fun _ => ?_)
      cases seg with
      | nil =>
        have e0 := hnil rfl
        subst e0
        have e1 : pl = [] := hrem
        subst e1
        have e : m_visit A m = vs := by rw [hvis]; exact List.append_nil _
        exact bc30_33 (fun _ => bc30_70 (cQv.e ⟨w3, by rw [e]; exact m3⟩)) (fun _ q => by cases q)
      | cons x st =>
        obtain ⟨hx, hs⟩ := hcu x st rfl
        have hrl := c_rem_len hI hx hrem hs
        obtain ⟨rk, hr⟩ := m_rank hI
        have hall := (c_rem_rk hr hJ ro pl x st hx hrem hs).2
        refine bc30_33 (fun q => by cases q) (fun _ _ => bc30_37 l2 ((c_meet hI hX (hGk T3 w3) o3 (fun r hr => hall r (List.mem_cons_of_mem _ hr)) (by omega) m3 (by omega) hx).mono (by decide)) ?_)
        rintro T4 ⟨w4, o4, m4⟩
        have w4' := w3.tr w4
        have g4 := hGk T4 w4'
        have h9 := (g4.2.2.2.1 x hx).2.2.2.2.2.2.2
        have el : (vs ++ [(x, ro.getLast?.getD x)]).length = vs.length + 1 := by rw [List.length_append]; rfl
        have hvis2 : m_visit A m = (vs ++ [(x, ro.getLast?.getD x)]) ++ m_rd A n (match m_rp A x with
            | some r => (r, some (ro.getLast?.getD x)) :: (st.map (fun z => (z, ro.getLast?)) ++ pl)
            | none => (m_kids A (.inl x)).map (fun z => (z, ro.getLast?)) ++ (st.map (fun z => (z, ro.getLast?)) ++ pl)) := by
          rw [hvis, List.append_assoc]
          rfl
        refine bc30_42 (hX.d hx) (fun q => ?_) (fun r q => ?_)
        · rw [h9] at q
          rw [q] at hvis2
          refine bc30_57 l2 (c_behind hI hX g4 hm hrem o4 hx hs) ?_
          rintro o T5 ⟨⟨k5, rfl⟩, ro', seg', pl', he, hrem', o5, hcu', hnil', rfl⟩
          refine bc30_63 ?_
          rw [nI_1]
          have e9 : (m_kids A (.inl x)).map (fun z => (z, ro.getLast?)) ++ (st.map (fun z => (z, ro.getLast?)) ++ pl) = seg'.map (fun z => (z, ro'.getLast?)) ++ pl' := by rw [← he, List.map_append, List.append_assoc]
          have := ih (vs ++ [(x, ro.getLast?.getD x)]) ro' seg' pl' (iset T4 2 0 5 k5) (by rw [el]; omega) (hvis2.trans (congrArg (fun z => (vs ++ [(x, ro.getLast?.getD x)]) ++ m_rd A n z) e9)) hrem' hcu' hnil' (w4'.i _ _ _ (by decide)) o5 (m4.cong (iset_n _ _ (by omega)) rfl rfl (iset_k _ _ _ _ (by decide)))
          rw [el] at this
          exact this
        · rw [h9] at q
          rw [q] at hvis2
          refine bc30_49 l2 ((c_enter hI hX g4 o4 (by omega) hx).mono (by decide)) ?_
          rintro o T5 ⟨w5, e5, o5, rfl⟩
          refine bc30_54 (bc30_63 ?_)
          rw [nI_1, q]
          have hrb := hI.2.2.2.2.2.1 x hx r q
          have e8 : (x :: ro).getLast? = some (ro.getLast?.getD x) := List.getLast?_cons
          have := ih (vs ++ [(x, ro.getLast?.getD x)]) (x :: ro) [r] (st.map (fun z => (z, ro.getLast?)) ++ pl) T5 (by rw [el]; omega) (hvis2.trans (congrArg (fun z => (vs ++ [(x, ro.getLast?.getD x)]) ++ m_rd A n ((r, z) :: (st.map (fun z => (z, ro.getLast?)) ++ pl))) e8.symm)) ⟨st, pl, hx, ⟨r, q⟩, hs, rfl, hrem⟩ (by
            intro y st' e
            cases e
            refine ⟨hrb.1, Or.inl ⟨?_, rfl⟩⟩
            rw [c_tp_c ro q]) (fun e => by cases e) (w4'.tr (w5.wk (by decide))) o5 (m4.cong e5 (w5 25 (by decide)).2 (w5 26 (by decide)).2 (w5 27 (by decide)).1)
          rw [el] at this
          exact this
  refine loop 1000 [] [] _ [] T2 rfl ?_ rfl (c_cu_of (c_cur_0 _)) (fun _ => rfl) w1' o1 m1
  rw [List.append_nil]
  rfl
end CRe
