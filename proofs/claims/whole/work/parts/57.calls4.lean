/-! THE CLASS'S CALL: print -/
theorem char_c : ∀ c, c < 128 → (nI c).toUInt32.toUInt16.toUInt32.toInt32 = nI c ∧ ((nI c).toUInt32 % 65536).toInt32 = nI c := by decide +kernel
def c_pl (T : cT) (l : List Nat) : Prop := T.1 5 0 1 = nI l.length ∧ ∀ i c, l[i]? = some c → T.1 33 0 i = nI c
section CP
variable {ext : av_X} {X : cX} {T : cT} {A : mS}
theorem c_put (hX : c_X A X) {l : List Nat} (h : c_pl T l) (hl : l.length < 7860) {c : Nat} (hc : c < 128) : cCv ext X 0 43 [cv X 5 (some 0), .int (nI c)] T (fun T' => c_sm [5, 33] T T' ∧ c_pl T' (l ++ [c])) := by
  have l5 := hX.z (s := 5) (by decide)
  refine cCv.of (L := [some (cv X 5 (some 0)), some (.int (nI c))]) (by rw [ml43]; rfl) ?_
  refine bc43_0 l5 (fun q => absurd q (by rw [h.1]; exact nI_ge hl (by decide))) (fun _ => ?_)
  refine bc43_12 (i_2 := l.length) l5 h.1 hl (bc43_32 (cQv.e ⟨((c_sm.rf _ T).i _ _ _ (by decide)).i _ _ _ (by decide), ?_, fun i x hx => ?_⟩))
  · rw [iset_s, iset_n _ _ (by omega), h.1, nI_1, List.length_append]
    rfl
  · rw [iset_n _ _ (by omega)]
    by_cases c1 : i < l.length
    · rw [List.getElem?_append_left c1] at hx
      rw [iset_n _ _ (by omega)]
      exact h.2 i x hx
    · rw [List.getElem?_append_right (by omega)] at hx
      have hj : i - l.length < 1 := (List.getElem?_eq_some_iff.mp hx).1
      have ej : i = l.length := by omega
      subst ej
      rw [Nat.sub_self] at hx
      cases hx
      rw [iset_s, (char_c c hc).1]
theorem c_putNumber (hX : c_X A X) {n : Nat} (hn : n ≤ 9999) {l : List Nat} (h : c_pl T l) (hl : l.length + (m_dig n).length ≤ 7860) : cCv ext X 1 44 [cv X 5 (some 0), .int (nI n)] T (fun T' => c_sm [5, 33] T T' ∧ c_pl T' (l ++ m_dig n)) := by
  have l5 := hX.z (s := 5) (by decide)
  refine cCv.of (L := [some (cv X 5 (some 0)), some (.int (nI n)), none]) (by rw [ml44]; rfl) ?_
  generalize hQ : cQv X (fun T' => c_sm [5, 33] T T' ∧ c_pl T' (l ++ m_dig n)) = Q
  have digit : ∀ (p : Nat) (l1 : List Nat) (T1 : cT), 0 < p → p ≤ 1000 → c_sm [5, 33] T T1 → l1.length + (m_dg1 n p).length ≤ 7860 → c_pl T1 l1 → (∀ (T2 : cT), c_sm [5, 33] T T2 → c_pl T2 (l1 ++ m_dg1 n p) → cA ext X 1 44 4 [some (cv X 5 (some 0)), some (.int (nI n)), some (.int (nI (p / 10)))] [] T2 Q) → cA ext X 1 44 4 [some (cv X 5 (some 0)), some (.int (nI n)), some (.int (nI p))] [] T1 Q := by
    intro p l1 T1 hp0 hp hw hlen hP kk
    have ediv : nI p / 10 = nI (p / 10) := pk_div (a := p) (d := 10) (by omega) (by decide) (by decide)
    refine bc44_4 (fun e => absurd e (nI_nle hp0 (by omega))) (fun _ => ?_)
    have yes : (p ≤ n ∨ p = 1) → cA ext X 1 44 18 [some (cv X 5 (some 0)), some (.int (nI n)), some (.int (nI p))] [] T1 Q := by
      intro hy
      have edg : m_dg1 n p = [48 + n / p % 10] := by unfold m_dg1; rw [if_pos hy]
      rw [edg] at hlen kk
      have hc : 48 + n / p % 10 < 128 := by have := Nat.mod_lt (n / p) (show 0 < 10 by decide); omega
      have e1 : (48 : Int32) + (nI n / nI p - nI n / nI p / 10 * 10) = nI (48 + n / p % 10) := by
        have hq : n / p ≤ n := Nat.div_le_self _ _
        rw [pk_div (by omega) hp0 (by omega)]
        show nI 48 + (nI (n / p) - nI (n / p) / nI 10 * nI 10) = _
        rw [pk_rem (by omega) (by decide) (by decide), nI_add]
      refine bc44_18 l5 (nI_ne0 hp0 (by omega)) (by rw [e1, (char_c _ hc).2]; exact c_put hX hP (by have : [48 + n / p % 10].length = 1 := rfl; omega) hc) ?_
      rintro T2 ⟨p1, p2⟩
      refine bc44_32 ?_
      rw [ediv]
      exact kk T2 (hw.tr p1) p2
    refine bc44_8 (fun e => ?_) (fun e => ?_)
    · rw [nI_leI (by omega) (by omega)] at e
      exact yes (Or.inl e)
    · rw [nI_leI (by omega) (by omega)] at e
      refine bc44_13 (fun e2 => ?_) (fun e2 => yes (Or.inr ((nI_eq (b := 1) (by omega) (by decide)).mp e2)))
      have hno : ¬ (p ≤ n ∨ p = 1) := fun z => z.elim e (fun z => e2 (by rw [z]; rfl))
      have edg : m_dg1 n p = [] := by unfold m_dg1; rw [if_neg hno]
      rw [edg, List.append_nil] at kk
      refine bc44_32 ?_
      rw [ediv]
      exact kk T1 hw hP
  unfold m_dig at hl hQ
  rw [List.length_append, List.length_append, List.length_append] at hl
  refine bc44_0 ?_
  refine digit 1000 l T (by decide) (by decide) (c_sm.rf _ _) (by omega) h (fun T1 w1 p1 => ?_)
  refine digit 100 _ T1 (by decide) (by decide) w1 (by rw [List.length_append]; omega) p1 (fun T2 w2 p2 => ?_)
  refine digit 10 _ T2 (by decide) (by decide) w2 (by rw [List.length_append, List.length_append]; omega) p2 (fun T3 w3 p3 => ?_)
  refine digit 1 _ T3 (by decide) (by decide) w3 (by rw [List.length_append, List.length_append, List.length_append]; omega) p3 (fun T4 w4 p4 => ?_)
  refine bc44_4 (fun _ => bc44_40 ?_) (fun e => absurd (by decide) e)
  rw [← hQ]
  refine cQv.e ⟨w4, ?_⟩
  simp only [List.append_assoc] at p4
  exact p4
theorem c_putLine (hI : m_Inv A) (hX : c_X A X) (hG : c_G A T) {d : Nat} (hd : d < m_nD A) {l : List Nat} (h : c_pl T l) (hl : l.length + (m_line A d).length ≤ 7860) : cCv ext X 2 42 [cv X 5 (some 0), cv X 8 (some d)] T (fun T' => c_sm [5, 33] T T' ∧ c_pl T' (l ++ m_line A d)) := by
  have l5 := hX.z (s := 5) (by decide)
  have hdep := m_depth_lt hI.J hd
  have hD := hI.2.2.1
  refine cCv.of (L := [some (cv X 5 (some 0)), some (cv X 8 (some d)), none, none]) (by rw [ml42]; rfl) ?_
  generalize hQ : cQv X (fun T' => c_sm [5, 33] T T' ∧ c_pl T' (l ++ m_line A d)) = Q
  have eline : m_line A d = List.replicate (m_depth A d) 32 ++ (m_dig (m_lb A d) ++ (m_eq1 A d ++ [10])) := rfl
  have hll := hl
  rw [eline, List.length_append, List.length_append, List.length_append, List.length_replicate] at hll
  have hll' : l.length + (m_depth A d + ((m_dig (m_lb A d)).length + ((m_eq1 A d).length + 1))) ≤ 7860 := hll
  refine bc42_0 (hX.d hd) ((c_depth hI hX hG hd).mono (by decide)) ?_
  rintro v T1 ⟨rfl, rfl⟩
  refine bc42_4 ?_
  have hGk : ∀ T2, c_sm [5, 33] T1 T2 → c_G A T2 := fun T2 w => w.G hG (by decide)
  -- behind the blanks
  have rest : ∀ (T2 : cT) (x3 : Int32), c_sm [5, 33] T1 T2 → c_pl T2 (l ++ List.replicate (m_depth A d) 32) → cA ext X 2 42 24 [some (cv X 5 (some 0)), some (cv X 8 (some d)), some (.int (nI (m_depth A d))), some (.int x3)] [] T2 Q := by
    intro T2 x3 w2 p2
    have g2 := hGk T2 w2
    have hlb := (hI.2.2.2.1 d hd).2.2
    refine bc42_24 l5 (hX.d hd) (by rw [(g2.2.2.2.1 d hd).2.2.2.2.1]; exact c_putNumber hX hlb p2 (by rw [List.length_append, List.length_replicate]; omega)) ?_
    rintro T3 ⟨w3, p3⟩
    have w3' := w2.tr w3
    have g3 := hGk T3 w3'
    have fin : ∀ (T4 : cT), c_sm [5, 33] T1 T4 → c_pl T4 (l ++ List.replicate (m_depth A d) 32 ++ m_dig (m_lb A d) ++ m_eq1 A d) → cA ext X 2 42 45 [some (cv X 5 (some 0)), some (cv X 8 (some d)), some (.int (nI (m_depth A d))), some (.int x3)] [] T4 Q := by
      intro T4 w4 p4
      refine bc42_45 l5 ((c_put hX p4 (by rw [List.length_append, List.length_append, List.length_append, List.length_replicate]; omega) (c := 10) (by decide)).mono (by decide)) ?_
      rintro T5 ⟨w5, p5⟩
      refine bc42_51 ?_
      rw [← hQ, eline]
      refine cQv.e ⟨w4.tr w5, ?_⟩
      simp only [List.append_assoc] at p5
      exact p5
    refine bc42_32 (hX.d hd) (fun q => ?_) (fun r q => ?_)
    · rw [(g3.2.2.2.1 d hd).2.2.2.2.2.2.2] at q
      refine fin T3 w3' ?_
      unfold m_eq1
      rw [if_pos q, List.append_nil]
      exact p3
    · rw [(g3.2.2.2.1 d hd).2.2.2.2.2.2.2] at q
      have eq1 : m_eq1 A d = [61] := by unfold m_eq1; rw [if_neg (fun z => by rw [z] at q; cases q)]
      refine bc42_39 l5 ((c_put hX p3 (by rw [List.length_append, List.length_append, List.length_replicate]; rw [eq1] at hll'; omega) (c := 61) (by decide)).mono (by decide)) ?_
      rintro T4 ⟨w4, p4⟩
      refine fin T4 (w3'.tr w4) ?_
      rw [eq1]
      exact p4
  have blanks : ∀ (q j : Nat) (T2 : cT), j + q = m_depth A d → c_sm [5, 33] T1 T2 → c_pl T2 (l ++ List.replicate j 32) → cA ext X 2 42 7 [some (cv X 5 (some 0)), some (cv X 8 (some d)), some (.int (nI (m_depth A d))), some (.int (nI j))] [] T2 Q := by
    intro q
    induction q with
    | zero =>
      intro j T2 hj w2 p2
      refine bc42_7 (fun _ => rest T2 _ w2 ?_) (fun e => absurd (nI_le (by omega) (by omega)) e)
      rw [show m_depth A d = j by omega]
      exact p2
    | succ q ih =>
      intro j T2 hj w2 p2
      refine bc42_7 (fun e => absurd e (nI_ge (by omega) (by omega))) (fun _ => ?_)
      refine bc42_12 l5 ((c_put hX p2 (by rw [List.length_append, List.length_replicate]; omega) (c := 32) (by decide)).mono (by decide)) ?_
      rintro T3 ⟨w3, p3⟩
      refine bc42_18 ?_
      rw [nI_1]
      refine ih (j + 1) T3 (by omega) (w2.tr w3) ?_
      rw [List.append_assoc] at p3
      rw [List.replicate_succ']
      exact p3
  exact blanks (m_depth A d) 0 T1 (by omega) (c_sm.rf _ _) (by rw [List.replicate_zero, List.append_nil]; exact h)
theorem c_print (hI : m_Inv A) (hX : c_X A X) (h : c_RA A T) (m : Int32) : cCi ext X 3 19 [cv X 0 (some 0), .int m] T (fun v T' => v = (sp_print A m).1 ∧ c_RA (sp_print A m).2 T') := by
  have hJ := hI.J
  have hM5 := hI.2.1.1
  have hD := hI.2.2.1
  have l0 := hX.z (s := 0) (by decide)
  refine cCi.of (L := [some (cv X 0 (some 0)), some (.int m), none, none, none]) (by rw [ml19]; rfl) ?_
  generalize hv : sp_print A m = w
  unfold sp_print at hv
  refine bc19_0 l0 ((c_findTree hI hX h.1 m).mono (by decide)) ?_
  rintro r T1 ⟨rfl, rfl⟩
  by_cases hm : 0 ≤ m ∧ m ≤ nI (m_nM A) - 1
  case neg =>
    rw [if_neg hm] at hv ⊢
    exact bc19_5 (fun _ => bc19_10 (cQi.e (by rw [← hv]; exact ⟨rfl, h⟩))) (fun _ q => by cases q)
  rw [if_pos hm] at hv ⊢
  obtain ⟨m, hmi, rfl⟩ := (rI_rng (by omega)).mp hm
  rw [nI_clamp (by omega)] at hv ⊢
  have hlen := m_print_len hI m (m_order_le A m).1
  refine bc19_5 (fun q => by cases q) (fun _ _ => ?_)
  have w0 : c_sm [5, 33] T1 (iset T1 5 0 1 0) := (c_sm.rf _ T1).i _ _ _ (by decide)
  have p0 : c_pl (iset T1 5 0 1 0) [] := ⟨by rw [iset_s]; rfl, fun i c hc => by cases hc⟩
  have hr : ∀ T2, c_sm [5, 33] T1 T2 → T2.2 7 m 1 = some (1000 + m) := fun T2 w => by rw [(w 7 (by decide)).2]; exact (h.1.2.2.1 m hmi).2.2.1
  have hGk : ∀ T2, c_sm [5, 33] T1 T2 → c_G A T2 := fun T2 w => w.G h.1 (by decide)
  refine bc19_12 (b_3 := 1000 + m) l0 (hX.m hmi) (hr _ w0) (by rw [hr _ w0]; exact (c_next0 hX (hGk _ w0) (top := .inr m) hmi).mono (by decide)) ?_
  rintro r T2 ⟨rfl, rfl⟩
  refine bc19_31 ?_
  generalize iset T1 5 0 1 0 = T2 at w0 p0
  have loop : ∀ (n : Nat) (vs st : List Nat) (T3 : cT), c_at A m vs n st → c_sm [5, 33] T1 T3 → c_pl T3 (vs.flatMap (m_line A)) → cA ext X 3 19 35 [some (cv X 0 (some 0)), some (.int (nI m)), some (cv X 7 (some m)), some (cv X 8 st.head?), some (.int (nI vs.length))] [] T3 (cQi X (fun v T' => v = w.1 ∧ c_RA w.2 T')) := by
    intro n
    induction n with
    | zero =>
      intro vs st T3 hat
      have := m_way_len hat.2.1
      have := hat.2.2.1
      omega
    | succ n ih =>
      intro vs st T3 hat w3 p3
      have hwl := m_way_len hat.2.1
      cases st with
      | nil =>
        have e : m_print A m = vs.flatMap (m_line A) := by unfold m_print; rw [c_at_nil hat]
        have fin : cA ext X 3 19 69 [some (cv X 0 (some 0)), some (.int (nI m)), some (cv X 7 (some m)), some (cv X 8 ([] : List Nat).head?), some (.int (nI vs.length))] [] T3 (cQi X (fun v T' => v = w.1 ∧ c_RA w.2 T')) := by
          refine bc19_69 l0 (cQi.e ?_)
          rw [← hv, e]
          have g3 := hGk T3 w3
          refine ⟨p3.1, ?_, ?_, ?_, p3⟩
          · refine ⟨g3.1, g3.2.1, g3.2.2.1, g3.2.2.2.1, fun c hc => ?_, g3.2.2.2.2.2⟩
            show _ = (m_kids (m_wP A (vs.flatMap (m_line A))) c).head? ∧ c_chn _ 8 8 (m_kids (m_wP A (vs.flatMap (m_line A))) c)
            rw [m_kids_eq (A := A) (B := m_wP A (vs.flatMap (m_line A))) rfl c]
            exact g3.2.2.2.2.1 c hc
          · exact h.2.1.cong (fun s hs => w3 s (by revert hs; revert s; decide))
          · exact h.2.2.1.cong (fun s hs => w3 s (by revert hs; revert s; decide))
        exact bc19_35 (fun _ => fin) (fun _ => bc19_42 (fun _ => fin) (fun _ q => by cases q))
      | cons x st =>
        have hwl' : vs.length + (st.length + 1) ≤ m_nD A := hwl
        obtain ⟨n', hn', hat2⟩ := c_at_s hJ hat
        cases hn'
        obtain ⟨hx, hs⟩ := hat.2.2.2 x st rfl
        have hfl : (vs ++ [x]).flatMap (m_line A) = vs.flatMap (m_line A) ++ m_line A x := by rw [List.flatMap_append, List.flatMap_cons, List.flatMap_nil, List.append_nil]
        have hle : (vs.flatMap (m_line A)).length + (m_line A x).length ≤ 7860 := by
          have e : m_print A m = (vs ++ [x]).flatMap (m_line A) ++ (m_ord A n (m_kids A (.inl x) ++ st)).flatMap (m_line A) := by
            unfold m_print
            rw [hat2.1, List.flatMap_append]
          rw [e, List.length_append, hfl, List.length_append] at hlen
          omega
        refine bc19_35 (fun q => absurd q (nI_ge (a := vs.length) (b := 120) (by omega) (by decide))) (fun _ => bc19_42 (fun q => by cases q) (fun _ _ => ?_))
        refine bc19_46 l0 (c_putLine hI hX (hGk T3 w3) hx p3 hle) ?_
        rintro T4 ⟨w4, p4⟩
        have w4' := w3.tr w4
        refine bc19_54 (hX.m hmi) (hX.d hx) (by rw [hr _ w4']; exact (c_next hI hX (hGk _ w4') (top := .inr m) hmi hx hs).mono (by decide)) ?_
        rintro o T5 ⟨rfl, rfl⟩
        refine bc19_62 ?_
        rw [nI_1]
        have := ih (vs ++ [x]) (m_kids A (.inl x) ++ st) T5 hat2 w4' (by rw [hfl]; exact p4)
        rw [List.length_append] at this
        exact this
  exact loop _ [] _ T2 (c_at_0 A m) w0 p0
end CP
