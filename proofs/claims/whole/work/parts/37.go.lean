/-! THE ORDER -/
theorem nd_len : ∀ (N : Nat) (l : List Nat), l.Nodup → (∀ x ∈ l, x < N) → l.length ≤ N
  | 0, l, _, h => by
    cases l with
    | nil => exact Nat.le_refl _
    | cons a l => exact absurd (h a List.mem_cons_self) (by omega)
  | N + 1, l, hn, h => by
    by_cases hm : N ∈ l
    · have h1 : (l.erase N).Nodup := hn.erase N
      have h2 : ∀ x ∈ l.erase N, x < N := fun x hx => by
        have h3 := (hn.mem_erase_iff).mp hx
        have := h x h3.2
        have := h3.1
        omega
      have h4 := nd_len N _ h1 h2
      rw [List.length_erase_of_mem hm] at h4
      omega
    · have := nd_len N l hn (fun x hx => by
        have := h x hx
        have : x ≠ N := fun e => hm (e ▸ hx)
        omega)
      omega
def m_ord (A : mS) : Nat → List Nat → List Nat
  | 0, _ => []
  | _ + 1, [] => []
  | n + 1, d :: st => d :: m_ord A n (m_kids A (.inl d) ++ st)
def m_order (A : mS) (m : Nat) : List Nat := m_ord A (m_nD A + 1) (m_kids A (.inr m))
/-- on the way: none twice, and whose turn it is has been laid by one that is done -/
def m_way (A : mS) (vs st : List Nat) : Prop := (vs ++ st).Nodup ∧ (∀ x ∈ vs ++ st, x < m_nD A) ∧ ∀ x ∈ vs ++ st, ∀ p, m_un A x = some p → p ∈ vs
theorem m_way_0 {A : mS} (m : Nat) : m_way A [] (m_kids A (.inr m)) := by
  refine ⟨m_kids_nodup A _, fun x hx => (m_kids_mem.mp hx).1, fun x hx p hp => ?_⟩
  have h := (m_kids_mem.mp hx).2
  have h2 : (decide (m_un A x = none) && decide (m_mp A x = m)) = true := h
  rw [Bool.and_eq_true, decide_eq_true_eq] at h2
  rw [h2.1] at hp
  cases hp
theorem m_way_s {A : mS} {vs st : List Nat} {d : Nat} (h : m_way A vs (d :: st)) : m_way A (vs ++ [d]) (m_kids A (.inl d) ++ st) := by
  obtain ⟨h1, h2, h3⟩ := h
  have e : (vs ++ [d]) ++ (m_kids A (.inl d) ++ st) = vs ++ d :: (m_kids A (.inl d) ++ st) := by rw [List.append_assoc]; rfl
  have hk : ∀ x ∈ m_kids A (.inl d), x < m_nD A ∧ m_un A x = some d := fun x hx => ⟨(m_kids_mem.mp hx).1, of_decide_eq_true (m_kids_mem.mp hx).2⟩
  have hd : d ∉ vs := by
    rw [List.nodup_append] at h1
    exact fun z => h1.2.2 d z d List.mem_cons_self rfl
  have hnew : ∀ x ∈ m_kids A (.inl d), x ∉ vs ++ d :: st := fun x hx hz => hd (h3 x hz d (hk x hx).2)
  refine ⟨?_, fun x hx => ?_, fun x hx p hp => ?_⟩
  · rw [e, List.nodup_append]
    rw [List.nodup_append] at h1
    obtain ⟨a1, a2, a3⟩ := h1
    rw [List.nodup_cons] at a2
    refine ⟨a1, List.nodup_cons.mpr ⟨fun hz => ?_, List.nodup_append.mpr ⟨m_kids_nodup A _, a2.2, fun x hx y hy he => ?_⟩⟩, fun x hx y hy he => ?_⟩
    · rcases List.mem_append.mp hz with hz | hz
      · exact hnew d hz (List.mem_append_right _ List.mem_cons_self)
      · exact a2.1 hz
    · subst he
      exact hnew x hx (List.mem_append_right _ (List.mem_cons_of_mem _ hy))
    · subst he
      rcases List.mem_cons.mp hy with hy | hy
      · exact hd (hy ▸ hx)
      · rcases List.mem_append.mp hy with hy | hy
        · exact hnew x hy (List.mem_append_left _ hx)
        · exact a3 x hx x (List.mem_cons_of_mem _ hy) rfl
  · rw [e] at hx
    rcases List.mem_append.mp hx with hx | hx
    · exact h2 x (List.mem_append_left _ hx)
    · rcases List.mem_cons.mp hx with hx | hx
      · exact h2 x (List.mem_append_right _ (hx ▸ List.mem_cons_self))
      · rcases List.mem_append.mp hx with hx | hx
        · exact (hk x hx).1
        · exact h2 x (List.mem_append_right _ (List.mem_cons_of_mem _ hx))
  · rw [e] at hx
    have old : x ∈ vs ++ d :: st → p ∈ vs ++ [d] := fun z => List.mem_append_left _ (h3 x z p hp)
    rcases List.mem_append.mp hx with hx | hx
    · exact old (List.mem_append_left _ hx)
    · rcases List.mem_cons.mp hx with hx | hx
      · exact old (List.mem_append_right _ (hx ▸ List.mem_cons_self))
      · rcases List.mem_append.mp hx with hx | hx
        · have := (hk x hx).2
          rw [this] at hp
          cases hp
          exact List.mem_append_right _ List.mem_cons_self
        · exact old (List.mem_append_right _ (List.mem_cons_of_mem _ hx))
theorem m_way_len {A : mS} {vs st : List Nat} (h : m_way A vs st) : vs.length + st.length ≤ m_nD A := by
  have := nd_len _ _ h.1 h.2.1
  rw [List.length_append] at this
  exact this
def r_gw (W0 W : rW) : Prop := (∀ k, k ≠ 15 → k ≠ 16 → k ≠ 20 → k ≠ 21 → W.1 k = W0.1 k) ∧ ∀ k, k ≠ 17 → k ≠ 19 → W.2 k = W0.2 k
theorem r_gw.RA {A : mS} {W0 W : rW} (h : r_gw W0 W) (h0 : r_RA A W0) : r_RA A W := h0.cong (fun k hk => h.1 k (fun e => by subst e; revert hk; decide) (fun e => by subst e; revert hk; decide) (fun e => by subst e; revert hk; decide) (fun e => by subst e; revert hk; decide)) (fun k hk => h.2 k (fun e => by subst e; revert hk; decide) (fun e => by subst e; revert hk; decide))
theorem r_gw.tw {W0 W1 W2 : rW} (h : r_gw W0 W1) (h2 : r_tw W1 W2) : r_gw W0 W2 := ⟨fun k a b c d => (h2.1 k a b).trans (h.1 k a b c d), fun k a b => (h2.2 k a).trans (h.2 k a b)⟩
/-- the list and its depths -/
def r_ls (A : mS) (f g : Nat → Int32) (l : List Nat) : Prop := ∀ i x, l[i]? = some x → f i = nI x ∧ g i = nI (m_depth A x)
section RGo
variable {ext : av_X} {X : rX} {W : rW} {A : mS}
theorem r_go (hI : m_Inv A) (h : r_RA A W) {m : Nat} (hm : m < m_nM A) : rCv ext X 1 80 [.ref X.1, .int (nI m)] W (fun W' => r_gw W W' ∧ W'.2 19 = nI (m_order A m).length ∧ r_ls A (W'.1 20) (W'.1 21) (m_order A m) ∧ (m_order A m).length ≤ m_nD A ∧ ∀ x ∈ m_order A m, x < m_nD A) := by
  have hD := hI.2.2.1
  refine rCv.of (L := [some (.ref X.1), some (.int (nI m)), none]) (by rw [ml80]; rfl) ?_
  have h1 : r_RA A (hset (hset W 19 0) 17 0) := (h.hset 19 0 (by decide)).hset 17 0 (by decide)
  have hg1 : r_gw W (hset (hset W 19 0) 17 0) := ⟨fun _ _ _ _ _ => rfl, fun k a b => by rw [hset_n _ _ a, hset_n _ _ b]⟩
  have h19 : (hset (hset W 19 0) 17 0).2 19 = nI 0 := by rw [hset_n _ _ (by decide), hset_s]; rfl
  have h17 : (hset (hset W 19 0) 17 0).2 17 = nI 0 := by rw [hset_s]; rfl
  refine br80_0 (r_lay hI h1.D (.inr m) hm (-1) [] h17 (fun i e he => by cases he) (by show 0 + m_nD A ≤ 1000; omega)) ?_
  rintro W2 ⟨q1, q2, q3⟩
  generalize hQ : (fun (r : Option Value) (W' : rW) => r = none ∧ r_gw W W' ∧ W'.2 19 = nI (m_order A m).length ∧ r_ls A (W'.1 20) (W'.1 21) (m_order A m) ∧ (m_order A m).length ≤ m_nD A ∧ ∀ x ∈ m_order A m, x < m_nD A) = Q
  have loop : ∀ (n : Nat) (vs st : List Nat) (W3 : rW) (o2 : Option Value), vs.length + n = m_nD A + 1 → m_way A vs st → m_order A m = vs ++ m_ord A n st → r_gw W W3 → W3.2 19 = nI vs.length → r_ls A (W3.1 20) (W3.1 21) vs → W3.2 17 = nI st.length → r_hT (W3.1 15) (W3.1 16) (st.reverse.map (fun x => (x, -1))) → rA ext X 1 80 18 [some (.ref X.1), some (.int (nI m)), o2] [] W3 Q := by
    intro n
    induction n with
    | zero =>
      intro vs st W3 o2 hn hw
      have := m_way_len hw
      omega
    | succ n ih =>
      intro vs st W3 o2 hn hw ho hg h19 hls h17 hT
      have hlen := m_way_len hw
      have hR := hg.RA h
      cases st with
      | nil =>
        refine br80_18 (fun _ => ?_) (fun e => absurd (by rw [h17]; decide) e)
        refine br80_88 ?_
        rw [← hQ]
        have e : m_order A m = vs := by rw [ho]; show vs ++ [] = vs; rw [List.append_nil]
        rw [e]
        exact ⟨rfl, hg, h19, hls, by have : vs.length + 0 ≤ _ := hlen; omega, fun x hx => hw.2.1 x (List.mem_append_left _ hx)⟩
      | cons x st =>
        have hlen' : vs.length + (st.length + 1) ≤ m_nD A := hlen
        have hxl : x < m_nD A := hw.2.1 x (List.mem_append_right _ List.mem_cons_self)
        refine br80_18 (fun e => absurd e (by rw [h17]; exact nI_nle (Nat.succ_pos _) (by show st.length + 1 < _; omega))) (fun _ => ?_)
        have e17 : W3.2 17 - 1 = nI st.length := by rw [h17]; exact nI_pred _
        rw [show W3 = W3 from rfl]
        have hTop : W3.1 15 st.length = nI x ∧ W3.1 16 st.length = -1 := by
          refine hT st.length (x, -1) ?_
          rw [List.getElem?_map, List.reverse_cons, List.getElem?_append_right (by rw [List.length_reverse]; exact Nat.le_refl _), List.length_reverse, Nat.sub_self]
          rfl
        have hR2 : r_RA A (gset (hset W3 17 (W3.2 17 - 1)) 20 vs.length (nI x)) := (hR.hset 17 _ (by decide)).gset 20 _ _ (by decide)
        have eW : (hset W3 17 (W3.2 17 - 1)).1 15 st.length = nI x := hTop.1
        refine br80_25 (i_1 := st.length) (i_4 := vs.length) (by rw [hset_s]; exact e17) (by omega) (by rw [hset_n _ _ (by decide)]; exact h19) (by omega) (by rw [eW]; exact (r_depth hI.J hR2 hxl).mono (Nat.zero_le _)) ?_
        rintro v W4 ⟨rfl, rfl⟩
        rw [eW]
        generalize hW5 : hset (gset (gset (hset W3 17 (W3.2 17 - 1)) 20 vs.length (nI x)) 21 vs.length (nI (m_depth A x))) 19 ((gset (gset (hset W3 17 (W3.2 17 - 1)) 20 vs.length (nI x)) 21 vs.length (nI (m_depth A x))).2 19 + 1) = W5
        have g5 : r_gw W W5 := by
          rw [← hW5]
          refine ⟨fun k a b c d => ?_, fun k a b => ?_⟩
          · rw [hset_1, gset_k _ _ _ d, gset_k _ _ _ c]
            exact hg.1 k a b c d
          · rw [hset_n _ _ b]
            show (hset W3 17 (W3.2 17 - 1)).2 k = _
            rw [hset_n _ _ a]
            exact hg.2 k a b
        have s19 : W5.2 19 = nI (vs ++ [x]).length := by
          rw [← hW5, hset_s]
          show (hset W3 17 (W3.2 17 - 1)).2 19 + 1 = _
          rw [hset_n _ _ (by decide), h19, nI_1, List.length_append]
          rfl
        have s17 : W5.2 17 = nI st.length := by
          rw [← hW5, hset_n _ _ (by decide)]
          show (hset W3 17 (W3.2 17 - 1)).2 17 = _
          rw [hset_s]
          exact e17
        have s20 : W5.1 20 = va_up (W3.1 20) vs.length (nI x) := by rw [← hW5, hset_1, gset_k _ _ _ (by decide), gset_e]; rfl
        have s21 : W5.1 21 = va_up (W3.1 21) vs.length (nI (m_depth A x)) := by rw [← hW5, hset_1, gset_e, gset_k _ _ _ (by decide)]; rfl
        have s15 : W5.1 15 = W3.1 15 := by rw [← hW5, hset_1, gset_k _ _ _ (by decide), gset_k _ _ _ (by decide)]; rfl
        have s16 : W5.1 16 = W3.1 16 := by rw [← hW5, hset_1, gset_k _ _ _ (by decide), gset_k _ _ _ (by decide)]; rfl
        have hls2 : r_ls A (W5.1 20) (W5.1 21) (vs ++ [x]) := by
          intro i z hz
          rw [s20, s21]
          by_cases c1 : i < vs.length
          · rw [List.getElem?_append_left c1] at hz
            rw [va_up_ne _ _ (by omega), va_up_ne _ _ (by omega)]
            exact hls i z hz
          · rw [List.getElem?_append_right (by omega)] at hz
            have hj : i - vs.length < 1 := (List.getElem?_eq_some_iff.mp hz).1
            have ej : i = vs.length := by omega
            subst ej
            rw [Nat.sub_self] at hz
            cases hz
            rw [va_up_self, va_up_self]
            exact ⟨rfl, rfl⟩
        have hT5 : r_hT (W5.1 15) (W5.1 16) (st.reverse.map (fun x => (x, -1))) := by
          rw [s15, s16]
          intro i e he
          refine hT i e ?_
          have hi := (List.getElem?_eq_some_iff.mp he).1
          rw [List.length_map, List.length_reverse] at hi
          rw [List.reverse_cons, List.map_append, List.getElem?_append_left (by rw [List.length_map, List.length_reverse]; exact hi)]
          exact he
        refine br80_68 (i_1 := vs.length) (by show (hset W3 17 (W3.2 17 - 1)).2 19 = _; rw [hset_n _ _ (by decide)]; exact h19) (by omega) (by rw [hW5]; exact r_lay hI (g5.RA h).D (.inl x) hxl (-1) (st.reverse.map (fun x => (x, -1))) (by rw [s17, List.length_map, List.length_reverse]) hT5 (by rw [List.length_map, List.length_reverse]; omega)) ?_
        rintro W6 ⟨p1, p2, p3⟩
        refine br80_85 ?_
        have ekey : st.reverse.map (fun x => (x, (-1 : Int32))) ++ (m_kids A (.inl x)).reverse.map (fun x => (x, -1)) = (m_kids A (.inl x) ++ st).reverse.map (fun x => (x, -1)) := by rw [List.reverse_append, List.map_append]
        rw [ekey] at p2 p3
        refine ih (vs ++ [x]) (m_kids A (.inl x) ++ st) W6 _ (by rw [List.length_append]; show vs.length + 1 + n = _; omega) (m_way_s hw) ?_ (g5.tw p1) ?_ ?_ (by rw [p2, List.length_map, List.length_reverse]) p3
        · rw [ho, List.append_assoc]
          rfl
        · rw [p1.2 19 (by decide)]
          exact s19
        · rw [p1.1 20 (by decide) (by decide), p1.1 21 (by decide) (by decide)]
          exact hls2
  refine loop (m_nD A + 1) [] (m_kids A (.inr m)) W2 _ (Nat.zero_add _) (m_way_0 m) rfl (hg1.tw q1) (by rw [q1.2 19 (by decide)]; exact h19) (fun i x hx => by cases hx) ?_ q3
  rw [q2]
  show nI (List.map (fun x => (x, (-1 : Int32))) (m_kids A (.inr m)).reverse).length = _
  rw [List.length_map, List.length_reverse]
end RGo
