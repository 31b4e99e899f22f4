/-! THE REFERENCE'S CHECK -/
theorem m_rd_mem {A : mS} (hI : m_Inv A) {rk : Nat → Nat} (hr : m_Rk A rk) : ∀ (n : Nat) (st : List (Nat × Option Nat)), m_pil A rk (st.map (fun e => e.1)) → (∀ e ∈ st, ∀ p, e.2 = some p → p < m_nD A) → ∀ v ∈ m_rd A n st, v.1 < m_nD A ∧ v.2 < m_nD A
  | 0, st, _, _, v, hv => by cases hv
  | n + 1, [], _, _, v, hv => by cases hv
  | n + 1, (d, a) :: st, hp, ha, v, hv => by
    have hp' : m_pil A rk (d :: st.map (fun e => e.1)) := hp
    have hd := (hp d _ rfl).2.1
    have had : a.getD d < m_nD A := by
      cases a with
      | none => exact hd
      | some p => exact ha (d, some p) List.mem_cons_self p rfl
    have hst : ∀ e ∈ st, ∀ p, e.2 = some p → p < m_nD A := fun e he => ha e (List.mem_cons_of_mem _ he)
    rcases List.mem_cons.mp hv with e | hv
    · rw [e]; exact ⟨hd, had⟩
    · revert hv
      cases hrp : m_rp A d with
      | some r =>
        intro hv
        refine m_rd_mem hI hr n _ ?_ ?_ v hv
        · exact m_pil_rp hI hr hp' hrp
        · intro e he p hp2
          rcases List.mem_cons.mp he with e2 | he
          · rw [e2] at hp2
            cases hp2
            exact had
          · exact hst e he p hp2
      | none =>
        intro hv
        refine m_rd_mem hI hr n _ ?_ ?_ v hv
        · rw [List.map_append, List.map_map]
          rw [show ((fun e : Nat × Option Nat => e.1) ∘ fun x => (x, a)) = (fun x => x) from rfl, List.map_id']
          exact m_pil_kids hr hp'
        · intro e he p hp2
          rcases List.mem_append.mp he with he | he
          · obtain ⟨x, -, rfl⟩ := List.mem_map.mp he
            exact ha (d, a) List.mem_cons_self p hp2
          · exact hst e he p hp2
theorem m_visit_mem {A : mS} (hI : m_Inv A) (m : Nat) : ∀ v ∈ m_visit A m, v.1 < m_nD A ∧ v.2 < m_nD A := by
  obtain ⟨rk, hr⟩ := m_rank hI
  refine m_rd_mem hI hr 1000 _ ?_ ?_
  · rw [List.map_map]
    rw [show ((fun e : Nat × Option Nat => e.1) ∘ fun x => (x, none)) = (fun x => x) from rfl, List.map_id']
    exact m_pil_0 hr m
  · intro e he p hp
    obtain ⟨x, -, rfl⟩ := List.mem_map.mp he
    cases hp
theorem m_steps_mem {A : mS} (hI : m_Inv A) (m : Nat) : ∀ e ∈ m_steps A m, e.1 < m_nD A ∧ e.2.1 < m_nF A ∧ e.2.2.1 < e.2.2.2.1 ∧ e.2.2.2.1 ≤ 100000 ∧ e.2.2.2.2 < m_nD A := by
  intro e he
  obtain ⟨v, hv, he⟩ := List.mem_flatMap.mp he
  obtain ⟨x, hx, rfl⟩ := List.mem_map.mp he
  have h1 := m_visit_mem hI m v hv
  have h2 := (hI.2.2.2.2.2.2.1 v.1 h1.1).2 x hx
  exact ⟨h1.1, h2.1, h2.2.1, h2.2.2, h1.2⟩
theorem r_bw.tr2 {W0 W1 W2 : rW} (h : r_bw W0 W1) (h2 : r_bw W1 W2) : r_bw W0 W2 := h.tr h2
theorem fr_succ (n : Nat) (p : Nat → Bool) : (List.range (n + 1)).filter p = (List.range n).filter p ++ (if p n = true then [n] else []) := by
  rw [List.range_succ, List.filter_append]
  congr 1
  by_cases h : p n = true
  · rw [if_pos h, List.filter_cons, if_pos h]; rfl
  · rw [if_neg h, List.filter_cons, if_neg h]; rfl
theorem flat_mono {α : Type} (f : Nat → List α) (p : Nat → Bool) {a b : Nat} (h : a ≤ b) : (((List.range a).filter p).flatMap f).length ≤ (((List.range b).filter p).flatMap f).length := by
  induction b with
  | zero =>
    have : a = 0 := by omega
    subst this
    exact Nat.le_refl _
  | succ b ih =>
    by_cases e : a = b + 1
    · subst e; exact Nat.le_refl _
    · rw [fr_succ, List.flatMap_append, List.length_append]
      have := ih (by omega)
      omega
section RK
variable {ext : av_X} {X : rX} {W : rW} {A : mS}
set_option maxHeartbeats 1000000 in
theorem r_check (hI : m_Inv A) (h : r_RA A W) (mm : Int32) : rCi ext X 2 86 [.ref X.1, .int mm] W (fun x W' => x = (sp_check A mm).1 ∧ r_RA (sp_check A mm).2 W') := by
  refine rCi.of (L := [some (.ref X.1), some (.int mm), none]) (by rw [ml86]; rfl) ?_
  refine br86_0 (r_isMap _) ?_
  rintro v W1 ⟨rfl, rfl⟩
  have h0 : r_RA A (hset W 0 0) := h.hset 0 0 (by decide)
  generalize hset W 0 0 = W at h0 ⊢
  have hnM : W.2 3 = nI (m_nM A) := h0.2.1.1
  have hM5 := hI.2.1.1
  have hD := hI.2.2.1
  have hF30 := hI.1.1
  unfold sp_check
  rw [hnM]
  by_cases hm : 0 ≤ mm ∧ mm ≤ nI (m_nM A) - 1
  case neg =>
    rw [if_neg hm, if_neg hm]
    exact br86_10 (fun e => absurd rfl e) (fun _ => br86_13 ⟨_, rfl, rfl, h0⟩)
  rw [if_pos hm, if_pos hm]
  refine br86_10 (fun _ => ?_) (fun e => absurd e (by decide))
  obtain ⟨m, hmi, rfl⟩ := (rI_rng (by omega)).mp hm
  rw [nI_clamp (by omega)]
  generalize hQ : (fun (r : Option Value) (W' : rW) => ∃ x, r = some (.int x) ∧ x = (nI (m_faults A m).length, m_wT A (m_faults A m)).1 ∧ r_RA (nI (m_faults A m).length, m_wT A (m_faults A m)).2 W') = Q
  have hfl := m_faults_len hI m
  generalize hp : (fun d => decide (m_mp A d = m)) = p
  have hpd : ∀ d, p d = decide (m_mp A d = m) := fun d => by rw [← hp]
  have hfa : m_faults A m = ((List.range (m_nD A)).filter p).flatMap (m_fd A) ++ (if m_kd A m = 0 then (List.range (m_nF A)).flatMap (m_ff A (m_steps A m)) else []) := by unfold m_faults; rw [hp]
  have hfa2 := hfa
  generalize hl1 : ((List.range (m_nD A)).filter p).flatMap (m_fd A) = l1 at hfa
  have hl1len : l1.length ≤ 300 := by rw [hfa, List.length_append] at hfl; omega
  refine br86_15 ?_
  have hB0 : r_RB A (hset W 29 0) := h0.B.cong (fun _ _ => rfl) (fun k hk => hset_n _ _ (fun e => by subst e; revert hk; decide))
  have hT0 : r_gT (m_wT A []) ((hset W 29 0).1 30) ((hset W 29 0).1 31) ((hset W 29 0).2 29) := ⟨by rw [hset_s]; rfl, fun i e he => by cases he⟩
  generalize hset W 29 0 = W0 at hB0 hT0
  -- the end
  have fin : ∀ (W1 : rW) (x2 : Int32), r_RB A W1 → r_gT (m_wT A (m_faults A m)) (W1.1 30) (W1.1 31) (W1.2 29) → rA ext X 2 86 94 [some (.ref X.1), some (.int (nI m)), some (.int x2)] [] W1 Q := by
    intro W1 x2 hB hT
    refine br86_94 ?_
    rw [← hQ]
    exact ⟨_, rfl, hT.1, hB.T hT⟩
  -- the files
  have files : ∀ (n k : Nat) (W1 : rW), k + n = m_nF A → r_RB A W1 → W1.2 27 = nI (m_steps A m).length → r_st5 (W1.1 28) (m_steps A m) → (m_steps A m).length ≤ 5000 → m_kd A m = 0 → r_gT (m_wT A (l1 ++ (List.range k).flatMap (m_ff A (m_steps A m)))) (W1.1 30) (W1.1 31) (W1.2 29) → rA ext X 2 86 75 [some (.ref X.1), some (.int (nI m)), some (.int (nI k))] [] W1 Q := by
    intro n
    induction n with
    | zero =>
      intro k W1 hk hB h27 h28 h5 hkd hT
      have ek : k = m_nF A := by omega
      subst ek
      refine br86_75 (fun _ => fin W1 _ hB ?_) (fun e => absurd (by rw [hB.1.1]; exact nI_le (Nat.le_refl _) (by omega)) e)
      rw [hfa, if_pos hkd]
      exact hT
    | succ n ih =>
      intro k W1 hk hB h27 h28 h5 hkd hT
      have hlen : (l1 ++ (List.range k).flatMap (m_ff A (m_steps A m))).length ≤ 300 := by
        rw [hfa, if_pos hkd, List.length_append] at hfl
        rw [List.length_append]
        have := flat_mono (m_ff A (m_steps A m)) (fun _ => true) (show k ≤ m_nF A by omega)
        have e1 : ∀ n, (List.range n).filter (fun _ => true) = List.range n := fun n => List.filter_eq_self.mpr (fun _ _ => rfl)
        rw [e1, e1] at this
        omega
      refine br86_75 (fun e => absurd e (by rw [hB.1.1]; exact nI_ge (by omega) (by omega))) (fun _ => ?_)
      refine br86_83 (r_checkFile hI hB hT (by omega) (by omega) h27 h28 h5 (fun e he => ?_)) ?_
      · have := m_steps_mem hI m e he
        exact ⟨by omega, this.2.2.1, this.2.2.2.1⟩
      · rintro W2 ⟨a1, a2⟩
        refine br86_88 ?_
        rw [nI_1]
        refine ih (k + 1) W2 (by omega) (a1.RB hB) (by rw [a1.2 27 (by decide)]; exact h27) (by rw [a1.1 28 (by decide) (by decide)]; exact h28) h5 hkd ?_
        rw [List.range_succ, List.flatMap_append, ← List.append_assoc]
        rw [show [k].flatMap (m_ff A (m_steps A m)) = m_ff A (m_steps A m) k by rw [List.flatMap_cons, List.flatMap_nil, List.append_nil]]
        exact a2
  -- behind the divisions
  have second : ∀ (W1 : rW) (x2 : Int32), r_RB A W1 → r_gT (m_wT A l1) (W1.1 30) (W1.1 31) (W1.2 29) → rA ext X 2 86 51 [some (.ref X.1), some (.int (nI m)), some (.int x2)] [] W1 Q := by
    intro W1 x2 hB hT
    have hkd : W1.1 4 m = nI (m_kd A m) := hB.2.1.2 m hmi
    have hk1 := hI.2.1.2 m hmi
    refine br86_51 (i_1 := m) rfl (by omega) (fun e => ?_) (fun e => ?_)
    · rw [hkd] at e
      refine fin W1 _ hB ?_
      rw [hfa, if_neg (fun q => e (by rw [q]; rfl)), List.append_nil]
      exact hT
    · rw [hkd] at e
      have hk0 : m_kd A m = 0 := (nI_eq (b := 0) (by omega) (by decide)).mp e
      refine br86_60 (r_goes hI hB.2.2.1 hmi (Or.inr rfl)) ?_
      rintro v W2 ⟨a1, rfl, a3, a4⟩
      refine br86_70 ?_
      have hB2 : r_RB A (hset W2 27 (nI (m_steps A m).length)) := hB.cong (fun k hk => a1.1 k (fun e => by subst e; revert hk; decide) (fun e => by subst e; revert hk; decide) (fun e => by subst e; revert hk; decide)) (fun k hk => by
        rw [hset_n _ _ (fun e => by subst e; revert hk; decide)]
        exact a1.2 k (fun e => by subst e; revert hk; decide))
      refine files (m_nF A) 0 _ (by omega) hB2 (by rw [hset_s]) a3 a4 hk0 ?_
      show r_gT (m_wT A (l1 ++ [])) (W2.1 30) (W2.1 31) ((hset W2 27 (nI (m_steps A m).length)).2 29)
      rw [List.append_nil, hset_n _ _ (show (29 : Nat) ≠ 27 by decide), a1.1 30 (by decide) (by decide) (by decide), a1.1 31 (by decide) (by decide) (by decide), a1.2 29 (by decide)]
      exact hT
  -- the divisions
  have divs : ∀ (n k : Nat) (W1 : rW), k + n = m_nD A → r_RB A W1 → r_gT (m_wT A (((List.range k).filter p).flatMap (m_fd A))) (W1.1 30) (W1.1 31) (W1.2 29) → rA ext X 2 86 22 [some (.ref X.1), some (.int (nI m)), some (.int (nI k))] [] W1 Q := by
    intro n
    induction n with
    | zero =>
      intro k W1 hk hB hT
      have ek : k = m_nD A := by omega
      subst ek
      refine br86_22 (fun _ => second W1 _ hB (by rw [← hl1]; exact hT)) (fun e => absurd (by rw [hB.2.2.1.1.1]; exact nI_le (Nat.le_refl _) (by omega)) e)
    | succ n ih =>
      intro k W1 hk hB hT
      have hkD : k < m_nD A := by omega
      have hmp : W1.1 6 k = nI (m_mp A k) := (hB.2.2.1.1.2.1 k hkD).1
      have hmM := (hI.2.2.2.1 k hkD).1
      have hlen : (((List.range k).filter p).flatMap (m_fd A)).length ≤ 300 := by
        have := flat_mono (m_fd A) p (show k ≤ m_nD A by omega)
        rw [hl1] at this
        omega
      refine br86_22 (fun e => absurd e (by rw [hB.2.2.1.1.1]; exact nI_ge (by omega) (by omega))) (fun _ => ?_)
      refine br86_30 (i_1 := k) rfl (by omega) (fun e => ?_) (fun e => ?_)
      · rw [hmp] at e
        refine br86_45 ?_
        rw [nI_1]
        refine ih (k + 1) W1 (by omega) hB ?_
        rw [fr_succ, hpd, if_neg (fun q => e (by rw [of_decide_eq_true q])), List.append_nil]
        exact hT
      · rw [hmp] at e
        have e' : m_mp A k = m := (nI_eq (by omega) (by omega)).mp e
        refine br86_40 (r_checkDiv hI hB hT (by omega) hkD) ?_
        rintro W2 ⟨a1, a2⟩
        refine br86_45 ?_
        rw [nI_1]
        refine ih (k + 1) W2 (by omega) (a1.RB hB) ?_
        rw [fr_succ, hpd, if_pos (decide_eq_true e'), List.flatMap_append]
        rw [show [k].flatMap (m_fd A) = m_fd A k by rw [List.flatMap_cons, List.flatMap_nil, List.append_nil]]
        exact a2
  exact divs (m_nD A) 0 W0 (by omega) hB0 hT0
end RK
