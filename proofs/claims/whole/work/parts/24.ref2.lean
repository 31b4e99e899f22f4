/-! THE REFERENCE'S CALLS: file, size, map -/
section RS2
variable {ext : av_X} {X : rX} {W : rW} {A : mS}
theorem r_file (hI : m_Inv A) (h : r_RA A W) (n : Int32) : rCi ext X 1 64 [.ref X.1, .int n] W (fun x W' => x = (sp_file A n).1 ∧ r_RA (sp_file A n).2 W') := by
  refine rCi.of (L := [some (.ref X.1), some (.int n)]) (by rw [ml64]; rfl) ?_
  refine br64_0 (r_in _ _ _) ?_
  rintro v W1 ⟨rfl, rfl⟩
  have h0 : r_RA A (hset W 0 0) := h.hset 0 0 (by decide)
  unfold sp_file
  by_cases hn : 0 ≤ n ∧ n ≤ 100000
  · rw [if_pos hn, if_pos hn]
    refine br64_12 (fun _ => ?_) (fun e => absurd e (by decide))
    have hnf : (hset W 0 0).2 1 = nI (m_nF A) := h0.1.1
    have hle : m_nF A ≤ 30 := hI.1.1
    refine br64_18 (fun e => ?_) (fun e => ?_)
    · have hlt : m_nF A < 30 := by
        rcases Nat.lt_or_ge (m_nF A) 30 with q | q
        · exact q
        · exact absurd (by rw [hnf, show m_nF A = 30 by omega]; rfl) e
      rw [if_neg (by omega)]
      refine br64_30 (i_1 := m_nF A) hnf hlt ⟨_, rfl, ?_, ?_⟩
      · rw [hset_s, gset_2, hnf, nI_1]
        exact nI_pred _
      · refine h0.wF ⟨?_, fun i hi => ?_⟩ (fun k hk => ?_) (fun k hk => ?_)
        · rw [hset_s, gset_2, hnf, nI_1]
          rfl
        · show (if 2 = 2 ∧ i = m_nF A then n else (hset W 0 0).1 2 i) = nI (va_up (m_fz A) (m_nF A) n.toNatClampNeg i)
          by_cases e : i = m_nF A
          · rw [if_pos ⟨rfl, e⟩, e, va_up_self]
            exact nI_32 n hn.1
          · rw [if_neg (fun z => e z.2), va_up_ne _ _ e]
            have hi' : i < m_nF A + 1 := hi
            exact h0.1.2 i (by omega)
        · rw [hset_1]
          exact gset_k _ _ _ (fun e => by subst e; revert hk; decide)
        · rw [hset_n _ _ (fun e => by subst e; revert hk; decide)]
          rfl
    · have he : m_nF A = 30 := by
        rw [hnf] at e
        exact (nI_eq (by omega) (by decide)).mp e
      rw [if_pos he]
      exact br64_27 ⟨_, rfl, rfl, h0⟩
  · rw [if_neg hn, if_neg hn]
    refine br64_12 (fun e => absurd rfl e) (fun _ => ?_)
    exact br64_15 ⟨_, rfl, rfl, h0⟩
theorem r_size (hI : m_Inv A) (h : r_RA A W) (f n : Int32) : rCi ext X 2 66 [.ref X.1, .int f, .int n] W (fun x W' => x = (sp_size A f n).1 ∧ r_RA (sp_size A f n).2 W') := by
  refine rCi.of (L := [some (.ref X.1), some (.int f), some (.int n), none]) (by rw [ml66]; rfl) ?_
  refine br66_0 (r_isFile _) ?_
  rintro v W1 ⟨rfl, rfl⟩
  have h0 : r_RA A (hset W 0 0) := h.hset 0 0 (by decide)
  have hnf : (hset W 0 0).2 1 = nI (m_nF A) := h0.1.1
  have hle : m_nF A ≤ 30 := hI.1.1
  unfold sp_size
  rw [hnf]
  by_cases hf : 0 ≤ f ∧ f ≤ nI (m_nF A) - 1
  · rw [if_pos hf, if_pos hf]
    refine br66_10 (fun _ => ?_) (fun e => absurd e (by decide))
    refine br66_15 ((r_in _ _ _).mono (Nat.zero_le _)) ?_
    rintro v W1 ⟨rfl, rfl⟩
    obtain ⟨i, hi, rfl⟩ := (rI_rng (by omega)).mp hf
    rw [nI_clamp (by omega)]
    by_cases hn : 0 ≤ n ∧ n ≤ 100000
    · rw [if_pos hn, if_pos hn]
      refine br66_22 (fun _ => ?_) (fun e => absurd e (by decide))
      refine br66_28 (i_1 := i) (i_4 := i) rfl (by omega) rfl (by omega) ⟨_, rfl, h0.1.2 i hi, ?_⟩
      refine h0.wF ⟨hnf, fun j hj => ?_⟩ (fun k hk => gset_k _ _ _ (fun e => by subst e; revert hk; decide)) (fun k hk => rfl)
      show (if 2 = 2 ∧ j = i then n else (hset W 0 0).1 2 j) = nI (va_up (m_fz A) i n.toNatClampNeg j)
      by_cases e : j = i
      · rw [if_pos ⟨rfl, e⟩, e, va_up_self]
        exact nI_32 n hn.1
      · rw [if_neg (fun z => e z.2), va_up_ne _ _ e]
        exact h0.1.2 j hj
    · rw [if_neg hn, if_neg hn]
      refine br66_22 (fun e => absurd rfl e) (fun _ => ?_)
      exact br66_25 ⟨_, rfl, rfl, h0⟩
  · rw [if_neg hf, if_neg hf]
    refine br66_10 (fun e => absurd rfl e) (fun _ => ?_)
    exact br66_13 ⟨_, rfl, rfl, h0⟩
theorem r_map (hI : m_Inv A) (h : r_RA A W) (n : Int32) : rCi ext X 1 68 [.ref X.1, .int n] W (fun x W' => x = (sp_map A n).1 ∧ r_RA (sp_map A n).2 W') := by
  refine rCi.of (L := [some (.ref X.1), some (.int n)]) (by rw [ml68]; rfl) ?_
  refine br68_0 (r_in _ _ _) ?_
  rintro v W1 ⟨rfl, rfl⟩
  have h0 : r_RA A (hset W 0 0) := h.hset 0 0 (by decide)
  unfold sp_map
  by_cases hn : 0 ≤ n ∧ n ≤ 1
  · rw [if_pos hn, if_pos hn]
    refine br68_11 (fun _ => ?_) (fun e => absurd e (by decide))
    have hnf : (hset W 0 0).2 3 = nI (m_nM A) := h0.2.1.1
    have hle : m_nM A ≤ 5 := hI.2.1.1
    refine br68_17 (fun e => ?_) (fun e => ?_)
    · have hlt : m_nM A < 5 := by
        rcases Nat.lt_or_ge (m_nM A) 5 with q | q
        · exact q
        · exact absurd (by rw [hnf, show m_nM A = 5 by omega]; rfl) e
      rw [if_neg (by omega)]
      refine br68_28 (i_1 := m_nM A) hnf hlt ⟨_, rfl, ?_, ?_⟩
      · rw [hset_s, gset_2, hnf, nI_1]
        exact nI_pred _
      · refine h0.wM ⟨?_, fun i hi => ?_⟩ (fun k hk => ?_) (fun k hk => ?_)
        · rw [hset_s, gset_2, hnf, nI_1]
          rfl
        · show (if 4 = 4 ∧ i = m_nM A then n else (hset W 0 0).1 4 i) = nI (va_up (m_kd A) (m_nM A) n.toNatClampNeg i)
          by_cases e : i = m_nM A
          · rw [if_pos ⟨rfl, e⟩, e, va_up_self]
            exact nI_32 n hn.1
          · rw [if_neg (fun z => e z.2), va_up_ne _ _ e]
            have hi' : i < m_nM A + 1 := hi
            exact h0.2.1.2 i (by omega)
        · rw [hset_1]
          exact gset_k _ _ _ (fun e => by subst e; revert hk; decide)
        · rw [hset_n _ _ (fun e => by subst e; revert hk; decide)]
          rfl
    · have he : m_nM A = 5 := by
        rw [hnf] at e
        exact (nI_eq (by omega) (by decide)).mp e
      rw [if_pos he]
      exact br68_25 ⟨_, rfl, rfl, h0⟩
  · rw [if_neg hn, if_neg hn]
    refine br68_11 (fun e => absurd rfl e) (fun _ => ?_)
    exact br68_14 ⟨_, rfl, rfl, h0⟩
end RS2
