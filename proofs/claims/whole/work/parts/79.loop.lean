/-! THE LAW'S LOOP -/
theorem and15 (y : Int32) : ∃ c, c < 16 ∧ y &&& (15 : Int32) = nI c := by
  refine ⟨(y &&& (15 : Int32)).toBitVec.toNat, ?_, ?_⟩
  · have e : (y &&& (15 : Int32)).toBitVec = y.toBitVec &&& 15#32 := rfl
    rw [e, BitVec.toNat_and]
    exact Nat.lt_of_le_of_lt Nat.and_le_right (by decide)
  · apply Int32.toBitVec_inj.mp
    show _ = BitVec.ofNat 32 _
    rw [BitVec.ofNat_toNat, BitVec.setWidth_eq]
theorem nI_m5 {n j : Nat} (hn : n ≤ 1000000) (hj : j ≤ 1000000) : (nI n - (5 : Int32) < nI j) ↔ n < j + 5 := by
  by_cases c : 5 ≤ n
  · obtain ⟨m, rfl⟩ : ∃ m, n = m + 5 := ⟨n - 5, by omega⟩
    have e : nI (m + 5) - (5 : Int32) = nI m := by
      rw [← nI_add m 5, show nI 5 = (5 : Int32) from rfl, Int32.add_sub_cancel]
    rw [e, nI_ltI (by omega) (by omega)]
    omega
  · have h0 : nI n - (5 : Int32) < 0 := by
      match n, c with
      | 0, _ => decide
      | 1, _ => decide
      | 2, _ => decide
      | 3, _ => decide
      | 4, _ => decide
      | n + 5, c => exact absurd (by omega) c
    constructor
    · intro _; omega
    · intro _
      have h1 := nI_pos' (n := j) (by omega)
      rw [Int32.lt_iff_toInt_lt] at h0 ⊢
      rw [Int32.le_iff_toInt_le] at h1
      omega
theorem sp_keep_size (A : mS) (f n : Int32) : m_nF (sp_size A f n).2 = m_nF A ∧ m_nM (sp_size A f n).2 = m_nM A ∧ m_nD (sp_size A f n).2 = m_nD A ∧ m_lk (sp_size A f n).2 = m_lk A := by
  unfold sp_size
  split
  · split
    · exact ⟨rfl, rfl, rfl, rfl⟩
    · exact ⟨rfl, rfl, rfl, rfl⟩
  · exact ⟨rfl, rfl, rfl, rfl⟩
theorem sp_keep_repeat (A : mS) (f n : Int32) : m_nF (sp_repeat A f n).2 = m_nF A ∧ m_nM (sp_repeat A f n).2 = m_nM A ∧ m_nD (sp_repeat A f n).2 = m_nD A ∧ m_lk (sp_repeat A f n).2 = m_lk A := by
  unfold sp_repeat
  split
  · split
    · exact ⟨rfl, rfl, rfl, rfl⟩
    · exact ⟨rfl, rfl, rfl, rfl⟩
  · exact ⟨rfl, rfl, rfl, rfl⟩
theorem sp_keep_move (A : mS) (f n : Int32) : m_nF (sp_move A f n).2 = m_nF A ∧ m_nM (sp_move A f n).2 = m_nM A ∧ m_nD (sp_move A f n).2 = m_nD A ∧ m_lk (sp_move A f n).2 = m_lk A := by
  unfold sp_move
  split
  · split
    · exact ⟨rfl, rfl, rfl, rfl⟩
    · exact ⟨rfl, rfl, rfl, rfl⟩
  · exact ⟨rfl, rfl, rfl, rfl⟩
theorem sp_keep_read (A : mS) (f : Int32) : m_nF (sp_read A f).2 = m_nF A ∧ m_nM (sp_read A f).2 = m_nM A ∧ m_nD (sp_read A f).2 = m_nD A ∧ m_lk (sp_read A f).2 = m_lk A := by
  unfold sp_read
  split
  · exact ⟨rfl, rfl, rfl, rfl⟩
  · exact ⟨rfl, rfl, rfl, rfl⟩
theorem sp_keep_check (A : mS) (f : Int32) : m_nF (sp_check A f).2 = m_nF A ∧ m_nM (sp_check A f).2 = m_nM A ∧ m_nD (sp_check A f).2 = m_nD A ∧ m_lk (sp_check A f).2 = m_lk A := by
  unfold sp_check
  split
  · exact ⟨rfl, rfl, rfl, rfl⟩
  · exact ⟨rfl, rfl, rfl, rfl⟩
theorem sp_keep_print (A : mS) (f : Int32) : m_nF (sp_print A f).2 = m_nF A ∧ m_nM (sp_print A f).2 = m_nM A ∧ m_nD (sp_print A f).2 = m_nD A ∧ m_lk (sp_print A f).2 = m_lk A := by
  unfold sp_print
  split
  · exact ⟨rfl, rfl, rfl, rfl⟩
  · exact ⟨rfl, rfl, rfl, rfl⟩
/-- a call of the reference leaves the row for the answer -/
theorem law_ro {ext : av_X} {sc n ax b o : Nat} {scr : Nat → Int32} {A B B' : mS} {P : rW → Prop} {S : av_St} {d y : Nat} {as : List Value} {P' : Int32 → rW → Prop} (h : lK sc n scr ax b o A B P S) (hr : ∀ X W, r_RA B W → P W → rCi ext X d y (.ref X.1 :: as) W (fun v W' => P' v W' ∧ r_RA B' W')) :
    cti ext d y (.ref b :: as) S (fun v S' => (lK sc n scr ax b o A B' (P' v) S' ∧ S'.2.2 = S.2.2) ∧ S'.2.1 o = S.2.1 o) := by
  have h1 := h
  obtain ⟨X, T, ar, W, g1, g2, g3, g4, g5, g6, gP, g7, g8, g9, g10, g11, g12⟩ := h1
  have hb : S.1 b = some (.inl 10) := g5.2.2.1
  have q := law_r h hr
  obtain ⟨m, r, S', e1, v, e2, e3⟩ := q
  obtain ⟨m', r', S'', f1, v', f2, W', f3, f4⟩ := hr (b, ar, S) W g6 gP S g5
  have e : (r, S') = (r', S'') := by
    have p1 := av_run_mono m (max m m') d d _ _ _ _ _ _ (Nat.le_max_left _ _) (Nat.le_refl _) e1
    have p2 := av_run_mono m' (max m m') d d _ _ _ _ _ _ (Nat.le_max_right _ _) (Nat.le_refl _) f1
    exact Option.some.inj (p1.symm.trans p2)
  cases e
  refine ⟨m, r, S', e1, v, e2, e3, ?_⟩
  refine f3.2.2.2.2.2.2.2 o (fun e => by rw [e] at g10; rw [hb] at g10; cases g10) (fun k q e => ?_)
  have q1 : S.1 (ar k) = some (.inr (rl_kd k, rl_len k)) := g5.ta k q
  rw [show ar k = o from e.symm, g10] at q1
  have q3 : 4 = rl_kd k := congrArg Prod.fst (Sum.inr.inj (Option.some.inj q1))
  have : rl_kd k ≤ 3 := by unfold rl_kd; split <;> omega
  omega
theorem lg_cmp_self (x : Int64) : lg_cmp x x = 0 := by
  unfold lg_cmp
  simp
section LLP
variable {sc n ax b o : Nat} {scr : Nat → Int32} {A : mS} {S : av_St}
/-- one call is through: the next one begins -/
def l_Nx (sc n ax b o : Nat) (scr : Nat → Int32) (j : Nat) (S : av_St) (Q : Option Value → av_St → Prop) : Prop := ∀ (A' : mS) (S' : av_St) (o5 o6 : Option Value), m_Inv A' → lK sc n scr ax b o A' A' (fun _ => True) S' → (S.2.2.1 ≤ S'.2.2.1 ∧ S'.2.2.1 ≤ S.2.2.1 + 3) → (S.2.2.2 ≤ S'.2.2.2 ∧ S'.2.2.2 ≤ S.2.2.2 + 40) → aw sm_ext 9 98 23 [some (.ref sc), some (.ref ax), some (.ref b), some (.ref o), some (.int (nI (j + 5))), o5, o6] [] S' Q

theorem law_file {j : Nat} {Q : Option Value → av_St → Prop} {o5 o6 : Option Value} (hn : n ≤ 2560) (hj : j + 5 ≤ n) (hI : m_Inv A) (h : lK sc n scr ax b o A A (fun _ => True) S) (hN : l_Nx sc n ax b o scr j S Q) : aw sm_ext 9 98 116 [some (.ref sc), some (.ref ax), some (.ref b), some (.ref o), some (.int (nI j)), o5, o6] [] S Q := by
  obtain ⟨s1, s2, s3, s4, s5, -⟩ := h.st
  have ix : ∀ q, nI j + nI q = nI (j + q) := fun q => nI_add j q
  refine bk98_116 (a0 := sc) (a1 := ax) (r2 := some b) (r3 := some o) (x4 := nI j) (i_4 := j + 1) (y7 := scr (j + 1)) s1 (by omega) (ix 1) (by omega) (s2 _ (by omega)) s4 (law_c (A' := (sp_file A (scr (j + 1))).2) (r := (sp_file A (scr (j + 1))).1) h (fun X T hX hT => (c_file hI hX hT (scr (j + 1))).mono (by decide))) ?_
  rintro v S1 ⟨rfl, h1, z1, z2⟩
  obtain ⟨t1, t2, t3, t4, t5, -⟩ := h1.st
  refine bk98_126 (a0 := sc) (r1 := some ax) (a2 := b) (r3 := some o) (x4 := nI j) (i_4 := j + 1) (y7 := scr (j + 1)) t1 (by omega) (ix 1) (by omega) (t2 _ (by omega)) t5 (law_r (B' := (sp_file A (scr (j + 1))).2) (P' := fun v _ => v = (sp_file A (scr (j + 1))).1) h1 (fun X W hW _ => (r_file hI hW (scr (j + 1))).mono (by decide))) ?_
  rintro v2 S2 ⟨h2, z3⟩
  obtain ⟨W0, rfl⟩ := h2.fact
  refine bk98_136 (r0 := some sc) (r1 := some ax) (r2 := some b) (r3 := some o) (fun _ => bk98_715 (r0 := some sc) (r1 := some ax) (r2 := some b) (r3 := some o) ?_) (fun q => absurd rfl q)
  rw [show nI j + 5 = nI (j + 5) from ix 5]
  exact hN _ S2 _ _ (i_file hI (scr (j + 1))) (h2.up (fun _ _ => trivial)) (by rw [z3]; exact z1) (by rw [z3]; exact z2)
theorem law_size {j : Nat} {Q : Option Value → av_St → Prop} {o5 o6 : Option Value} (hn : n ≤ 2560) (hj : j + 5 ≤ n) (hI : m_Inv A) (h : lK sc n scr ax b o A A (fun _ => True) S) (hN : l_Nx sc n ax b o scr j S Q) : aw sm_ext 9 98 141 [some (.ref sc), some (.ref ax), some (.ref b), some (.ref o), some (.int (nI j)), o5, o6] [] S Q := by
  obtain ⟨s1, s2, s3, s4, s5, -⟩ := h.st
  have ix : ∀ q, nI j + nI q = nI (j + q) := fun q => nI_add j q
  refine bk98_141 (a0 := sc) (a1 := ax) (r2 := some b) (r3 := some o) (x4 := nI j) (i_4 := j + 1) (i_9 := j + 2) (y7 := scr (j + 1)) (y12 := scr (j + 2)) s1 (by omega) (ix 1) (by omega) (s2 _ (by omega)) (ix 2) (by omega) (s2 _ (by omega)) s4 (law_c (A' := (sp_size A (scr (j + 1)) (scr (j + 2))).2) (r := (sp_size A (scr (j + 1)) (scr (j + 2))).1) h (fun X T hX hT => (law_cc (c_size hI hX hT (scr (j + 1)) (scr (j + 2))) (hX.cg (sp_keep_size A (scr (j + 1)) (scr (j + 2))).1 (sp_keep_size A (scr (j + 1)) (scr (j + 2))).2.1 (sp_keep_size A (scr (j + 1)) (scr (j + 2))).2.2.1 (sp_keep_size A (scr (j + 1)) (scr (j + 2))).2.2.2)).mono (by decide))) ?_
  rintro v S1 ⟨rfl, h1, z1, z2⟩
  obtain ⟨t1, t2, t3, t4, t5, -⟩ := h1.st
  refine bk98_157 (a0 := sc) (r1 := some ax) (a2 := b) (r3 := some o) (x4 := nI j) (i_4 := j + 1) (i_9 := j + 2) (y7 := scr (j + 1)) (y12 := scr (j + 2)) t1 (by omega) (ix 1) (by omega) (t2 _ (by omega)) (ix 2) (by omega) (t2 _ (by omega)) t5 (law_r (B' := (sp_size A (scr (j + 1)) (scr (j + 2))).2) (P' := fun v _ => v = (sp_size A (scr (j + 1)) (scr (j + 2))).1) h1 (fun X W hW _ => (r_size hI hW (scr (j + 1)) (scr (j + 2))).mono (by decide))) ?_
  rintro v2 S2 ⟨h2, z3⟩
  obtain ⟨W0, rfl⟩ := h2.fact
  refine bk98_173 (r0 := some sc) (r1 := some ax) (r2 := some b) (r3 := some o) (fun _ => bk98_715 (r0 := some sc) (r1 := some ax) (r2 := some b) (r3 := some o) ?_) (fun q => absurd rfl q)
  rw [show nI j + 5 = nI (j + 5) from ix 5]
  exact hN _ S2 _ _ (i_size hI (scr (j + 1)) (scr (j + 2))) (h2.up (fun _ _ => trivial)) (by rw [z3]; exact z1) (by rw [z3]; exact z2)
theorem law_map {j : Nat} {Q : Option Value → av_St → Prop} {o5 o6 : Option Value} (hn : n ≤ 2560) (hj : j + 5 ≤ n) (hI : m_Inv A) (h : lK sc n scr ax b o A A (fun _ => True) S) (hN : l_Nx sc n ax b o scr j S Q) : aw sm_ext 9 98 178 [some (.ref sc), some (.ref ax), some (.ref b), some (.ref o), some (.int (nI j)), o5, o6] [] S Q := by
  obtain ⟨s1, s2, s3, s4, s5, -⟩ := h.st
  have ix : ∀ q, nI j + nI q = nI (j + q) := fun q => nI_add j q
  refine bk98_178 (a0 := sc) (a1 := ax) (r2 := some b) (r3 := some o) (x4 := nI j) (i_4 := j + 1) (y7 := scr (j + 1)) s1 (by omega) (ix 1) (by omega) (s2 _ (by omega)) s4 (law_c (A' := (sp_map A (scr (j + 1))).2) (r := (sp_map A (scr (j + 1))).1) h (fun X T hX hT => (c_map hI hX hT (scr (j + 1))).mono (by decide))) ?_
  rintro v S1 ⟨rfl, h1, z1, z2⟩
  obtain ⟨t1, t2, t3, t4, t5, -⟩ := h1.st
  refine bk98_188 (a0 := sc) (r1 := some ax) (a2 := b) (r3 := some o) (x4 := nI j) (i_4 := j + 1) (y7 := scr (j + 1)) t1 (by omega) (ix 1) (by omega) (t2 _ (by omega)) t5 (law_r (B' := (sp_map A (scr (j + 1))).2) (P' := fun v _ => v = (sp_map A (scr (j + 1))).1) h1 (fun X W hW _ => (r_map hI hW (scr (j + 1))).mono (by decide))) ?_
  rintro v2 S2 ⟨h2, z3⟩
  obtain ⟨W0, rfl⟩ := h2.fact
  refine bk98_198 (r0 := some sc) (r1 := some ax) (r2 := some b) (r3 := some o) (fun _ => bk98_715 (r0 := some sc) (r1 := some ax) (r2 := some b) (r3 := some o) ?_) (fun q => absurd rfl q)
  rw [show nI j + 5 = nI (j + 5) from ix 5]
  exact hN _ S2 _ _ (i_map hI (scr (j + 1))) (h2.up (fun _ _ => trivial)) (by rw [z3]; exact z1) (by rw [z3]; exact z2)
theorem law_division {j : Nat} {Q : Option Value → av_St → Prop} {o5 o6 : Option Value} (hn : n ≤ 2560) (hj : j + 5 ≤ n) (hI : m_Inv A) (h : lK sc n scr ax b o A A (fun _ => True) S) (hN : l_Nx sc n ax b o scr j S Q) : aw sm_ext 9 98 203 [some (.ref sc), some (.ref ax), some (.ref b), some (.ref o), some (.int (nI j)), o5, o6] [] S Q := by
  obtain ⟨s1, s2, s3, s4, s5, -⟩ := h.st
  have ix : ∀ q, nI j + nI q = nI (j + q) := fun q => nI_add j q
  refine bk98_203 (a0 := sc) (a1 := ax) (r2 := some b) (r3 := some o) (x4 := nI j) (i_4 := j + 1) (i_9 := j + 2) (i_14 := j + 3) (i_19 := j + 4) (y7 := scr (j + 1)) (y12 := scr (j + 2)) (y17 := scr (j + 3)) (y22 := scr (j + 4)) s1 (by omega) (ix 1) (by omega) (s2 _ (by omega)) (ix 2) (by omega) (s2 _ (by omega)) (ix 3) (by omega) (s2 _ (by omega)) (ix 4) (by omega) (s2 _ (by omega)) s4 (law_c (A' := (sp_division A (scr (j + 1)) (scr (j + 2)) (scr (j + 3)) (scr (j + 4))).2) (r := (sp_division A (scr (j + 1)) (scr (j + 2)) (scr (j + 3)) (scr (j + 4))).1) h (fun X T hX hT => (c_division hI hX hT (scr (j + 1)) (scr (j + 2)) (scr (j + 3)) (scr (j + 4))).mono (by decide))) ?_
  rintro v S1 ⟨rfl, h1, z1, z2⟩
  obtain ⟨t1, t2, t3, t4, t5, -⟩ := h1.st
  refine bk98_231 (a0 := sc) (r1 := some ax) (a2 := b) (r3 := some o) (x4 := nI j) (i_4 := j + 1) (i_9 := j + 2) (i_14 := j + 3) (i_19 := j + 4) (y7 := scr (j + 1)) (y12 := scr (j + 2)) (y17 := scr (j + 3)) (y22 := scr (j + 4)) t1 (by omega) (ix 1) (by omega) (t2 _ (by omega)) (ix 2) (by omega) (t2 _ (by omega)) (ix 3) (by omega) (t2 _ (by omega)) (ix 4) (by omega) (t2 _ (by omega)) t5 (law_r (B' := (sp_division A (scr (j + 1)) (scr (j + 2)) (scr (j + 3)) (scr (j + 4))).2) (P' := fun v _ => v = (sp_division A (scr (j + 1)) (scr (j + 2)) (scr (j + 3)) (scr (j + 4))).1) h1 (fun X W hW _ => (r_division hI hW (scr (j + 1)) (scr (j + 2)) (scr (j + 3)) (scr (j + 4))).mono (by decide))) ?_
  rintro v2 S2 ⟨h2, z3⟩
  obtain ⟨W0, rfl⟩ := h2.fact
  refine bk98_259 (r0 := some sc) (r1 := some ax) (r2 := some b) (r3 := some o) (fun _ => bk98_715 (r0 := some sc) (r1 := some ax) (r2 := some b) (r3 := some o) ?_) (fun q => absurd rfl q)
  rw [show nI j + 5 = nI (j + 5) from ix 5]
  exact hN _ S2 _ _ (i_division hI (scr (j + 1)) (scr (j + 2)) (scr (j + 3)) (scr (j + 4))) (h2.up (fun _ _ => trivial)) (by rw [z3]; exact z1) (by rw [z3]; exact z2)
theorem law_link {j : Nat} {Q : Option Value → av_St → Prop} {o5 o6 : Option Value} (hn : n ≤ 2560) (hj : j + 5 ≤ n) (hI : m_Inv A) (h : lK sc n scr ax b o A A (fun _ => True) S) (hN : l_Nx sc n ax b o scr j S Q) : aw sm_ext 9 98 264 [some (.ref sc), some (.ref ax), some (.ref b), some (.ref o), some (.int (nI j)), o5, o6] [] S Q := by
  obtain ⟨s1, s2, s3, s4, s5, -⟩ := h.st
  have ix : ∀ q, nI j + nI q = nI (j + q) := fun q => nI_add j q
  refine bk98_264 (a0 := sc) (a1 := ax) (r2 := some b) (r3 := some o) (x4 := nI j) (i_4 := j + 1) (i_9 := j + 2) (i_14 := j + 3) (i_19 := j + 4) (y7 := scr (j + 1)) (y12 := scr (j + 2)) (y17 := scr (j + 3)) (y22 := scr (j + 4)) s1 (by omega) (ix 1) (by omega) (s2 _ (by omega)) (ix 2) (by omega) (s2 _ (by omega)) (ix 3) (by omega) (s2 _ (by omega)) (ix 4) (by omega) (s2 _ (by omega)) s4 (law_c (A' := (sp_link A (scr (j + 1)) (scr (j + 2)) (scr (j + 3)) (scr (j + 4))).2) (r := (sp_link A (scr (j + 1)) (scr (j + 2)) (scr (j + 3)) (scr (j + 4))).1) h (fun X T hX hT => (c_link hI hX hT (scr (j + 1)) (scr (j + 2)) (scr (j + 3)) (scr (j + 4))).mono (by decide))) ?_
  rintro v S1 ⟨rfl, h1, z1, z2⟩
  obtain ⟨t1, t2, t3, t4, t5, -⟩ := h1.st
  refine bk98_292 (a0 := sc) (r1 := some ax) (a2 := b) (r3 := some o) (x4 := nI j) (i_4 := j + 1) (i_9 := j + 2) (i_14 := j + 3) (i_19 := j + 4) (y7 := scr (j + 1)) (y12 := scr (j + 2)) (y17 := scr (j + 3)) (y22 := scr (j + 4)) t1 (by omega) (ix 1) (by omega) (t2 _ (by omega)) (ix 2) (by omega) (t2 _ (by omega)) (ix 3) (by omega) (t2 _ (by omega)) (ix 4) (by omega) (t2 _ (by omega)) t5 (law_r (B' := (sp_link A (scr (j + 1)) (scr (j + 2)) (scr (j + 3)) (scr (j + 4))).2) (P' := fun v _ => v = (sp_link A (scr (j + 1)) (scr (j + 2)) (scr (j + 3)) (scr (j + 4))).1) h1 (fun X W hW _ => (r_link hI hW (scr (j + 1)) (scr (j + 2)) (scr (j + 3)) (scr (j + 4))).mono (by decide))) ?_
  rintro v2 S2 ⟨h2, z3⟩
  obtain ⟨W0, rfl⟩ := h2.fact
  refine bk98_320 (r0 := some sc) (r1 := some ax) (r2 := some b) (r3 := some o) (fun _ => bk98_715 (r0 := some sc) (r1 := some ax) (r2 := some b) (r3 := some o) ?_) (fun q => absurd rfl q)
  rw [show nI j + 5 = nI (j + 5) from ix 5]
  exact hN _ S2 _ _ (i_link hI (scr (j + 1)) (scr (j + 2)) (scr (j + 3)) (scr (j + 4))) (h2.up (fun _ _ => trivial)) (by rw [z3]; exact z1) (by rw [z3]; exact z2)
theorem law_repeat {j : Nat} {Q : Option Value → av_St → Prop} {o5 o6 : Option Value} (hn : n ≤ 2560) (hj : j + 5 ≤ n) (hI : m_Inv A) (h : lK sc n scr ax b o A A (fun _ => True) S) (hN : l_Nx sc n ax b o scr j S Q) : aw sm_ext 9 98 325 [some (.ref sc), some (.ref ax), some (.ref b), some (.ref o), some (.int (nI j)), o5, o6] [] S Q := by
  obtain ⟨s1, s2, s3, s4, s5, -⟩ := h.st
  have ix : ∀ q, nI j + nI q = nI (j + q) := fun q => nI_add j q
  refine bk98_325 (a0 := sc) (a1 := ax) (r2 := some b) (r3 := some o) (x4 := nI j) (i_4 := j + 1) (i_9 := j + 2) (y7 := scr (j + 1)) (y12 := scr (j + 2)) s1 (by omega) (ix 1) (by omega) (s2 _ (by omega)) (ix 2) (by omega) (s2 _ (by omega)) s4 (law_c (A' := (sp_repeat A (scr (j + 1)) (scr (j + 2))).2) (r := (sp_repeat A (scr (j + 1)) (scr (j + 2))).1) h (fun X T hX hT => (law_cc (c_repeat hI hX hT (scr (j + 1)) (scr (j + 2))) (hX.cg (sp_keep_repeat A (scr (j + 1)) (scr (j + 2))).1 (sp_keep_repeat A (scr (j + 1)) (scr (j + 2))).2.1 (sp_keep_repeat A (scr (j + 1)) (scr (j + 2))).2.2.1 (sp_keep_repeat A (scr (j + 1)) (scr (j + 2))).2.2.2)).mono (by decide))) ?_
  rintro v S1 ⟨rfl, h1, z1, z2⟩
  obtain ⟨t1, t2, t3, t4, t5, -⟩ := h1.st
  refine bk98_341 (a0 := sc) (r1 := some ax) (a2 := b) (r3 := some o) (x4 := nI j) (i_4 := j + 1) (i_9 := j + 2) (y7 := scr (j + 1)) (y12 := scr (j + 2)) t1 (by omega) (ix 1) (by omega) (t2 _ (by omega)) (ix 2) (by omega) (t2 _ (by omega)) t5 (law_r (B' := (sp_repeat A (scr (j + 1)) (scr (j + 2))).2) (P' := fun v _ => v = (sp_repeat A (scr (j + 1)) (scr (j + 2))).1) h1 (fun X W hW _ => (r_repeat hI hW (scr (j + 1)) (scr (j + 2))).mono (by decide))) ?_
  rintro v2 S2 ⟨h2, z3⟩
  obtain ⟨W0, rfl⟩ := h2.fact
  refine bk98_357 (r0 := some sc) (r1 := some ax) (r2 := some b) (r3 := some o) (fun _ => bk98_715 (r0 := some sc) (r1 := some ax) (r2 := some b) (r3 := some o) ?_) (fun q => absurd rfl q)
  rw [show nI j + 5 = nI (j + 5) from ix 5]
  exact hN _ S2 _ _ (i_repeat hI (scr (j + 1)) (scr (j + 2))) (h2.up (fun _ _ => trivial)) (by rw [z3]; exact z1) (by rw [z3]; exact z2)
theorem law_move {j : Nat} {Q : Option Value → av_St → Prop} {o5 o6 : Option Value} (hn : n ≤ 2560) (hj : j + 5 ≤ n) (hI : m_Inv A) (h : lK sc n scr ax b o A A (fun _ => True) S) (hN : l_Nx sc n ax b o scr j S Q) : aw sm_ext 9 98 362 [some (.ref sc), some (.ref ax), some (.ref b), some (.ref o), some (.int (nI j)), o5, o6] [] S Q := by
  obtain ⟨s1, s2, s3, s4, s5, -⟩ := h.st
  have ix : ∀ q, nI j + nI q = nI (j + q) := fun q => nI_add j q
  refine bk98_362 (a0 := sc) (a1 := ax) (r2 := some b) (r3 := some o) (x4 := nI j) (i_4 := j + 1) (i_9 := j + 2) (y7 := scr (j + 1)) (y12 := scr (j + 2)) s1 (by omega) (ix 1) (by omega) (s2 _ (by omega)) (ix 2) (by omega) (s2 _ (by omega)) s4 (law_c (A' := (sp_move A (scr (j + 1)) (scr (j + 2))).2) (r := (sp_move A (scr (j + 1)) (scr (j + 2))).1) h (fun X T hX hT => (law_cc (c_move hI hX hT (scr (j + 1)) (scr (j + 2))) (hX.cg (sp_keep_move A (scr (j + 1)) (scr (j + 2))).1 (sp_keep_move A (scr (j + 1)) (scr (j + 2))).2.1 (sp_keep_move A (scr (j + 1)) (scr (j + 2))).2.2.1 (sp_keep_move A (scr (j + 1)) (scr (j + 2))).2.2.2)).mono (by decide))) ?_
  rintro v S1 ⟨rfl, h1, z1, z2⟩
  obtain ⟨t1, t2, t3, t4, t5, -⟩ := h1.st
  refine bk98_378 (a0 := sc) (r1 := some ax) (a2 := b) (r3 := some o) (x4 := nI j) (i_4 := j + 1) (i_9 := j + 2) (y7 := scr (j + 1)) (y12 := scr (j + 2)) t1 (by omega) (ix 1) (by omega) (t2 _ (by omega)) (ix 2) (by omega) (t2 _ (by omega)) t5 (law_r (B' := (sp_move A (scr (j + 1)) (scr (j + 2))).2) (P' := fun v _ => v = (sp_move A (scr (j + 1)) (scr (j + 2))).1) h1 (fun X W hW _ => (r_move hI hW (scr (j + 1)) (scr (j + 2))).mono (by decide))) ?_
  rintro v2 S2 ⟨h2, z3⟩
  obtain ⟨W0, rfl⟩ := h2.fact
  refine bk98_394 (r0 := some sc) (r1 := some ax) (r2 := some b) (r3 := some o) (fun _ => bk98_715 (r0 := some sc) (r1 := some ax) (r2 := some b) (r3 := some o) ?_) (fun q => absurd rfl q)
  rw [show nI j + 5 = nI (j + 5) from ix 5]
  exact hN _ S2 _ _ (i_move hI (scr (j + 1)) (scr (j + 2))) (h2.up (fun _ _ => trivial)) (by rw [z3]; exact z1) (by rw [z3]; exact z2)
theorem law_order {j : Nat} {Q : Option Value → av_St → Prop} {o5 o6 : Option Value} (hn : n ≤ 2560) (hj : j + 5 ≤ n) (hI : m_Inv A) (h : lK sc n scr ax b o A A (fun _ => True) S) (hN : l_Nx sc n ax b o scr j S Q) : aw sm_ext 9 98 399 [some (.ref sc), some (.ref ax), some (.ref b), some (.ref o), some (.int (nI j)), o5, o6] [] S Q := by
  obtain ⟨s1, s2, s3, s4, s5, -⟩ := h.st
  have ix : ∀ q, nI j + nI q = nI (j + q) := fun q => nI_add j q
  refine bk98_399 (a0 := sc) (a1 := ax) (r2 := some b) (r3 := some o) (x4 := nI j) (i_4 := j + 1) (i_9 := j + 2) (y7 := scr (j + 1)) (y12 := scr (j + 2)) s1 (by omega) (ix 1) (by omega) (s2 _ (by omega)) (ix 2) (by omega) (s2 _ (by omega)) s4 (law_c (A' := A) (r := sp_order A (scr (j + 1)) (scr (j + 2))) h (fun X T hX hT => (law_cc (c_order hI hX hT (scr (j + 1)) (scr (j + 2))) hX).mono (by decide))) ?_
  rintro v S1 ⟨rfl, h1, z1, z2⟩
  obtain ⟨t1, t2, t3, t4, t5, -⟩ := h1.st
  refine bk98_415 (a0 := sc) (r1 := some ax) (a2 := b) (r3 := some o) (x4 := nI j) (i_4 := j + 1) (i_9 := j + 2) (y7 := scr (j + 1)) (y12 := scr (j + 2)) t1 (by omega) (ix 1) (by omega) (t2 _ (by omega)) (ix 2) (by omega) (t2 _ (by omega)) t5 (law_r (B' := A) (P' := fun v _ => v = sp_order A (scr (j + 1)) (scr (j + 2))) h1 (fun X W hW _ => (r_order hI hW (scr (j + 1)) (scr (j + 2))).mono (by decide))) ?_
  rintro v2 S2 ⟨h2, z3⟩
  obtain ⟨W0, rfl⟩ := h2.fact
  refine bk98_431 (r0 := some sc) (r1 := some ax) (r2 := some b) (r3 := some o) (fun _ => bk98_715 (r0 := some sc) (r1 := some ax) (r2 := some b) (r3 := some o) ?_) (fun q => absurd rfl q)
  rw [show nI j + 5 = nI (j + 5) from ix 5]
  exact hN _ S2 _ _ hI (h2.up (fun _ _ => trivial)) (by rw [z3]; exact z1) (by rw [z3]; exact z2)
theorem law_read {j : Nat} {Q : Option Value → av_St → Prop} {o5 o6 : Option Value} (hn : n ≤ 2560) (hj : j + 5 ≤ n) (hI : m_Inv A) (h : lK sc n scr ax b o A A (fun _ => True) S) (hN : l_Nx sc n ax b o scr j S Q) : aw sm_ext 9 98 436 [some (.ref sc), some (.ref ax), some (.ref b), some (.ref o), some (.int (nI j)), o5, o6] [] S Q := by
  obtain ⟨s1, s2, s3, s4, s5, -⟩ := h.st
  have ix : ∀ q, nI j + nI q = nI (j + q) := fun q => nI_add j q
  refine bk98_436 (a0 := sc) (a1 := ax) (r2 := some b) (r3 := some o) (x4 := nI j) (i_4 := j + 1) (y7 := scr (j + 1)) s1 (by omega) (ix 1) (by omega) (s2 _ (by omega)) s4 (law_c (A' := (sp_read A (scr (j + 1))).2) (r := (sp_read A (scr (j + 1))).1) h (fun X T hX hT => (law_cc (c_read hI hX hT (scr (j + 1))) (hX.cg (sp_keep_read A (scr (j + 1))).1 (sp_keep_read A (scr (j + 1))).2.1 (sp_keep_read A (scr (j + 1))).2.2.1 (sp_keep_read A (scr (j + 1))).2.2.2)).mono (by decide))) ?_
  rintro v S1 ⟨rfl, h1, z1, z2⟩
  obtain ⟨t1, t2, t3, t4, t5, -⟩ := h1.st
  refine bk98_446 (a0 := sc) (r1 := some ax) (a2 := b) (r3 := some o) (x4 := nI j) (i_4 := j + 1) (y7 := scr (j + 1)) t1 (by omega) (ix 1) (by omega) (t2 _ (by omega)) t5 (law_r (B' := (sp_read A (scr (j + 1))).2) (P' := fun v _ => v = (sp_read A (scr (j + 1))).1) h1 (fun X W hW _ => (r_read hI hW (scr (j + 1))).mono (by decide))) ?_
  rintro v2 S2 ⟨h2, z3⟩
  obtain ⟨W0, rfl⟩ := h2.fact
  refine bk98_456 (r0 := some sc) (r1 := some ax) (r2 := some b) (r3 := some o) (fun _ => bk98_715 (r0 := some sc) (r1 := some ax) (r2 := some b) (r3 := some o) ?_) (fun q => absurd rfl q)
  rw [show nI j + 5 = nI (j + 5) from ix 5]
  exact hN _ S2 _ _ (i_read hI (scr (j + 1))) (h2.up (fun _ _ => trivial)) (by rw [z3]; exact z1) (by rw [z3]; exact z2)
theorem law_step {j : Nat} {Q : Option Value → av_St → Prop} {o5 o6 : Option Value} (hn : n ≤ 2560) (hj : j + 5 ≤ n) (hI : m_Inv A) (h : lK sc n scr ax b o A A (fun _ => True) S) (hN : l_Nx sc n ax b o scr j S Q) : aw sm_ext 9 98 461 [some (.ref sc), some (.ref ax), some (.ref b), some (.ref o), some (.int (nI j)), o5, o6] [] S Q := by
  obtain ⟨s1, s2, s3, s4, s5, -⟩ := h.st
  have ix : ∀ q, nI j + nI q = nI (j + q) := fun q => nI_add j q
  refine bk98_461 (a0 := sc) (a1 := ax) (r2 := some b) (r3 := some o) (x4 := nI j) (i_4 := j + 1) (i_9 := j + 2) (y7 := scr (j + 1)) (y12 := scr (j + 2)) s1 (by omega) (ix 1) (by omega) (s2 _ (by omega)) (ix 2) (by omega) (s2 _ (by omega)) s4 (law_c (A' := A) (r := sp_step A (scr (j + 1)) (scr (j + 2))) h (fun X T hX hT => (law_cc (c_step hI hX hT (scr (j + 1)) (scr (j + 2))) hX).mono (by decide))) ?_
  rintro v S1 ⟨rfl, h1, z1, z2⟩
  obtain ⟨t1, t2, t3, t4, t5, -⟩ := h1.st
  refine bk98_477 (a0 := sc) (r1 := some ax) (a2 := b) (r3 := some o) (x4 := nI j) (i_4 := j + 1) (i_9 := j + 2) (y7 := scr (j + 1)) (y12 := scr (j + 2)) t1 (by omega) (ix 1) (by omega) (t2 _ (by omega)) (ix 2) (by omega) (t2 _ (by omega)) t5 (law_r (B' := A) (P' := fun v _ => v = sp_step A (scr (j + 1)) (scr (j + 2))) h1 (fun X W hW _ => (r_step hI hW (scr (j + 1)) (scr (j + 2))).mono (by decide))) ?_
  rintro v2 S2 ⟨h2, z3⟩
  obtain ⟨W0, rfl⟩ := h2.fact
  refine bk98_493 (r0 := some sc) (r1 := some ax) (r2 := some b) (r3 := some o) (fun _ => bk98_715 (r0 := some sc) (r1 := some ax) (r2 := some b) (r3 := some o) ?_) (fun q => absurd rfl q)
  rw [show nI j + 5 = nI (j + 5) from ix 5]
  exact hN _ S2 _ _ hI (h2.up (fun _ _ => trivial)) (by rw [z3]; exact z1) (by rw [z3]; exact z2)
theorem law_check {j : Nat} {Q : Option Value → av_St → Prop} {o5 o6 : Option Value} (hn : n ≤ 2560) (hj : j + 5 ≤ n) (hI : m_Inv A) (h : lK sc n scr ax b o A A (fun _ => True) S) (hN : l_Nx sc n ax b o scr j S Q) : aw sm_ext 9 98 498 [some (.ref sc), some (.ref ax), some (.ref b), some (.ref o), some (.int (nI j)), o5, o6] [] S Q := by
  obtain ⟨s1, s2, s3, s4, s5, -⟩ := h.st
  have ix : ∀ q, nI j + nI q = nI (j + q) := fun q => nI_add j q
  refine bk98_498 (a0 := sc) (a1 := ax) (r2 := some b) (r3 := some o) (x4 := nI j) (i_4 := j + 1) (y7 := scr (j + 1)) s1 (by omega) (ix 1) (by omega) (s2 _ (by omega)) s4 (law_c (A' := (sp_check A (scr (j + 1))).2) (r := (sp_check A (scr (j + 1))).1) h (fun X T hX hT => (law_cc (c_check hI hX hT (scr (j + 1))) (hX.cg (sp_keep_check A (scr (j + 1))).1 (sp_keep_check A (scr (j + 1))).2.1 (sp_keep_check A (scr (j + 1))).2.2.1 (sp_keep_check A (scr (j + 1))).2.2.2)).mono (by decide))) ?_
  rintro v S1 ⟨rfl, h1, z1, z2⟩
  obtain ⟨t1, t2, t3, t4, t5, -⟩ := h1.st
  refine bk98_508 (a0 := sc) (r1 := some ax) (a2 := b) (r3 := some o) (x4 := nI j) (i_4 := j + 1) (y7 := scr (j + 1)) t1 (by omega) (ix 1) (by omega) (t2 _ (by omega)) t5 (law_r (B' := (sp_check A (scr (j + 1))).2) (P' := fun v _ => v = (sp_check A (scr (j + 1))).1) h1 (fun X W hW _ => (r_check hI hW (scr (j + 1))).mono (by decide))) ?_
  rintro v2 S2 ⟨h2, z3⟩
  obtain ⟨W0, rfl⟩ := h2.fact
  refine bk98_518 (r0 := some sc) (r1 := some ax) (r2 := some b) (r3 := some o) (fun _ => bk98_715 (r0 := some sc) (r1 := some ax) (r2 := some b) (r3 := some o) ?_) (fun q => absurd rfl q)
  rw [show nI j + 5 = nI (j + 5) from ix 5]
  exact hN _ S2 _ _ (i_check hI (scr (j + 1))) (h2.up (fun _ _ => trivial)) (by rw [z3]; exact z1) (by rw [z3]; exact z2)
theorem law_fault {j : Nat} {Q : Option Value → av_St → Prop} {o5 o6 : Option Value} (hn : n ≤ 2560) (hj : j + 5 ≤ n) (hI : m_Inv A) (h : lK sc n scr ax b o A A (fun _ => True) S) (hN : l_Nx sc n ax b o scr j S Q) : aw sm_ext 9 98 523 [some (.ref sc), some (.ref ax), some (.ref b), some (.ref o), some (.int (nI j)), o5, o6] [] S Q := by
  obtain ⟨s1, s2, s3, s4, s5, -⟩ := h.st
  have ix : ∀ q, nI j + nI q = nI (j + q) := fun q => nI_add j q
  obtain ⟨x1, x2⟩ := law_x hI h (scr (j + 1)) (scr (j + 2))
  have fin : ∀ (S1 : av_St) (r : Int32), lK sc n scr ax b o A A (fun _ => True) S1 → (S.2.2.1 ≤ S1.2.2.1 ∧ S1.2.2.1 ≤ S.2.2.1 + 3) → (S.2.2.2 ≤ S1.2.2.2 ∧ S1.2.2.2 ≤ S.2.2.2 + 40) → ((sp_fault A (scr (j + 1)) (scr (j + 2)) = none ∧ r = 1) ∨ ∃ v, sp_fault A (scr (j + 1)) (scr (j + 2)) = some v ∧ r = 0 ∧ S1.2.1 o 0 = .long v.toInt64) → aw sm_ext 9 98 540 [some (.ref sc), some (.ref ax), some (.ref b), some (.ref o), some (.int (nI j)), o5, o6] [.int r] S1 Q := by
    intro S1 r h1 z1 z2 hr
    obtain ⟨t1, t2, t3, t4, t5, -⟩ := h1.st
    refine bk98_540 (a0 := sc) (r1 := some ax) (a2 := b) (r3 := some o) (x4 := nI j) (i_4 := j + 1) (i_9 := j + 2) (y7 := scr (j + 1)) (y12 := scr (j + 2)) t1 (by omega) (ix 1) (by omega) (t2 _ (by omega)) (ix 2) (by omega) (t2 _ (by omega)) t5 (P_14 := fun v S' => (lK sc n scr ax b o A A (fun W' => (∀ u, sp_fault A (scr (j + 1)) (scr (j + 2)) = some u → W'.2 0 = 0 ∧ v = u) ∧ (sp_fault A (scr (j + 1)) (scr (j + 2)) = none → W'.2 0 = 1)) S' ∧ S'.2.2 = S1.2.2) ∧ S'.2.1 o = S1.2.1 o) ?_ ?_
    · refine ct.post (law_ro (B' := A) (P' := fun v W' => (∀ u, sp_fault A (scr (j + 1)) (scr (j + 2)) = some u → W'.2 0 = 0 ∧ v = u) ∧ (sp_fault A (scr (j + 1)) (scr (j + 2)) = none → W'.2 0 = 1)) h1 (fun X W hW _ => ((r_fault hI hW (scr (j + 1)) (scr (j + 2))).post (fun x W' q => ⟨q.2, q.1⟩)).mono (by decide))) ?_
      rintro r' S' ⟨v, e, q⟩
      exact ⟨v, e, q⟩
    rintro v S2 ⟨⟨h2, z3⟩, ho2⟩
    obtain ⟨u1, u2, u3, u4, u5, -⟩ := h2.st
    refine bk98_558 (r0 := some sc) (r1 := some ax) (a2 := b) (r3 := some o) u5 (P_1 := fun x S' => (lK sc n scr ax b o A A (fun W' => x = W'.2 0 ∧ ((∀ u, sp_fault A (scr (j + 1)) (scr (j + 2)) = some u → W'.2 0 = 0 ∧ v = u) ∧ (sp_fault A (scr (j + 1)) (scr (j + 2)) = none → W'.2 0 = 1))) S' ∧ S'.2.2 = S2.2.2) ∧ S'.2.1 o = S2.2.1 o) ?_ ?_
    · refine ct.post (law_ro (B' := A) (P' := fun x W' => x = W'.2 0 ∧ ((∀ u, sp_fault A (scr (j + 1)) (scr (j + 2)) = some u → W'.2 0 = 0 ∧ v = u) ∧ (sp_fault A (scr (j + 1)) (scr (j + 2)) = none → W'.2 0 = 1))) h2 (fun X W hW hP => (r_thrown.post (fun x W' q => ⟨⟨by rw [q.1]; exact q.2, by rw [q.1]; exact hP⟩, by rw [q.1]; exact hW⟩)).mono (by decide))) ?_
      rintro r' S' ⟨x, e, q⟩
      exact ⟨x, e, q⟩
    rintro x S3 ⟨⟨h3, z4⟩, ho3⟩
    obtain ⟨W3, hx, f1, f2⟩ := h3.fact
    have go : ∀ o5 o6, aw sm_ext 9 98 715 [some (.ref sc), some (.ref ax), some (.ref b), some (.ref o), some (.int (nI j)), o5, o6] [] S3 Q := by
      intro o5 o6
      refine bk98_715 (r0 := some sc) (r1 := some ax) (r2 := some b) (r3 := some o) ?_
      rw [show nI j + 5 = nI (j + 5) from ix 5]
      exact hN _ S3 _ _ hI (h3.up (fun _ _ => trivial)) (by rw [z4, z3]; exact z1) (by rw [z4, z3]; exact z2)
    refine bk98_564 (r0 := some sc) (r1 := some ax) (r2 := some b) (r3 := some o) (fun _ => ?_) (fun q => absurd ?_ q)
    · refine bk98_571 (r0 := some sc) (r1 := some ax) (r2 := some b) (r3 := some o) (fun _ => bk98_588 (r0 := some sc) (r1 := some ax) (r2 := some b) (r3 := some o) (go _ _)) (fun q => ?_)
      rcases hr with ⟨-, hr⟩ | ⟨u, hu, hr, hl⟩
      · rw [hr] at q
        exact absurd q (by decide)
      · have e := (f1 u hu).2
        refine bk98_576 (r0 := some sc) (r1 := some ax) (r2 := some b) (a3 := o) (z5 := u.toInt64) h3.st.2.2.1 (by decide) (by decide) (by rw [ho3, ho2]; exact hl) (fun _ => bk98_588 (r0 := some sc) (r1 := some ax) (r2 := some b) (r3 := some o) (go _ _)) (fun q => absurd ?_ q)
        rw [e]
        exact lg_cmp_self _
    · rcases hr with ⟨hu, hr⟩ | ⟨u, hu, hr, hl⟩
      · rw [hx, f2 hu, hr]
      · rw [hx, (f1 u hu).1, hr]
  cases hf : sp_fault A (scr (j + 1)) (scr (j + 2)) with
  | none =>
    refine bk98_523 (a0 := sc) (r1 := some ax) (r2 := some b) (r3 := some o) (x4 := nI j) (i_4 := j + 1) (i_9 := j + 2) (y7 := scr (j + 1)) (y12 := scr (j + 2)) s1 (by omega) (ix 1) (by omega) (s2 _ (by omega)) (ix 2) (by omega) (s2 _ (by omega)) (x1 hf) ⟨Nat.le_succ _, Nat.le_add_right _ _⟩ (by decide) (fin (sm_x S) 1 ?_ ⟨Nat.le_succ _, by show S.2.2.1 + 1 ≤ _; omega⟩ ⟨Nat.le_add_right _ _, by show S.2.2.2 + 6 ≤ _; omega⟩ (Or.inl ⟨hf, rfl⟩))
    obtain ⟨X, T, ar, W, g1, g2, g3, g4, g5, g6, gP, g7, g8, g9, g10, g11, g12⟩ := id h
    exact h.mv rfl (fun _ _ => rfl) g11 (Nat.le_succ _)
  | some v =>
    refine bk98_523 (a0 := sc) (r1 := some ax) (r2 := some b) (r3 := some o) (x4 := nI j) (i_4 := j + 1) (i_9 := j + 2) (y7 := scr (j + 1)) (y12 := scr (j + 2)) s1 (by omega) (ix 1) (by omega) (s2 _ (by omega)) (ix 2) (by omega) (s2 _ (by omega)) (x2 v hf) ⟨Nat.le_refl _, Nat.le_refl _⟩ (by decide) (fin (av_set S o 0 (.long v.toInt64)) 0 ?_ ⟨Nat.le_refl _, Nat.le_add_right _ _⟩ ⟨Nat.le_refl _, Nat.le_add_right _ _⟩ (Or.inr ⟨v, hf, rfl, by rw [st_s, if_pos rfl]⟩))
    exact h.mv rfl (fun a ha => st_n _ _ _ ha) ⟨v.toInt64, by rw [st_s, if_pos rfl]⟩ (Nat.le_refl _)
theorem law_print {j : Nat} {Q : Option Value → av_St → Prop} {o5 o6 : Option Value} (hn : n ≤ 2560) (hj : j + 5 ≤ n) (hI : m_Inv A) (h : lK sc n scr ax b o A A (fun _ => True) S) (hN : l_Nx sc n ax b o scr j S Q) : aw sm_ext 9 98 591 [some (.ref sc), some (.ref ax), some (.ref b), some (.ref o), some (.int (nI j)), o5, o6] [] S Q := by
  obtain ⟨s1, s2, s3, s4, s5, -⟩ := h.st
  have ix : ∀ q, nI j + nI q = nI (j + q) := fun q => nI_add j q
  refine bk98_591 (a0 := sc) (a1 := ax) (r2 := some b) (r3 := some o) (x4 := nI j) (i_4 := j + 1) (y7 := scr (j + 1)) s1 (by omega) (ix 1) (by omega) (s2 _ (by omega)) s4 (law_c (A' := (sp_print A (scr (j + 1))).2) (r := (sp_print A (scr (j + 1))).1) h (fun X T hX hT => (law_cc (c_print hI hX hT (scr (j + 1))) (hX.cg (sp_keep_print A (scr (j + 1))).1 (sp_keep_print A (scr (j + 1))).2.1 (sp_keep_print A (scr (j + 1))).2.2.1 (sp_keep_print A (scr (j + 1))).2.2.2)).mono (by decide))) ?_
  rintro v S1 ⟨rfl, h1, z1, z2⟩
  obtain ⟨t1, t2, t3, t4, t5, -⟩ := h1.st
  refine bk98_601 (a0 := sc) (r1 := some ax) (a2 := b) (r3 := some o) (x4 := nI j) (i_4 := j + 1) (y7 := scr (j + 1)) t1 (by omega) (ix 1) (by omega) (t2 _ (by omega)) t5 (law_r (B' := (sp_print A (scr (j + 1))).2) (P' := fun v _ => v = (sp_print A (scr (j + 1))).1) h1 (fun X W hW _ => (r_print hI hW (scr (j + 1))).mono (by decide))) ?_
  rintro v2 S2 ⟨h2, z3⟩
  obtain ⟨W0, rfl⟩ := h2.fact
  refine bk98_611 (r0 := some sc) (r1 := some ax) (r2 := some b) (r3 := some o) (fun _ => bk98_715 (r0 := some sc) (r1 := some ax) (r2 := some b) (r3 := some o) ?_) (fun q => absurd rfl q)
  rw [show nI j + 5 = nI (j + 5) from ix 5]
  exact hN _ S2 _ _ (i_print hI (scr (j + 1))) (h2.up (fun _ _ => trivial)) (by rw [z3]; exact z1) (by rw [z3]; exact z2)
theorem law_at {j : Nat} {Q : Option Value → av_St → Prop} {o5 o6 : Option Value} (hn : n ≤ 2560) (hj : j + 5 ≤ n) (hI : m_Inv A) (h : lK sc n scr ax b o A A (fun _ => True) S) (hN : l_Nx sc n ax b o scr j S Q) : aw sm_ext 9 98 616 [some (.ref sc), some (.ref ax), some (.ref b), some (.ref o), some (.int (nI j)), o5, o6] [] S Q := by
  obtain ⟨s1, s2, s3, s4, s5, -⟩ := h.st
  have ix : ∀ q, nI j + nI q = nI (j + q) := fun q => nI_add j q
  refine bk98_616 (a0 := sc) (a1 := ax) (r2 := some b) (r3 := some o) (x4 := nI j) (i_4 := j + 1) (y7 := scr (j + 1)) s1 (by omega) (ix 1) (by omega) (s2 _ (by omega)) s4 (law_c (A' := A) (r := sp_at A (scr (j + 1))) h (fun X T hX hT => (law_cc (c_at' hI hX hT (scr (j + 1))) hX).mono (by decide))) ?_
  rintro v S1 ⟨rfl, h1, z1, z2⟩
  obtain ⟨t1, t2, t3, t4, t5, -⟩ := h1.st
  refine bk98_626 (a0 := sc) (r1 := some ax) (a2 := b) (r3 := some o) (x4 := nI j) (i_4 := j + 1) (y7 := scr (j + 1)) t1 (by omega) (ix 1) (by omega) (t2 _ (by omega)) t5 (law_r (B' := A) (P' := fun v _ => v = sp_at A (scr (j + 1))) h1 (fun X W hW _ => (r_at hI hW (scr (j + 1))).mono (by decide))) ?_
  rintro v2 S2 ⟨h2, z3⟩
  obtain ⟨W0, rfl⟩ := h2.fact
  refine bk98_636 (r0 := some sc) (r1 := some ax) (r2 := some b) (r3 := some o) (fun _ => bk98_715 (r0 := some sc) (r1 := some ax) (r2 := some b) (r3 := some o) ?_) (fun q => absurd rfl q)
  rw [show nI j + 5 = nI (j + 5) from ix 5]
  exact hN _ S2 _ _ hI (h2.up (fun _ _ => trivial)) (by rw [z3]; exact z1) (by rw [z3]; exact z2)
theorem law_differ {j : Nat} {Q : Option Value → av_St → Prop} {o5 o6 : Option Value} (hn : n ≤ 2560) (hj : j + 5 ≤ n) (hI : m_Inv A) (h : lK sc n scr ax b o A A (fun _ => True) S) (hN : l_Nx sc n ax b o scr j S Q) : aw sm_ext 9 98 641 [some (.ref sc), some (.ref ax), some (.ref b), some (.ref o), some (.int (nI j)), o5, o6] [] S Q := by
  obtain ⟨s1, s2, s3, s4, s5, -⟩ := h.st
  have ix : ∀ q, nI j + nI q = nI (j + q) := fun q => nI_add j q
  refine bk98_641 (a0 := sc) (a1 := ax) (r2 := some b) (r3 := some o) (x4 := nI j) (i_4 := j + 1) (i_9 := j + 2) (y7 := scr (j + 1)) (y12 := scr (j + 2)) s1 (by omega) (ix 1) (by omega) (s2 _ (by omega)) (ix 2) (by omega) (s2 _ (by omega)) s4 (law_c (A' := A) (r := sp_differ A (scr (j + 1)) (scr (j + 2))) h (fun X T hX hT => (law_cc (c_differ hI hX hT (scr (j + 1)) (scr (j + 2))) hX).mono (by decide))) ?_
  rintro v S1 ⟨rfl, h1, z1, z2⟩
  obtain ⟨t1, t2, t3, t4, t5, -⟩ := h1.st
  refine bk98_657 (a0 := sc) (r1 := some ax) (a2 := b) (r3 := some o) (x4 := nI j) (i_4 := j + 1) (i_9 := j + 2) (y7 := scr (j + 1)) (y12 := scr (j + 2)) t1 (by omega) (ix 1) (by omega) (t2 _ (by omega)) (ix 2) (by omega) (t2 _ (by omega)) t5 (law_r (B' := A) (P' := fun v _ => v = sp_differ A (scr (j + 1)) (scr (j + 2))) h1 (fun X W hW _ => (r_differ hI hW (scr (j + 1)) (scr (j + 2))).mono (by decide))) ?_
  rintro v2 S2 ⟨h2, z3⟩
  obtain ⟨W0, rfl⟩ := h2.fact
  refine bk98_673 (r0 := some sc) (r1 := some ax) (r2 := some b) (r3 := some o) (fun _ => bk98_715 (r0 := some sc) (r1 := some ax) (r2 := some b) (r3 := some o) ?_) (fun q => absurd rfl q)
  rw [show nI j + 5 = nI (j + 5) from ix 5]
  exact hN _ S2 _ _ hI (h2.up (fun _ _ => trivial)) (by rw [z3]; exact z1) (by rw [z3]; exact z2)
theorem law_about {j : Nat} {Q : Option Value → av_St → Prop} {o5 o6 : Option Value} (hn : n ≤ 2560) (hj : j + 5 ≤ n) (hI : m_Inv A) (h : lK sc n scr ax b o A A (fun _ => True) S) (hN : l_Nx sc n ax b o scr j S Q) : aw sm_ext 9 98 678 [some (.ref sc), some (.ref ax), some (.ref b), some (.ref o), some (.int (nI j)), o5, o6] [] S Q := by
  obtain ⟨s1, s2, s3, s4, s5, -⟩ := h.st
  have ix : ∀ q, nI j + nI q = nI (j + q) := fun q => nI_add j q
  refine bk98_678 (a0 := sc) (a1 := ax) (r2 := some b) (r3 := some o) (x4 := nI j) (i_4 := j + 1) (i_9 := j + 2) (y7 := scr (j + 1)) (y12 := scr (j + 2)) s1 (by omega) (ix 1) (by omega) (s2 _ (by omega)) (ix 2) (by omega) (s2 _ (by omega)) s4 (law_c (A' := A) (r := sp_about A (scr (j + 1)) (scr (j + 2))) h (fun X T hX hT => (law_cc (c_about hI hX hT (scr (j + 1)) (scr (j + 2))) hX).mono (by decide))) ?_
  rintro v S1 ⟨rfl, h1, z1, z2⟩
  obtain ⟨t1, t2, t3, t4, t5, -⟩ := h1.st
  refine bk98_694 (a0 := sc) (r1 := some ax) (a2 := b) (r3 := some o) (x4 := nI j) (i_4 := j + 1) (i_9 := j + 2) (y7 := scr (j + 1)) (y12 := scr (j + 2)) t1 (by omega) (ix 1) (by omega) (t2 _ (by omega)) (ix 2) (by omega) (t2 _ (by omega)) t5 (law_r (B' := A) (P' := fun v _ => v = sp_about A (scr (j + 1)) (scr (j + 2))) h1 (fun X W hW _ => (r_about hI hW (scr (j + 1)) (scr (j + 2))).mono (by decide))) ?_
  rintro v2 S2 ⟨h2, z3⟩
  obtain ⟨W0, rfl⟩ := h2.fact
  refine bk98_710 (r0 := some sc) (r1 := some ax) (r2 := some b) (r3 := some o) (fun _ => bk98_715 (r0 := some sc) (r1 := some ax) (r2 := some b) (r3 := some o) ?_) (fun q => absurd rfl q)
  rw [show nI j + 5 = nI (j + 5) from ix 5]
  exact hN _ S2 _ _ hI (h2.up (fun _ _ => trivial)) (by rw [z3]; exact z1) (by rw [z3]; exact z2)
theorem law_one {j : Nat} {Q : Option Value → av_St → Prop} {o5 o6 : Option Value} (hn : n ≤ 2560) (hj : j + 5 ≤ n) (hI : m_Inv A) (h : lK sc n scr ax b o A A (fun _ => True) S) (hN : l_Nx sc n ax b o scr j S Q) : aw sm_ext 9 98 32 [some (.ref sc), some (.ref ax), some (.ref b), some (.ref o), some (.int (nI j)), o5, o6] [] S Q := by
  obtain ⟨s1, s2, -⟩ := h.st
  refine bk98_32 (a0 := sc) (r1 := some ax) (r2 := some b) (r3 := some o) (i_4 := j) (y7 := scr j) s1 (by omega) rfl (by omega) (s2 _ (by omega)) ?_
  obtain ⟨c, hc, e⟩ := and15 (scr j)
  rw [e]
  match c, hc with
  | 0, _ => exact law_file hn hj hI h hN
  | 1, _ => exact law_size hn hj hI h hN
  | 2, _ => exact law_map hn hj hI h hN
  | 3, _ => exact law_division hn hj hI h hN
  | 4, _ => exact law_link hn hj hI h hN
  | 5, _ => exact law_repeat hn hj hI h hN
  | 6, _ => exact law_move hn hj hI h hN
  | 7, _ => exact law_order hn hj hI h hN
  | 8, _ => exact law_read hn hj hI h hN
  | 9, _ => exact law_step hn hj hI h hN
  | 10, _ => exact law_check hn hj hI h hN
  | 11, _ => exact law_fault hn hj hI h hN
  | 12, _ => exact law_print hn hj hI h hN
  | 13, _ => exact law_at hn hj hI h hN
  | 14, _ => exact law_differ hn hj hI h hN
  | 15, _ => exact law_about hn hj hI h hN
  | c + 16, hc => omega
theorem law_loop {Q : Option Value → av_St → Prop} (hn : n ≤ 2560) {N0 W0 : Nat} (hQ : ∀ S', S'.2.2.1 ≤ N0 + 1536 → S'.2.2.2 ≤ W0 + 20480 → Q (some (.int 1)) S') : ∀ (f k : Nat) (A : mS) (S : av_St) (o5 o6 : Option Value), k + f = 512 → m_Inv A → lK sc n scr ax b o A A (fun _ => True) S → S.2.2.1 ≤ N0 + 3 * k → S.2.2.2 ≤ W0 + 40 * k → aw sm_ext 9 98 23 [some (.ref sc), some (.ref ax), some (.ref b), some (.ref o), some (.int (nI (5 * k))), o5, o6] [] S Q
  | 0, k, A, S, o5, o6, hk, hI, h, z1, z2 => by
    obtain ⟨s1, -⟩ := h.st
    refine bk98_23 (a0 := sc) (r1 := some ax) (r2 := some b) (r3 := some o) s1 (by omega) (fun _ => bk98_721 (r0 := some sc) (r1 := some ax) (r2 := some b) (r3 := some o) (hQ S (by omega) (by omega))) (fun q => absurd ((nI_m5 (by omega) (by omega)).mpr (by omega)) q)
  | f + 1, k, A, S, o5, o6, hk, hI, h, z1, z2 => by
    obtain ⟨s1, -⟩ := h.st
    refine bk98_23 (a0 := sc) (r1 := some ax) (r2 := some b) (r3 := some o) s1 (by omega) (fun _ => bk98_721 (r0 := some sc) (r1 := some ax) (r2 := some b) (r3 := some o) (hQ S (by omega) (by omega))) (fun q => ?_)
    have hj : 5 * k + 5 ≤ n := by
      rw [nI_m5 (by omega) (by omega)] at q
      omega
    refine law_one hn hj hI h (fun A' S' o5 o6 hI' h' q1 q2 => ?_)
    rw [show 5 * k + 5 = 5 * (k + 1) by omega]
    exact law_loop hn hQ f (k + 1) A' S' o5 o6 (by omega) hI' h' (by omega) (by omega)
end LLP
