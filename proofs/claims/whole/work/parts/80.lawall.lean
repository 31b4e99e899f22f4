/-! THE LAW, FROM ITS START -/
theorem nx.tr {S S1 S2 : av_St} {n w m v : Nat} (h : nx S S1 n w) (g : nx S1 S2 m v) : nx S S2 (n + m) (w + v) := by
  obtain ⟨h1, h2, h3, h4⟩ := h
  obtain ⟨g1, g2, g3, g4⟩ := g
  refine ⟨by omega, by omega, fun b hb => ?_, fun q => g4 (h4 q)⟩
  rw [(g3 b (by omega)).1, (g3 b (by omega)).2]
  exact h3 b hb
theorem law_all {S : av_St} {sc n : Nat} {scr : Nat → Int32} (hf : fr S) (h1 : S.1 sc = some (.inr (50, n))) (h2 : ∀ i, i < n → S.2.1 sc i = .int (scr i)) (hn : n ≤ 2560) : aw sm_ext 9 98 0 [some (.ref sc), none, none, none, none, none, none] [] S (fun r S' => r = some (.int 1) ∧ S'.2.2.1 ≤ S.2.2.1 + 2000 ∧ S'.2.2.2 ≤ S.2.2.2 + 120000) := by
  refine bk98_0 (r0 := some sc) (bk98_3 (r0 := some sc) ((k_SM rfl).mono (by decide)) ?_)
  rintro S1 ⟨x1, ca⟩
  refine bk98_7 (r0 := some sc) (rk0 := some S.2.2.1) (bk98_11 (r0 := some sc) (r1 := some S.2.2.1) ((k_RM rfl).mono (by decide)) ?_)
  rintro S2 ⟨x2, ra⟩
  refine bk98_15 (r0 := some sc) (r1 := some S.2.2.1) (rk0 := some S1.2.2.1) (bk98_19 (r0 := some sc) (r1 := some S.2.2.1) (r2 := some S1.2.2.1) (rk0 := some S2.2.2.1) ?_)
  have x3 : nx S2 (av_new S2 (.inr (4, 1)) (fun _ => defaultValue (sm_aT 4)) 1) 1 1 := by
    have := (nx.rf S2).new (.inr (4, 1)) (fun _ => defaultValue (sm_aT 4)) 1
    exact this
  have ho : (av_new S2 (.inr (4, 1)) (fun _ => defaultValue (sm_aT 4)) 1).1 S2.2.2.1 = some (.inr (4, 1)) := nw_k _ _ _ _ rfl
  have hz : (av_new S2 (.inr (4, 1)) (fun _ => defaultValue (sm_aT 4)) 1).2.1 S2.2.2.1 0 = .long 0 := by
    rw [nw_s _ _ _ _ (by rfl)]
    rfl
  generalize av_new S2 (.inr (4, 1)) (fun _ => defaultValue (sm_aT 4)) 1 = S3 at x3 ho hz ⊢
  have f1 := x1.2.2.2 hf
  have f2 := x2.2.2.2 f1
  have f3 := x3.2.2.2 f2
  have hsc : sc < S.2.2.1 := by
    by_cases q : sc < S.2.2.1
    · exact q
    · rw [hf sc (by omega)] at h1; cases h1
  have x13 := (x1.tr x2).tr x3
  obtain ⟨X, T, c1, c2, c3, c4, c5⟩ := c_start ca
  obtain ⟨Y, W, r1, r2, r3, r4⟩ := r_start ra
  obtain ⟨b, ar, S0⟩ := Y
  have r3' : b = S1.2.2.1 := r3
  subst r3'
  have k1 : S1.2.2.1 = S.2.2.1 + 20 := x1.1
  have k2 : S2.2.2.1 = S1.2.2.1 + 24 := x2.1
  have hb2 : ∀ c, c < S2.2.2.1 → S3.1 c = S2.1 c ∧ S3.2.1 c = S2.2.1 c := x3.2.2.1
  have r4' : ∀ k, rl_ar k = true → S1.2.2.1 ≤ ar k ∧ ar k < S1.2.2.1 + 24 := r4
  have hK : lK sc n scr S.2.2.1 S1.2.2.1 S2.2.2.1 m_0 m_0 (fun _ => True) S3 := by
    refine ⟨x_at (x_at X S2) S3, T, ar, W, (c1.re f1 x2).re f2 x3, c2, c3, c4, r1.mv (hb2 _ (by omega)).1 (fun k hk => (hb2 _ (by have := r4' k hk; omega)).1) (hb2 _ (by omega)).2 (fun k hk => (hb2 _ (by have := r4' k hk; omega)).2), r2, trivial, f3, ?_, fun i hi => ?_, ho, ⟨0, hz⟩, fun s i l k hk => ?_⟩
    · rw [(x13.2.2.1 sc hsc).1]; exact h1
    · rw [(x13.2.2.1 sc hsc).2]; exact h2 i hi
    · have q1 := c5 s i l
      have q2 := r4' k hk
      show X.1 s i ≠ ar k
      omega
  have lp := law_loop (sc := sc) (n := n) (ax := S.2.2.1) (b := S1.2.2.1) (o := S2.2.2.1) (scr := scr) (Q := fun r S' => r = some (.int 1) ∧ S'.2.2.1 ≤ S.2.2.1 + 2000 ∧ S'.2.2.2 ≤ S.2.2.2 + 120000) hn (N0 := S3.2.2.1) (W0 := S3.2.2.2) (fun S' q1 q2 => ⟨rfl, by have := x13.1; omega, by have := x13.2.1; omega⟩) 512 0 m_0 S3 none none (by decide) m_Inv0 hK (by omega) (by omega)
  exact lp
