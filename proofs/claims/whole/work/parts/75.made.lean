/-! THE CLASS IS MADE: the whole of it -/
def sJ (a : Nat) (S0 S : av_St) (n w : Nat) (F : Nat → Value) (l : List Nat) : Prop := nx S0 S n w ∧ S0.2.2.1 = a ∧ 0 < n ∧ S.1 a = some (.inl 0) ∧ (∀ k, S.2.1 a k = F k) ∧ ∀ s ∈ l, 0 < c_off s ∧ c_off s < n ∧ c_dn a S s
section SJ
variable {a n w : Nat} {S0 S : av_St} {F : Nat → Value} {l : List Nat}
theorem sJ.next (h : sJ a S0 S n w F l) : S.2.2.1 = a + n := by rw [h.1.1, h.2.1]
theorem sJ.kd (h : sJ a S0 S n w F l) : S.1 a = some (.inl 0) := h.2.2.2.1
theorem sJ.set (h : sJ a S0 S n w F l) (k : Nat) (v : Value) : sJ a S0 (av_set S a k v) n w (updV F k v) l := by
  obtain ⟨h1, h2, h3, h4, h5, h6⟩ := h
  refine ⟨h1.set (by omega) _ _, h2, h3, h4, fun k' => ?_, fun s hs => ?_⟩
  · rw [st_s]
    unfold updV
    rw [h5 k']
  · obtain ⟨g1, g2, g3, g4⟩ := h6 s hs
    refine ⟨g1, g2, g3, fun k' => ?_⟩
    rw [st_n _ _ _ (by omega)]
    exact g4 k'
theorem sJ.arr (h : sJ a S0 S n w F l) {s : Nat} (e : c_off s = n) {t : av_Ty} {f : Nat → Value} {w' : Nat} (hk : t = c_kd s) (hf : ∀ k, f k = c_ini a s k) : sJ a S0 (av_new S t f w') (n + 1) (w + w') F (s :: l) := by
  have hn := h.next
  obtain ⟨h1, h2, h3, h4, h5, h6⟩ := h
  refine ⟨h1.new _ _ _, h2, by omega, ?_, fun k' => ?_, fun s' hs => ?_⟩
  · rw [nw_m _ _ _ _ (by omega)]; exact h4
  · rw [nw_n _ _ _ _ (by omega)]; exact h5 k'
  · rcases List.mem_cons.mp hs with q | q
    · subst q
      refine ⟨by omega, by omega, ?_, fun k' => ?_⟩
      · rw [nw_k _ _ _ _ (by omega), hk]
      · rw [nw_s _ _ _ _ (by omega), hf]
    · obtain ⟨g1, g2, g3, g4⟩ := h6 s' q
      refine ⟨g1, by omega, ?_, fun k' => ?_⟩
      · rw [nw_m _ _ _ _ (by omega)]; exact g3
      · rw [nw_n _ _ _ _ (by omega)]; exact g4 k'
theorem sJ.obj (h : sJ a S0 S n w F l) {t : av_Ty} {f : Nat → Value} {wN : Nat} {S2 : av_St} {m w2 : Nat} {l' : List Nat} (g : kp (a + n) (av_new S t f wN) S2 m w2 ∧ ∀ s, s ∈ l' → c_dn a S2 s) (ho : ∀ s, s ∈ l' → 0 < c_off s ∧ c_off s < n + 1 + m) : sJ a S0 S2 (n + 1 + m) (w + wN + w2) F (l' ++ l) := by
  have hn := h.next
  obtain ⟨h1, h2, h3, h4, h5, h6⟩ := h
  obtain ⟨⟨g1, g2, g3, g4, g5⟩, g6⟩ := g
  have hN : (av_new S t f wN).2.2.1 = S.2.2.1 + 1 := rfl
  have hW : (av_new S t f wN).2.2.2 = S.2.2.2 + wN := rfl
  rw [hN] at g1 g3 g4
  rw [hW] at g2
  have old1 : ∀ b, b < a + n → S2.1 b = S.1 b := fun b hb => by
    rw [g3 b (by omega), nw_m _ _ _ _ (by omega)]
  have old2 : ∀ b, b < a + n → S2.2.1 b = S.2.1 b := fun b hb => by
    rw [g4 b (by omega) (by omega), nw_n _ _ _ _ (by omega)]
  refine ⟨⟨by rw [g1, h1.1]; omega, by rw [g2, h1.2.1]; omega, fun b hb => ?_, fun hf => g5 ((h1.2.2.2 hf).new _ _ _)⟩, h2, by omega, ?_, fun k' => ?_, fun s' hs => ?_⟩
  · rw [old1 b (by omega), old2 b (by omega)]
    exact h1.2.2.1 b hb
  · rw [old1 a (by omega)]; exact h4
  · rw [old2 a (by omega)]; exact h5 k'
  · rcases List.mem_append.mp hs with q | q
    · exact ⟨(ho s' q).1, (ho s' q).2, g6 s' q⟩
    · obtain ⟨e1, e2, e3, e4⟩ := h6 s' q
      refine ⟨e1, by omega, ?_, fun k' => ?_⟩
      · rw [old1 _ (by omega)]; exact e3
      · rw [old2 _ (by omega)]; exact e4 k'
end SJ
section SM0
variable {ext : av_X} {a : Nat} {S0 : av_St}
def c_all (a : Nat) (S : av_St) : Prop := ∀ s, (s < 6 ∨ (20 ≤ s ∧ s < 34)) → c_dn a S s
set_option maxHeartbeats 1000000 in
theorem k_SM (ha : S0.2.2.1 = a) : ctv ext 2 0 [.ref a] (av_new S0 (.inl 0) (fun f => defaultValue (sm_fT 0 f)) (sm_fN 0)) (fun S' => nx S0 S' 20 21123 ∧ c_all a S') := by
  unfold ctv ct
  rw [show av_ent [.ref a] (sm_ml 0) = [some (.ref a)] by rw [ml0]; rfl]
  have j0 : sJ a S0 (av_new S0 (.inl 0) (fun f => defaultValue (sm_fT 0 f)) (sm_fN 0)) 1 11 (fun f => defaultValue (sm_fT 0 f)) [] :=
    ⟨(nx.rf S0).new _ _ _, ha, by decide, nw_k _ _ _ _ ha.symm, fun k => by rw [nw_s _ _ _ _ ha.symm], fun s hs => by cases hs⟩
  generalize av_new S0 (.inl 0) (fun f => defaultValue (sm_fT 0 f)) (sm_fN 0) = S at j0 ⊢
  refine bk0_0 (bk0_4 (r0 := some a) ?_)
  rw [j0.next]
  have j1 := j0.arr (s := 20) rfl (t := .inr (5, 30)) (f := fun _ => .null) (w' := 30) rfl (fun k => rfl)
  generalize av_new S (.inr (5, 30)) (fun _ => .null) 30 = S1 at j1 ⊢
  refine bk0_10 (a0 := a) (rk1 := some (a + 1)) j1.kd j1.kd ?_
  have j2 := (j1.set 0 (va_rf (some (a + 1)))).set 1 (.int (0 : Int32))
  generalize av_set (av_set S1 a 0 (va_rf (some (a + 1)))) a 1 (.int (0 : Int32)) = S2 at j2 ⊢
  rw [j2.next]
  have j3 := j2.arr (s := 21) rfl (t := .inr (6, 5)) (f := fun _ => .null) (w' := 5) rfl (fun k => rfl)
  generalize av_new S2 (.inr (6, 5)) (fun _ => .null) 5 = S3 at j3 ⊢
  refine bk0_23 (a0 := a) (rk1 := some (a + 2)) j3.kd j3.kd ?_
  have j4 := (j3.set 2 (va_rf (some (a + 2)))).set 3 (.int (0 : Int32))
  generalize av_set (av_set S3 a 2 (va_rf (some (a + 2)))) a 3 (.int (0 : Int32)) = S4 at j4 ⊢
  rw [j4.next]
  have j5 := j4.arr (s := 22) rfl (t := .inr (7, 120)) (f := fun _ => .null) (w' := 120) rfl (fun k => rfl)
  generalize av_new S4 (.inr (7, 120)) (fun _ => .null) 120 = S5 at j5 ⊢
  refine bk0_37 (a0 := a) (rk1 := some (a + 3)) j5.kd j5.kd ?_
  have j6 := (j5.set 4 (va_rf (some (a + 3)))).set 5 (.int (0 : Int32))
  generalize av_set (av_set S5 a 4 (va_rf (some (a + 3)))) a 5 (.int (0 : Int32)) = S6 at j6 ⊢
  have n6 : S6.2.2.1 = a + 4 := j6.next
  rw [n6]
  have m6 : (av_new S6 (.inl 1) (fun f => defaultValue (sm_fT 1 f)) (sm_fN 1)).2.2.1 = a + 5 := congrArg (· + 1) n6
  refine bk0_49 (r0 := some a) (rk0 := some a) (k_Search m6 (nw_k _ _ _ _ n6.symm)) ?_
  rintro S7 hS7
  have j7 := j6.obj (k_Search_dn m6 (nw_k _ _ _ _ n6.symm) (fun k => by rw [nw_s _ _ _ _ n6.symm])) (by decide)
  rw [← hS7] at j7
  clear hS7
  refine bk0_53 (r0 := some a) (rk1 := some (a + 4)) j7.kd ?_
  have j8 := j7.set 6 (va_rf (some (a + 4)))
  generalize av_set S7 a 6 (va_rf (some (a + 4))) = S8 at j8 ⊢
  have n8 : S8.2.2.1 = a + 7 := j8.next
  rw [n8]
  have m8 : (av_new S8 (.inl 2) (fun f => defaultValue (sm_fT 2 f)) (sm_fN 2)).2.2.1 = a + 8 := congrArg (· + 1) n8
  refine bk0_60 (r0 := some a) (rk0 := some a) (k_Reading m8 (nw_k _ _ _ _ n8.symm)) ?_
  rintro S9 hS9
  have j9 := j8.obj (k_Reading_dn m8 (nw_k _ _ _ _ n8.symm) (fun k => by rw [nw_s _ _ _ _ n8.symm])) (by decide)
  rw [← hS9] at j9
  clear hS9
  refine bk0_64 (r0 := some a) (rk1 := some (a + 7)) j9.kd ?_
  have j10 := j9.set 7 (va_rf (some (a + 7)))
  generalize av_set S9 a 7 (va_rf (some (a + 7))) = S10 at j10 ⊢
  have n10 : S10.2.2.1 = a + 12 := j10.next
  rw [n10]
  have m10 : (av_new S10 (.inl 3) (fun f => defaultValue (sm_fT 3 f)) (sm_fN 3)).2.2.1 = a + 13 := congrArg (· + 1) n10
  refine bk0_71 (r0 := some a) (rk0 := some a) (k_Steps m10 (nw_k _ _ _ _ n10.symm)) ?_
  rintro S11 hS11
  have j11 := j10.obj (k_Steps_dn m10 (nw_k _ _ _ _ n10.symm) (fun k => by rw [nw_s _ _ _ _ n10.symm])) (by decide)
  rw [← hS11] at j11
  clear hS11
  refine bk0_75 (r0 := some a) (rk1 := some (a + 12)) j11.kd ?_
  have j12 := j11.set 8 (va_rf (some (a + 12)))
  generalize av_set S11 a 8 (va_rf (some (a + 12))) = S12 at j12 ⊢
  have n12 : S12.2.2.1 = a + 15 := j12.next
  rw [n12]
  have m12 : (av_new S12 (.inl 4) (fun f => defaultValue (sm_fT 4 f)) (sm_fN 4)).2.2.1 = a + 16 := congrArg (· + 1) n12
  refine bk0_82 (r0 := some a) (rk0 := some a) (k_Faults m12 (nw_k _ _ _ _ n12.symm)) ?_
  rintro S13 hS13
  have j13 := j12.obj (k_Faults_dn m12 (nw_k _ _ _ _ n12.symm) (fun k => by rw [nw_s _ _ _ _ n12.symm])) (by decide)
  rw [← hS13] at j13
  clear hS13
  refine bk0_86 (r0 := some a) (rk1 := some (a + 15)) j13.kd ?_
  have j14 := j13.set 9 (va_rf (some (a + 15)))
  generalize av_set S13 a 9 (va_rf (some (a + 15))) = S14 at j14 ⊢
  have n14 : S14.2.2.1 = a + 18 := j14.next
  rw [n14]
  have m14 : (av_new S14 (.inl 5) (fun f => defaultValue (sm_fT 5 f)) (sm_fN 5)).2.2.1 = a + 19 := congrArg (· + 1) n14
  refine bk0_93 (r0 := some a) (rk0 := some a) (k_Signs m14 (nw_k _ _ _ _ n14.symm)) ?_
  rintro S15 hS15
  have j15 := j14.obj (k_Signs_dn m14 (nw_k _ _ _ _ n14.symm) (fun k => by rw [nw_s _ _ _ _ n14.symm])) (by decide)
  rw [← hS15] at j15
  clear hS15
  refine bk0_97 (r0 := some a) (rk1 := some (a + 18)) j15.kd ⟨rfl, ?_⟩
  have j16 := j15.set 10 (va_rf (some (a + 18)))
  generalize av_set S15 a 10 (va_rf (some (a + 18))) = S16 at j16 ⊢
  refine ⟨j16.1, fun s hs => ?_⟩
  by_cases e : s = 0
  · subst e
    refine ⟨j16.kd, fun k => ?_⟩
    refine (j16.2.2.2.2.1 k).trans ?_
    match k with
    | 0 => rfl
    | 1 => rfl
    | 2 => rfl
    | 3 => rfl
    | 4 => rfl
    | 5 => rfl
    | 6 => rfl
    | 7 => rfl
    | 8 => rfl
    | 9 => rfl
    | 10 => rfl
    | k + 11 =>
      unfold updV
      rw [if_neg (by omega), if_neg (by omega), if_neg (by omega), if_neg (by omega), if_neg (by omega), if_neg (by omega), if_neg (by omega), if_neg (by omega), if_neg (by omega), if_neg (by omega), if_neg (by omega)]
      rfl
  · refine (j16.2.2.2.2.2 s ?_).2.2
    simp only [List.cons_append, List.nil_append, List.mem_cons, List.not_mem_nil, or_false]
    omega
theorem c_RF {s k t : Nat} (h : c_R s k = some t) : c_F s k = none := by
  unfold c_F
  split
  · split <;> first | cases h | rfl
  · split <;> first | cases h | rfl
  · split <;> first | cases h | rfl
  · split <;> first | cases h | rfl
  · split <;> first | cases h | rfl
  · split <;> first | cases h | rfl
  · split <;> first | cases h | rfl
  · rfl
theorem c_FT {s k t : Nat} (hs : s ≠ 8) (h : c_F s k = some t) : t < 6 ∨ (20 ≤ t ∧ t < 34) := by
  unfold c_F at h
  split at h
  · split at h <;> cases h <;> omega
  · split at h <;> cases h <;> omega
  · split at h <;> cases h <;> omega
  · split at h <;> cases h <;> omega
  · split at h <;> cases h <;> omega
  · split at h <;> cases h <;> omega
  · exact absurd rfl hs
  · cases h
theorem c_lv0 {s i : Nat} : c_lv m_0 s i ↔ (i = 0 ∧ (s < 6 ∨ (20 ≤ s ∧ s < 34))) := by
  unfold c_lv
  split
  · show i < 0 ↔ _
    omega
  · show i < 0 ↔ _
    omega
  · show (i < 0 ∨ (1000 ≤ i ∧ i < 1000 + 0)) ↔ _
    omega
  · show (i < 0 ∨ (1000 ≤ i ∧ i < 1000 + 0)) ↔ _
    omega
  · constructor
    · rintro ⟨d, j, e, hd, -⟩
      exact absurd hd (Nat.not_lt_zero _)
    · omega
  · exact Iff.rfl
theorem c_off_inj : ∀ s, s < 34 → ∀ t, t < 34 → (s < 6 ∨ 20 ≤ s) → (t < 6 ∨ 20 ≤ t) → c_off s = c_off t → s = t := by decide
theorem c_off_lt : ∀ s, s < 34 → (s < 6 ∨ 20 ≤ s) → c_off s < 20 := by decide
theorem c_start {S : av_St} (h : c_all a S) : ∃ X T, cr X T S ∧ c_X m_0 X ∧ c_RA m_0 T ∧ X.1 0 0 = a ∧ (∀ s i, X.2.1 s i → a ≤ X.1 s i ∧ X.1 s i < a + 20) := by
  refine ⟨(fun s _ => a + c_off s, fun s i => c_lv m_0 s i, S), (fun _ _ _ => 0, fun _ _ _ => none), ⟨rfl, rfl, fun s i l => ?_, fun s i s' i' l l' e => ?_, fun s i k l e1 e2 => ?_, fun s i k t l e => ?_, fun s i k t l e => ?_, fun _ _ => rfl⟩, fun s i => Iff.rfl, ?_, rfl, fun s i l => ?_⟩
  · exact (h s (c_lv0.mp l).2).1
  · have h1 := c_lv0.mp l
    have h2 := c_lv0.mp l'
    have e' : a + c_off s = a + c_off s' := e
    exact ⟨c_off_inj s (by omega) s' (by omega) (by omega) (by omega) (by omega), by omega⟩
  · refine ((h s (c_lv0.mp l).2).2 k).trans ?_
    unfold c_ini
    rw [e1, e2]
  · refine ⟨((h s (c_lv0.mp l).2).2 k).trans ?_, fun j hj => by cases hj⟩
    unfold c_ini
    rw [c_RF e, e]
    rfl
  · have hs := c_lv0.mp l
    refine ⟨((h s hs.2).2 k).trans ?_, c_lv0.mpr ⟨hs.1, c_FT (by omega) e⟩⟩
    unfold c_ini
    rw [e]
  · refine ⟨⟨⟨rfl, rfl, rfl⟩, fun f hf => absurd hf (Nat.not_lt_zero _), fun f hf => absurd hf (Nat.not_lt_zero _), fun f hf => absurd hf (Nat.not_lt_zero _), fun c hc => ?_, fun d j e hd => absurd hd (Nat.not_lt_zero _), fun f hf => absurd hf (Nat.not_lt_zero _)⟩, ⟨rfl, fun i e he => by cases he⟩, ⟨rfl, fun i e he => by cases he⟩, ⟨rfl, fun i e he => by cases he⟩⟩
    cases c with
    | inl d => exact absurd hc (Nat.not_lt_zero _)
    | inr d => exact absurd hc (Nat.not_lt_zero _)
  · have hs := c_lv0.mp l
    have := c_off_lt s (by omega) (by omega)
    show a ≤ a + c_off s ∧ a + c_off s < a + 20
    omega
end SM0
