/-! THE REFERENCE IS MADE -/
def r_off (k : Nat) : Nat := match k with
  | 2 => 1
  | 4 => 2
  | 6 => 3
  | 7 => 4
  | 8 => 5
  | 9 => 6
  | 10 => 7
  | 11 => 8
  | 12 => 9
  | 13 => 10
  | 14 => 11
  | 15 => 12
  | 16 => 13
  | 18 => 14
  | 20 => 15
  | 21 => 16
  | 23 => 17
  | 24 => 18
  | 26 => 19
  | 28 => 20
  | 30 => 21
  | 31 => 22
  | 33 => 23
  | _ => 24
def r_dn (b : Nat) (S : av_St) (k : Nat) : Prop := S.1 (b + r_off k) = some (.inr (rl_kd k, rl_len k)) ∧ ∀ i, S.2.1 (b + r_off k) i = .int 0
def rJ (b : Nat) (S0 S : av_St) (n w : Nat) (F : Nat → Value) (l : List Nat) : Prop := nx S0 S n w ∧ S0.2.2.1 = b ∧ 0 < n ∧ S.1 b = some (.inl 10) ∧ (∀ k, S.2.1 b k = F k) ∧ ∀ k ∈ l, 0 < r_off k ∧ r_off k < n ∧ r_dn b S k
section RJ
variable {b n w : Nat} {S0 S : av_St} {F : Nat → Value} {l : List Nat}
theorem rJ.next (h : rJ b S0 S n w F l) : S.2.2.1 = b + n := by rw [h.1.1, h.2.1]
theorem rJ.kd (h : rJ b S0 S n w F l) : S.1 b = some (.inl 10) := h.2.2.2.1
theorem rJ.set (h : rJ b S0 S n w F l) (k : Nat) (v : Value) : rJ b S0 (av_set S b k v) n w (updV F k v) l := by
  obtain ⟨h1, h2, h3, h4, h5, h6⟩ := h
  refine ⟨h1.set (by omega) _ _, h2, h3, h4, fun k' => ?_, fun s hs => ?_⟩
  · rw [st_s]
    unfold updV
    rw [h5 k']
  · obtain ⟨g1, g2, g3, g4⟩ := h6 s hs
    refine ⟨g1, g2, g3, fun k' => ?_⟩
    rw [st_n _ _ _ (by omega)]
    exact g4 k'
theorem rJ.arr (h : rJ b S0 S n w F l) {s : Nat} (e : r_off s = n) {t : av_Ty} {f : Nat → Value} {w' : Nat} (hk : t = .inr (rl_kd s, rl_len s)) (hf : ∀ k, f k = .int 0) : rJ b S0 (av_new S t f w') (n + 1) (w + w') F (s :: l) := by
  have hn := h.next
  obtain ⟨h1, h2, h3, h4, h5, h6⟩ := h
  refine ⟨h1.new _ _ _, h2, by omega, ?_, fun k' => ?_, fun s' hs => ?_⟩
  · rw [nw_m _ _ _ _ (by omega)]; exact h4
  · rw [nw_n _ _ _ _ (by omega)]; exact h5 k'
  · rcases List.mem_cons.mp hs with q | q
    · subst q
      refine ⟨by omega, by omega, ?_, fun k' => ?_⟩
      · rw [nw_k _ _ _ _ (by omega), hk]
      · rw [nw_s _ _ _ _ (by omega), hf]
    · obtain ⟨g1, g2, g3, g4⟩ := h6 s' q
      refine ⟨g1, by omega, ?_, fun k' => ?_⟩
      · rw [nw_m _ _ _ _ (by omega)]; exact g3
      · rw [nw_n _ _ _ _ (by omega)]; exact g4 k'
end RJ
theorem r_mem : ∀ k, k < 34 → rl_ar k = true → k ∈ [33, 31, 30, 28, 26, 24, 23, 21, 20, 18, 16, 15, 14, 13, 12, 11, 10, 9, 8, 7, 6, 4, 2] := by decide
theorem r_off_inj : ∀ k, k < 34 → ∀ j, j < 34 → rl_ar k = true → rl_ar j = true → r_off k = r_off j → k = j := by decide
theorem r_off_lt : ∀ k, k < 34 → rl_ar k = true → 0 < r_off k ∧ r_off k < 24 := by decide
theorem rl_ar_lt {k : Nat} (hk : rl_ar k = true) : k < 34 := by
  unfold rl_ar at hk
  split at hk
  all_goals first | cases hk | exact of_decide_eq_true hk
section RM0
variable {ext : av_X} {b : Nat} {S0 : av_St}
def r_all (b : Nat) (S : av_St) : Prop := S.1 b = some (.inl 10) ∧ (∀ k, k < 34 → S.2.1 b k = if rl_ar k = true then .ref (b + r_off k) else .int 0) ∧ ∀ k, rl_ar k = true → r_dn b S k
set_option maxHeartbeats 2000000 in
set_option maxRecDepth 4000 in
theorem k_RM (hb : S0.2.2.1 = b) : ctv ext 1 62 [.ref b] (av_new S0 (.inl 10) (fun f => defaultValue (sm_fT 10 f)) (sm_fN 10)) (fun S' => nx S0 S' 24 65189 ∧ r_all b S') := by
  unfold ctv ct
  rw [show av_ent [.ref b] (sm_ml 62) = [some (.ref b)] by rw [ml62]; rfl]
  have j0 : rJ b S0 (av_new S0 (.inl 10) (fun f => defaultValue (sm_fT 10 f)) (sm_fN 10)) 1 34 (fun f => defaultValue (sm_fT 10 f)) [] :=
    ⟨(nx.rf S0).new _ _ _, hb, by decide, nw_k _ _ _ _ hb.symm, fun k => by rw [nw_s _ _ _ _ hb.symm], fun s hs => by cases hs⟩
  generalize av_new S0 (.inl 10) (fun f => defaultValue (sm_fT 10 f)) (sm_fN 10) = S at j0 ⊢
  refine bk62_0 (bk62_4 (r0 := some b) ?_)
  rw [j0.next]
  have a0 := j0.arr (s := 2) rfl (t := .inr (0, 30)) (f := fun _ => defaultValue (sm_aT 0)) (w' := 30) rfl (fun k => rfl)
  generalize av_new S (.inr (0, 30)) (fun _ => defaultValue (sm_aT 0)) 30 = N0 at a0 ⊢
  refine bk62_9 (r0 := some b) (rk1 := some (b + 1)) a0.kd ?_
  have j1 := a0.set 2 (va_rf (some (b + 1)))
  generalize av_set N0 b 2 (va_rf (some (b + 1))) = S1 at j1 ⊢
  rw [j1.next]
  have a1 := j1.arr (s := 4) rfl (t := .inr (0, 5)) (f := fun _ => defaultValue (sm_aT 0)) (w' := 5) rfl (fun k => rfl)
  generalize av_new S1 (.inr (0, 5)) (fun _ => defaultValue (sm_aT 0)) 5 = N1 at a1 ⊢
  refine bk62_16 (r0 := some b) (rk1 := some (b + 2)) a1.kd ?_
  have j2 := a1.set 4 (va_rf (some (b + 2)))
  generalize av_set N1 b 4 (va_rf (some (b + 2))) = S2 at j2 ⊢
  rw [j2.next]
  have a2 := j2.arr (s := 6) rfl (t := .inr (0, 120)) (f := fun _ => defaultValue (sm_aT 0)) (w' := 120) rfl (fun k => rfl)
  generalize av_new S2 (.inr (0, 120)) (fun _ => defaultValue (sm_aT 0)) 120 = N2 at a2 ⊢
  refine bk62_24 (r0 := some b) (rk1 := some (b + 3)) a2.kd ?_
  have j3 := a2.set 6 (va_rf (some (b + 3)))
  generalize av_set N2 b 6 (va_rf (some (b + 3))) = S3 at j3 ⊢
  rw [j3.next]
  have a3 := j3.arr (s := 7) rfl (t := .inr (0, 120)) (f := fun _ => defaultValue (sm_aT 0)) (w' := 120) rfl (fun k => rfl)
  generalize av_new S3 (.inr (0, 120)) (fun _ => defaultValue (sm_aT 0)) 120 = N3 at a3 ⊢
  refine bk62_32 (r0 := some b) (rk1 := some (b + 4)) a3.kd ?_
  have j4 := a3.set 7 (va_rf (some (b + 4)))
  generalize av_set N3 b 7 (va_rf (some (b + 4))) = S4 at j4 ⊢
  rw [j4.next]
  have a4 := j4.arr (s := 8) rfl (t := .inr (0, 120)) (f := fun _ => defaultValue (sm_aT 0)) (w' := 120) rfl (fun k => rfl)
  generalize av_new S4 (.inr (0, 120)) (fun _ => defaultValue (sm_aT 0)) 120 = N4 at a4 ⊢
  refine bk62_40 (r0 := some b) (rk1 := some (b + 5)) a4.kd ?_
  have j5 := a4.set 8 (va_rf (some (b + 5)))
  generalize av_set N4 b 8 (va_rf (some (b + 5))) = S5 at j5 ⊢
  rw [j5.next]
  have a5 := j5.arr (s := 9) rfl (t := .inr (0, 120)) (f := fun _ => defaultValue (sm_aT 0)) (w' := 120) rfl (fun k => rfl)
  generalize av_new S5 (.inr (0, 120)) (fun _ => defaultValue (sm_aT 0)) 120 = N5 at a5 ⊢
  refine bk62_48 (r0 := some b) (rk1 := some (b + 6)) a5.kd ?_
  have j6 := a5.set 9 (va_rf (some (b + 6)))
  generalize av_set N5 b 9 (va_rf (some (b + 6))) = S6 at j6 ⊢
  rw [j6.next]
  have a6 := j6.arr (s := 10) rfl (t := .inr (0, 120)) (f := fun _ => defaultValue (sm_aT 0)) (w' := 120) rfl (fun k => rfl)
  generalize av_new S6 (.inr (0, 120)) (fun _ => defaultValue (sm_aT 0)) 120 = N6 at a6 ⊢
  refine bk62_56 (r0 := some b) (rk1 := some (b + 7)) a6.kd ?_
  have j7 := a6.set 10 (va_rf (some (b + 7)))
  generalize av_set N6 b 10 (va_rf (some (b + 7))) = S7 at j7 ⊢
  rw [j7.next]
  have a7 := j7.arr (s := 11) rfl (t := .inr (0, 120)) (f := fun _ => defaultValue (sm_aT 0)) (w' := 120) rfl (fun k => rfl)
  generalize av_new S7 (.inr (0, 120)) (fun _ => defaultValue (sm_aT 0)) 120 = N7 at a7 ⊢
  refine bk62_64 (r0 := some b) (rk1 := some (b + 8)) a7.kd ?_
  have j8 := a7.set 11 (va_rf (some (b + 8)))
  generalize av_set N7 b 11 (va_rf (some (b + 8))) = S8 at j8 ⊢
  rw [j8.next]
  have a8 := j8.arr (s := 12) rfl (t := .inr (0, 600)) (f := fun _ => defaultValue (sm_aT 0)) (w' := 600) rfl (fun k => rfl)
  generalize av_new S8 (.inr (0, 600)) (fun _ => defaultValue (sm_aT 0)) 600 = N8 at a8 ⊢
  refine bk62_73 (r0 := some b) (rk1 := some (b + 9)) a8.kd ?_
  have j9 := a8.set 12 (va_rf (some (b + 9)))
  generalize av_set N8 b 12 (va_rf (some (b + 9))) = S9 at j9 ⊢
  rw [j9.next]
  have a9 := j9.arr (s := 13) rfl (t := .inr (0, 600)) (f := fun _ => defaultValue (sm_aT 0)) (w' := 600) rfl (fun k => rfl)
  generalize av_new S9 (.inr (0, 600)) (fun _ => defaultValue (sm_aT 0)) 600 = N9 at a9 ⊢
  refine bk62_82 (r0 := some b) (rk1 := some (b + 10)) a9.kd ?_
  have j10 := a9.set 13 (va_rf (some (b + 10)))
  generalize av_set N9 b 13 (va_rf (some (b + 10))) = S10 at j10 ⊢
  rw [j10.next]
  have a10 := j10.arr (s := 14) rfl (t := .inr (0, 600)) (f := fun _ => defaultValue (sm_aT 0)) (w' := 600) rfl (fun k => rfl)
  generalize av_new S10 (.inr (0, 600)) (fun _ => defaultValue (sm_aT 0)) 600 = N10 at a10 ⊢
  refine bk62_91 (r0 := some b) (rk1 := some (b + 11)) a10.kd ?_
  have j11 := a10.set 14 (va_rf (some (b + 11)))
  generalize av_set N10 b 14 (va_rf (some (b + 11))) = S11 at j11 ⊢
  rw [j11.next]
  have a11 := j11.arr (s := 15) rfl (t := .inr (0, 1000)) (f := fun _ => defaultValue (sm_aT 0)) (w' := 1000) rfl (fun k => rfl)
  generalize av_new S11 (.inr (0, 1000)) (fun _ => defaultValue (sm_aT 0)) 1000 = N11 at a11 ⊢
  refine bk62_100 (r0 := some b) (rk1 := some (b + 12)) a11.kd ?_
  have j12 := a11.set 15 (va_rf (some (b + 12)))
  generalize av_set N11 b 15 (va_rf (some (b + 12))) = S12 at j12 ⊢
  rw [j12.next]
  have a12 := j12.arr (s := 16) rfl (t := .inr (0, 1000)) (f := fun _ => defaultValue (sm_aT 0)) (w' := 1000) rfl (fun k => rfl)
  generalize av_new S12 (.inr (0, 1000)) (fun _ => defaultValue (sm_aT 0)) 1000 = N12 at a12 ⊢
  refine bk62_109 (r0 := some b) (rk1 := some (b + 13)) a12.kd ?_
  have j13 := a12.set 16 (va_rf (some (b + 13)))
  generalize av_set N12 b 16 (va_rf (some (b + 13))) = S13 at j13 ⊢
  rw [j13.next]
  have a13 := j13.arr (s := 18) rfl (t := .inr (2, 120)) (f := fun _ => defaultValue (sm_aT 2)) (w' := 120) rfl (fun k => rfl)
  generalize av_new S13 (.inr (2, 120)) (fun _ => defaultValue (sm_aT 2)) 120 = N13 at a13 ⊢
  refine bk62_117 (r0 := some b) (rk1 := some (b + 14)) a13.kd ?_
  have j14 := a13.set 18 (va_rf (some (b + 14)))
  generalize av_set N13 b 18 (va_rf (some (b + 14))) = S14 at j14 ⊢
  rw [j14.next]
  have a14 := j14.arr (s := 20) rfl (t := .inr (0, 120)) (f := fun _ => defaultValue (sm_aT 0)) (w' := 120) rfl (fun k => rfl)
  generalize av_new S14 (.inr (0, 120)) (fun _ => defaultValue (sm_aT 0)) 120 = N14 at a14 ⊢
  refine bk62_125 (r0 := some b) (rk1 := some (b + 15)) a14.kd ?_
  have j15 := a14.set 20 (va_rf (some (b + 15)))
  generalize av_set N14 b 20 (va_rf (some (b + 15))) = S15 at j15 ⊢
  rw [j15.next]
  have a15 := j15.arr (s := 21) rfl (t := .inr (0, 120)) (f := fun _ => defaultValue (sm_aT 0)) (w' := 120) rfl (fun k => rfl)
  generalize av_new S15 (.inr (0, 120)) (fun _ => defaultValue (sm_aT 0)) 120 = N15 at a15 ⊢
  refine bk62_133 (r0 := some b) (rk1 := some (b + 16)) a15.kd ?_
  have j16 := a15.set 21 (va_rf (some (b + 16)))
  generalize av_set N15 b 21 (va_rf (some (b + 16))) = S16 at j16 ⊢
  rw [j16.next]
  have a16 := j16.arr (s := 23) rfl (t := .inr (0, 120)) (f := fun _ => defaultValue (sm_aT 0)) (w' := 120) rfl (fun k => rfl)
  generalize av_new S16 (.inr (0, 120)) (fun _ => defaultValue (sm_aT 0)) 120 = N16 at a16 ⊢
  refine bk62_141 (r0 := some b) (rk1 := some (b + 17)) a16.kd ?_
  have j17 := a16.set 23 (va_rf (some (b + 17)))
  generalize av_set N16 b 23 (va_rf (some (b + 17))) = S17 at j17 ⊢
  rw [j17.next]
  have a17 := j17.arr (s := 24) rfl (t := .inr (0, 120)) (f := fun _ => defaultValue (sm_aT 0)) (w' := 120) rfl (fun k => rfl)
  generalize av_new S17 (.inr (0, 120)) (fun _ => defaultValue (sm_aT 0)) 120 = N17 at a17 ⊢
  refine bk62_149 (r0 := some b) (rk1 := some (b + 18)) a17.kd ?_
  have j18 := a17.set 24 (va_rf (some (b + 18)))
  generalize av_set N17 b 24 (va_rf (some (b + 18))) = S18 at j18 ⊢
  rw [j18.next]
  have a18 := j18.arr (s := 26) rfl (t := .inr (0, 25000)) (f := fun _ => defaultValue (sm_aT 0)) (w' := 25000) rfl (fun k => rfl)
  generalize av_new S18 (.inr (0, 25000)) (fun _ => defaultValue (sm_aT 0)) 25000 = N18 at a18 ⊢
  refine bk62_158 (r0 := some b) (rk1 := some (b + 19)) a18.kd ?_
  have j19 := a18.set 26 (va_rf (some (b + 19)))
  generalize av_set N18 b 26 (va_rf (some (b + 19))) = S19 at j19 ⊢
  rw [j19.next]
  have a19 := j19.arr (s := 28) rfl (t := .inr (0, 25000)) (f := fun _ => defaultValue (sm_aT 0)) (w' := 25000) rfl (fun k => rfl)
  generalize av_new S19 (.inr (0, 25000)) (fun _ => defaultValue (sm_aT 0)) 25000 = N19 at a19 ⊢
  refine bk62_167 (r0 := some b) (rk1 := some (b + 20)) a19.kd ?_
  have j20 := a19.set 28 (va_rf (some (b + 20)))
  generalize av_set N19 b 28 (va_rf (some (b + 20))) = S20 at j20 ⊢
  rw [j20.next]
  have a20 := j20.arr (s := 30) rfl (t := .inr (0, 500)) (f := fun _ => defaultValue (sm_aT 0)) (w' := 500) rfl (fun k => rfl)
  generalize av_new S20 (.inr (0, 500)) (fun _ => defaultValue (sm_aT 0)) 500 = N20 at a20 ⊢
  refine bk62_176 (r0 := some b) (rk1 := some (b + 21)) a20.kd ?_
  have j21 := a20.set 30 (va_rf (some (b + 21)))
  generalize av_set N20 b 30 (va_rf (some (b + 21))) = S21 at j21 ⊢
  rw [j21.next]
  have a21 := j21.arr (s := 31) rfl (t := .inr (0, 500)) (f := fun _ => defaultValue (sm_aT 0)) (w' := 500) rfl (fun k => rfl)
  generalize av_new S21 (.inr (0, 500)) (fun _ => defaultValue (sm_aT 0)) 500 = N21 at a21 ⊢
  refine bk62_185 (r0 := some b) (rk1 := some (b + 22)) a21.kd ?_
  have j22 := a21.set 31 (va_rf (some (b + 22)))
  generalize av_set N21 b 31 (va_rf (some (b + 22))) = S22 at j22 ⊢
  rw [j22.next]
  have a22 := j22.arr (s := 33) rfl (t := .inr (3, 9000)) (f := fun _ => defaultValue (sm_aT 3)) (w' := 9000) rfl (fun k => rfl)
  generalize av_new S22 (.inr (3, 9000)) (fun _ => defaultValue (sm_aT 3)) 9000 = N22 at a22 ⊢
  refine bk62_194 (r0 := some b) (rk1 := some (b + 23)) a22.kd ⟨rfl, ?_⟩
  have j23 := a22.set 33 (va_rf (some (b + 23)))
  generalize av_set N22 b 33 (va_rf (some (b + 23))) = S23 at j23 ⊢
  refine ⟨j23.1, j23.kd, fun k hk => ?_, fun k hk => ?_⟩
  · refine (j23.2.2.2.2.1 k).trans ?_
    match k, hk with
    | 0, _ => rfl
    | 1, _ => rfl
    | 2, _ => rfl
    | 3, _ => rfl
    | 4, _ => rfl
    | 5, _ => rfl
    | 6, _ => rfl
    | 7, _ => rfl
    | 8, _ => rfl
    | 9, _ => rfl
    | 10, _ => rfl
    | 11, _ => rfl
    | 12, _ => rfl
    | 13, _ => rfl
    | 14, _ => rfl
    | 15, _ => rfl
    | 16, _ => rfl
    | 17, _ => rfl
    | 18, _ => rfl
    | 19, _ => rfl
    | 20, _ => rfl
    | 21, _ => rfl
    | 22, _ => rfl
    | 23, _ => rfl
    | 24, _ => rfl
    | 25, _ => rfl
    | 26, _ => rfl
    | 27, _ => rfl
    | 28, _ => rfl
    | 29, _ => rfl
    | 30, _ => rfl
    | 31, _ => rfl
    | 32, _ => rfl
    | 33, _ => rfl
    | k + 34, hk => omega
  · refine (j23.2.2.2.2.2 k ?_).2.2
    exact r_mem k (rl_ar_lt hk) hk
theorem r_start {S : av_St} (h : r_all b S) : ∃ X W, rr X W S ∧ r_RA m_0 W ∧ X.1 = b ∧ (∀ k, rl_ar k = true → b ≤ X.2.1 k ∧ X.2.1 k < b + 24) := by
  obtain ⟨h1, h2, h3⟩ := h
  refine ⟨(b, fun k => b + r_off k, S), (fun _ _ => 0, fun _ => 0), ⟨rfl, rfl, h1, fun k hk => ⟨(h3 k hk).1, ?_⟩, fun k k' hk hk' e => ?_, fun k i hk _ => (h3 k hk).2 i, fun k hk => ?_, fun _ _ _ => rfl⟩, ⟨⟨rfl, fun i hi => absurd hi (Nat.not_lt_zero _)⟩, ⟨rfl, fun i hi => absurd hi (Nat.not_lt_zero _)⟩, ⟨rfl, fun i hi => absurd hi (Nat.not_lt_zero _), fun _ _ _ => rfl⟩, fun d j e hd => absurd hd (Nat.not_lt_zero _), ⟨rfl, fun i e he => by cases he⟩, ⟨rfl, fun i e he => by cases he⟩, ⟨rfl, fun i e he => by cases he⟩⟩, rfl, fun k hk => ?_⟩
  · refine (h2 k (rl_ar_lt hk)).trans ?_
    rw [if_pos hk]
  · have e' : b + r_off k = b + r_off k' := e
    exact r_off_inj k (rl_ar_lt hk) k' (rl_ar_lt hk') hk hk' (by omega)
  · have hk' : k < 34 := by
      unfold rl_sc at hk
      rw [Bool.and_eq_true] at hk
      exact of_decide_eq_true hk.1
    refine (h2 k hk').trans ?_
    rw [if_neg (by rw [rl_sc_ar hk]; decide)]
  · have := r_off_lt k (rl_ar_lt hk) hk
    show b ≤ b + r_off k ∧ b + r_off k < b + 24
    omega
end RM0
