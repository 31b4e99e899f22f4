/-! WALKING THE SMALL MACHINE: 'from here it comes to its end with Q' -/
def sm_at (y pc : Nat) : Option av_I := match sm_mt y with
  | some M => M.2.2.2.2 pc
  | none => none
def sm_rt (y : Nat) : Option FieldType := match sm_mt y with
  | some M => M.2.2.2.1
  | none => none
def sm_ml (y : Nat) : Nat := match sm_mt y with
  | some M => M.2.2.1
  | none => 0
abbrev av_X : Type := List Value → av_St → Option (Option Value × av_St)
abbrev sm_run (ext : av_X) := av_run sm_fT sm_fN sm_aT ext sm_mt
def aw (ext : av_X) (d y pc : Nat) (L : av_Ls) (K : List Value) (S : av_St) (Q : Option Value → av_St → Prop) : Prop := ∃ (n : Nat) (r : Option Value) (S' : av_St), sm_run ext n d y pc L K S = some (r, S') ∧ Q r S'
/-- a method's contract -/
def ct (ext : av_X) (d y : Nat) (as : List Value) (S : av_St) (Q : Option Value → av_St → Prop) : Prop := aw ext d y 0 (av_ent as (sm_ml y)) [] S Q
section AW
variable {fT : Nat → Nat → FieldType} {fN : Nat → Nat} {aT : Nat → FieldType} {mt : Nat → Option av_Mt} {ext : av_X}
theorem av_run_mono : ∀ (n m d e y pc : Nat) (L : av_Ls) (K : List Value) (S : av_St) (x : Option Value × av_St), n ≤ m → d ≤ e → av_run fT fN aT ext mt n d y pc L K S = some x → av_run fT fN aT ext mt m e y pc L K S = some x
  | 0, m, d, e, y, pc, L, K, S, x, _, _, h => by cases h
  | n + 1, 0, d, e, y, pc, L, K, S, x, h0, _, h => by omega
  | n + 1, m + 1, d, e, y, pc, L, K, S, x, h0, h1, h => by
    have h0' : n ≤ m := by omega
    unfold av_run at h ⊢
    split at h
    · cases h
    · split at h
      · cases h
      · split at h
        · split at h
          · rename_i d' N hN
            obtain ⟨e', rfl⟩ : ∃ e', e = e' + 1 := ⟨e - 1, by omega⟩
            split at h
            · rename_i hc
              split at h
              · cases h
              · rename_i v S1 hr
                simp only [hN]
                rw [if_pos hc, av_run_mono n m d' e' _ _ _ _ _ _ h0' (by omega) hr]
                exact av_run_mono n m _ _ _ _ _ _ _ _ h0' h1 h
            · cases h
          · cases h
        · split at h
          · rename_i d' a K'
            obtain ⟨e', rfl⟩ : ∃ e', e = e' + 1 := ⟨e - 1, by omega⟩
            split at h
            · rename_i hc
              simp only []
              rw [if_pos hc]
              exact av_run_mono n m _ _ _ _ _ _ _ _ h0' h1 h
            · cases h
          · cases h
        · split at h
          · rename_i d'
            obtain ⟨e', rfl⟩ : ∃ e', e = e' + 1 := ⟨e - 1, by omega⟩
            split at h
            · rename_i hc
              split at h
              · cases h
              · rename_i v S1 hr
                split at h
                · rename_i hz
                  simp only []
                  rw [if_pos ⟨by have := hc.1; omega, hc.2⟩, if_pos hz]
                  exact av_run_mono n m _ _ _ _ _ _ _ _ h0' h1 h
                · cases h
            · cases h
          · cases h
        · exact h
        · exact h
        · split at h
          · cases h
          · rename_i hs
            exact av_run_mono n m _ _ _ _ _ _ _ _ h0' h1 h
end AW
section AW2
variable {ext : av_X} {d y pc : Nat} {L : av_Ls} {K : List Value} {S : av_St} {Q : Option Value → av_St → Prop}
theorem aw.mono {e : Nat} (h : aw ext d y pc L K S Q) (hd : d ≤ e) : aw ext e y pc L K S Q := by
  obtain ⟨n, r, S', h1, h2⟩ := h
  exact ⟨n, r, S', av_run_mono n n d e y pc L K S _ (Nat.le_refl _) hd h1, h2⟩
theorem aw.post {Q' : Option Value → av_St → Prop} (h : aw ext d y pc L K S Q) (hq : ∀ r S', Q r S' → Q' r S') : aw ext d y pc L K S Q' := by
  obtain ⟨n, r, S', h1, h2⟩ := h
  exact ⟨n, r, S', h1, hq r S' h2⟩
theorem ct.mono {e : Nat} {as : List Value} (h : ct ext d y as S Q) (hd : d ≤ e) : ct ext e y as S Q := aw.mono h hd
theorem ct.post {as : List Value} {Q' : Option Value → av_St → Prop} (h : ct ext d y as S Q) (hq : ∀ r S', Q r S' → Q' r S') : ct ext d y as S Q' := aw.post h hq
theorem sm_at_some {I : av_I} (h : sm_at y pc = some I) : ∃ M, sm_mt y = some M ∧ M.2.2.2.2 pc = some I ∧ sm_rt y = M.2.2.2.1 ∧ sm_ml y = M.2.2.1 := by
  unfold sm_at at h
  cases hm : sm_mt y with
  | none => rw [hm] at h; cases h
  | some M => rw [hm] at h; exact ⟨M, rfl, h, by unfold sm_rt; rw [hm], by unfold sm_ml; rw [hm]⟩
theorem aw_step {I : av_I} {pc' : Nat} {L' : av_Ls} {K' : List Value} {S' : av_St} (j : sm_at y pc = some I) (hop : I.1 < 40) (h : av_step sm_fT sm_fN sm_aT I pc L K S = some (pc', L', K', S')) (k : aw ext d y pc' L' K' S' Q) : aw ext d y pc L K S Q := by
  obtain ⟨M, h1, h2, -, -⟩ := sm_at_some j
  obtain ⟨n, r, S1, h3, h4⟩ := k
  refine ⟨n + 1, r, S1, ?_, h4⟩
  unfold sm_run av_run
  rw [h1]
  simp only [h2]
  split
  · rename_i e; omega
  · rename_i e; omega
  · rename_i e; omega
  · rename_i e; omega
  · rename_i e; omega
  · rw [h]
    exact h3
theorem aw_call {ln y' na : Nat} {v0 : Int32} {q : List Nat} {as rest : List Value} {Qc : Option Value → av_St → Prop} (j : sm_at y pc = some (40, ln, y', na, v0, q)) (hK : K = as.reverse ++ rest) (hna : as.length = na) (hr : rest.length ≤ 4) (hm : na ≤ sm_ml y') (hy : sm_mt y' ≠ none) (hc : ∀ v ∈ as, v.category = 1) (hv : av_rcv q S as = true) (h : ct ext d y' as S Qc) (k : ∀ r S1, Qc r S1 → aw ext (d + 1) y (pc + 3) L (r.toList ++ rest) S1 Q) : aw ext (d + 1) y pc L K S Q := by
  obtain ⟨M, h1, h2, -, -⟩ := sm_at_some j
  obtain ⟨n1, r1, S1, h3, h4⟩ := h
  obtain ⟨n2, r, S2, h5, h6⟩ := k r1 S1 h4
  cases hN : sm_mt y' with
  | none => exact absurd hN hy
  | some N =>
  have hml : sm_ml y' = N.2.2.1 := by unfold sm_ml; rw [hN]
  refine ⟨max n1 n2 + 1, r, S2, ?_, h6⟩
  subst hK
  have hrl : as.reverse.length = na := by rw [List.length_reverse]; exact hna
  have ht : (as.reverse ++ rest).take na = as.reverse := by rw [← hrl]; exact List.take_left' rfl
  have hdr : (as.reverse ++ rest).drop na = rest := by rw [← hrl]; exact List.drop_left' rfl
  unfold sm_run av_run
  rw [h1]
  simp only [h2, hN, ht, hdr, List.reverse_reverse]
  rw [if_pos ⟨by rw [List.length_append, hrl]; omega, by rw [List.length_append, hrl]; omega, by rw [← hml]; exact hm, fun v hv => hc v (List.mem_reverse.mp hv), hv⟩]
  rw [hml] at h3
  rw [av_run_mono n1 (max n1 n2) d d _ _ _ _ _ _ (Nat.le_max_left _ _) (Nat.le_refl _) h3]
  exact av_run_mono n2 (max n1 n2) _ _ _ _ _ _ _ _ (Nat.le_max_right _ _) (Nat.le_refl _) h5
theorem aw_ext {ln a na : Nat} {v0 : Int32} {q : List Nat} {as rest : List Value} {r1 : Option Value} {S1 : av_St} (j : sm_at y pc = some (45, ln, a, na, v0, q)) (hK : K = as.reverse ++ rest) (hna : as.length = na) (hr : rest.length ≤ 4) (hd : 8 ≤ d) (h : ext as S = some (r1, S1)) (hz : S.2.2.1 ≤ S1.2.2.1 ∧ S.2.2.2 ≤ S1.2.2.2) (k : aw ext (d + 1) y (pc + 3) L (r1.toList ++ rest) S1 Q) : aw ext (d + 1) y pc L K S Q := by
  obtain ⟨M, h1, h2, -, -⟩ := sm_at_some j
  obtain ⟨n2, r, S2, h5, h6⟩ := k
  refine ⟨n2 + 1, r, S2, ?_, h6⟩
  subst hK
  have hrl : as.reverse.length = na := by rw [List.length_reverse]; exact hna
  have ht : (as.reverse ++ rest).take na = as.reverse := by rw [← hrl]; exact List.take_left' rfl
  have hdr : (as.reverse ++ rest).drop na = rest := by rw [← hrl]; exact List.drop_left' rfl
  unfold sm_run av_run
  rw [h1]
  simp only [h2, ht, hdr, List.reverse_reverse]
  rw [if_pos ⟨hd, by rw [List.length_append, hrl]; omega, by rw [List.length_append, hrl]; omega⟩, h]
  simp only []
  rw [if_pos hz]
  exact h5
theorem aw_obj {ln a b : Nat} {v0 : Int32} {q : List Nat} {o : Nat} {rest : List Value} (j : sm_at y pc = some (41, ln, a, b, v0, q)) (hr : rest.length ≤ 4) (k : aw ext (d + 1) y (pc + 3) L rest S Q) : aw ext (d + 1) y pc L (.ref o :: rest) S Q := by
  obtain ⟨M, h1, h2, -, -⟩ := sm_at_some j
  obtain ⟨n2, r, S2, h5, h6⟩ := k
  refine ⟨n2 + 1, r, S2, ?_, h6⟩
  unfold sm_run av_run
  rw [h1]
  simp only [h2]
  rw [if_pos hr]
  exact h5
theorem aw_vret {ln a b : Nat} {v0 : Int32} {q : List Nat} (j : sm_at y pc = some (42, ln, a, b, v0, q)) (hr : sm_rt y = none) (k : Q none S) : aw ext d y pc L [] S Q := by
  obtain ⟨M, h1, h2, h3, -⟩ := sm_at_some j
  refine ⟨1, none, S, ?_, k⟩
  unfold sm_run av_run
  rw [h1]
  simp only [h2]
  rw [if_pos (h3.symm.trans hr)]
theorem aw_ret {ln a b : Nat} {v0 : Int32} {q : List Nat} {v : Value} (j : sm_at y pc = some (43, ln, a, b, v0, q)) (hr : av_rok (sm_rt y) v = true) (k : Q (some v) S) : aw ext d y pc L [v] S Q := by
  obtain ⟨M, h1, h2, h3, -⟩ := sm_at_some j
  refine ⟨1, some v, S, ?_, k⟩
  unfold sm_run av_run
  rw [h1]
  simp only [h2]
  rw [if_pos (by rw [← h3]; exact hr)]
theorem av_isR_rf (r : Option Nat) : av_isR (va_rf r) = true := by cases r <;> rfl
theorem av_cat_rf (r : Option Nat) : (va_rf r).category = 1 := by cases r <;> rfl
theorem av_fo_rf (C : String) (r : Option Nat) : av_fits (.object C) (va_rf r) = true := by cases r <;> rfl
theorem av_fa_rf (t : FieldType) (r : Option Nat) : av_fits (.array t) (va_rf r) = true := by cases r <;> rfl
theorem aw_ild {ln a b : Nat} {v0 x : Int32} {q : List Nat} (j : sm_at y pc = some (0, ln, a, b, v0, q)) (h : av_ld L a = some (.int x)) (k : aw ext d y (pc + ln) L (.int x :: K) S Q) : aw ext d y pc L K S Q :=
  aw_step j (Nat.le_of_ble_eq_true rfl) (by simp only [av_step, h]) k
theorem aw_ald {ln a b : Nat} {v0 : Int32} {v : Value} {q : List Nat} (j : sm_at y pc = some (1, ln, a, b, v0, q)) (h : av_ld L a = some v) (hv : av_isR v = true) (k : aw ext d y (pc + ln) L (v :: K) S Q) : aw ext d y pc L K S Q :=
  aw_step j (Nat.le_of_ble_eq_true rfl) (by simp only [av_step, h]; rw [if_pos hv]) k
theorem aw_ist {ln a b : Nat} {v0 x : Int32} {q : List Nat} (j : sm_at y pc = some (2, ln, a, b, v0, q)) (h : a < L.length) (k : aw ext d y (pc + ln) (L.set a (some (.int x))) K S Q) : aw ext d y pc L (.int x :: K) S Q :=
  aw_step j (Nat.le_of_ble_eq_true rfl) (by simp only [av_step]; rw [if_pos h]) k
theorem aw_ast {ln a b : Nat} {v0 : Int32} {v : Value} {q : List Nat} (j : sm_at y pc = some (3, ln, a, b, v0, q)) (hv : av_isR v = true) (h : a < L.length) (k : aw ext d y (pc + ln) (L.set a (some v)) K S Q) : aw ext d y pc L (v :: K) S Q :=
  aw_step j (Nat.le_of_ble_eq_true rfl) (by simp only [av_step]; rw [if_pos ⟨hv, h⟩]) k
theorem aw_con {ln a b : Nat} {v0 : Int32} {q : List Nat} (j : sm_at y pc = some (4, ln, a, b, v0, q)) (k : aw ext d y (pc + ln) L (.int v0 :: K) S Q) : aw ext d y pc L K S Q :=
  aw_step j (Nat.le_of_ble_eq_true rfl) (by simp only [av_step]) k
theorem aw_nul {ln a b : Nat} {v0 : Int32} {q : List Nat} (j : sm_at y pc = some (5, ln, a, b, v0, q)) (k : aw ext d y (pc + ln) L (.null :: K) S Q) : aw ext d y pc L K S Q :=
  aw_step j (Nat.le_of_ble_eq_true rfl) (by simp only [av_step]) k
theorem aw_inc {ln a b : Nat} {v0 x : Int32} {q : List Nat} (j : sm_at y pc = some (6, ln, a, b, v0, q)) (h : av_ld L a = some (.int x)) (k : aw ext d y (pc + ln) (L.set a (some (.int (x + v0)))) K S Q) : aw ext d y pc L K S Q :=
  aw_step j (Nat.le_of_ble_eq_true rfl) (by simp only [av_step, h]) k
theorem aw_bin {ln a b : Nat} {v0 x1 x2 z : Int32} {q : List Nat} (j : sm_at y pc = some (7, ln, a, b, v0, q)) (h : av_bin a x1 x2 = some z) (k : aw ext d y (pc + ln) L (.int z :: K) S Q) : aw ext d y pc L (.int x2 :: .int x1 :: K) S Q :=
  aw_step j (Nat.le_of_ble_eq_true rfl) (by simp only [av_step, h]) k
theorem aw_i2c {ln a b : Nat} {v0 x : Int32} {q : List Nat} (j : sm_at y pc = some (8, ln, a, b, v0, q)) (k : aw ext d y (pc + ln) L (.int (x.toUInt32 % 65536).toInt32 :: K) S Q) : aw ext d y pc L (.int x :: K) S Q :=
  aw_step j (Nat.le_of_ble_eq_true rfl) (by simp only [av_step]) k
theorem aw_i2b {ln a b : Nat} {v0 x : Int32} {q : List Nat} (j : sm_at y pc = some (22, ln, a, b, v0, q)) (k : aw ext d y (pc + ln) L (.int x.toInt8.toInt32 :: K) S Q) : aw ext d y pc L (.int x :: K) S Q :=
  aw_step j (Nat.le_of_ble_eq_true rfl) (by simp only [av_step]) k
theorem aw_i2l {ln a b : Nat} {v0 x : Int32} {q : List Nat} (j : sm_at y pc = some (23, ln, a, b, v0, q)) (k : aw ext d y (pc + ln) L (.long x.toInt64 :: K) S Q) : aw ext d y pc L (.int x :: K) S Q :=
  aw_step j (Nat.le_of_ble_eq_true rfl) (by simp only [av_step]) k
theorem aw_lcmp {ln a b : Nat} {v0 : Int32} {x1 x2 : Int64} {q : List Nat} (j : sm_at y pc = some (24, ln, a, b, v0, q)) (k : aw ext d y (pc + ln) L (.int (lg_cmp x1 x2) :: K) S Q) : aw ext d y pc L (.long x2 :: .long x1 :: K) S Q :=
  aw_step j (Nat.le_of_ble_eq_true rfl) (by simp only [av_step]) k
theorem aw_dup {ln a b : Nat} {v0 : Int32} {v : Value} {q : List Nat} (j : sm_at y pc = some (10, ln, a, b, v0, q)) (hv : v.category = 1) (k : aw ext d y (pc + ln) L (v :: v :: K) S Q) : aw ext d y pc L (v :: K) S Q :=
  aw_step j (Nat.le_of_ble_eq_true rfl) (by simp only [av_step]; rw [if_pos hv]) k
theorem aw_pop {ln a b : Nat} {v0 : Int32} {v : Value} {q : List Nat} (j : sm_at y pc = some (11, ln, a, b, v0, q)) (hv : v.category = 1) (k : aw ext d y (pc + ln) L K S Q) : aw ext d y pc L (v :: K) S Q :=
  aw_step j (Nat.le_of_ble_eq_true rfl) (by simp only [av_step]; rw [if_pos hv]) k
theorem aw_dup2 {ln a b : Nat} {v0 : Int32} {v w : Value} {q : List Nat} (j : sm_at y pc = some (13, ln, a, b, v0, q)) (hv : v.category = 1) (hw : w.category = 1) (k : aw ext d y (pc + ln) L (v :: w :: v :: w :: K) S Q) : aw ext d y pc L (v :: w :: K) S Q :=
  aw_step j (Nat.le_of_ble_eq_true rfl) (by simp only [av_step]; rw [if_pos ⟨hv, hw⟩]) k
theorem aw_goto {ln a t : Nat} {v0 : Int32} {q : List Nat} (j : sm_at y pc = some (20, ln, a, t, v0, q)) (k : aw ext d y t L K S Q) : aw ext d y pc L K S Q :=
  aw_step j (Nat.le_of_ble_eq_true rfl) (by simp only [av_step]) k
theorem aw_if {ln a t : Nat} {v0 x : Int32} {q : List Nat} (j : sm_at y pc = some (15, ln, a, t, v0, q)) (k1 : av_cmp a x 0 = true → aw ext d y t L K S Q) (k2 : av_cmp a x 0 = false → aw ext d y (pc + ln) L K S Q) : aw ext d y pc L (.int x :: K) S Q := by
  cases h : av_cmp a x 0 with
  | true => exact aw_step j (Nat.le_of_ble_eq_true rfl) (by simp only [av_step, h]; rfl) (k1 h)
  | false => exact aw_step j (Nat.le_of_ble_eq_true rfl) (by simp only [av_step, h]; rfl) (k2 h)
theorem aw_ic {ln a t : Nat} {v0 x1 x2 : Int32} {q : List Nat} (j : sm_at y pc = some (16, ln, a, t, v0, q)) (k1 : av_cmp a x1 x2 = true → aw ext d y t L K S Q) (k2 : av_cmp a x1 x2 = false → aw ext d y (pc + ln) L K S Q) : aw ext d y pc L (.int x2 :: .int x1 :: K) S Q := by
  cases h : av_cmp a x1 x2 with
  | true => exact aw_step j (Nat.le_of_ble_eq_true rfl) (by simp only [av_step, h]; rfl) (k1 h)
  | false => exact aw_step j (Nat.le_of_ble_eq_true rfl) (by simp only [av_step, h]; rfl) (k2 h)
theorem aw_ac {ln a t : Nat} {v0 : Int32} {r1 r2 : Option Nat} {q : List Nat} (j : sm_at y pc = some (17, ln, a, t, v0, q)) (k1 : (r1 = r2) = (a = 0) → aw ext d y t L K S Q) (k2 : ¬ (r1 = r2) = (a = 0) → aw ext d y (pc + ln) L K S Q) : aw ext d y pc L (va_rf r2 :: va_rf r1 :: K) S Q := by
  by_cases h : (r1 = r2) = (a = 0)
  · exact aw_step j (Nat.le_of_ble_eq_true rfl) (by simp only [av_step, av_isR_rf, av_rf_inj]; rw [if_pos ⟨trivial, trivial⟩, if_pos h]) (k1 h)
  · exact aw_step j (Nat.le_of_ble_eq_true rfl) (by simp only [av_step, av_isR_rf, av_rf_inj]; rw [if_pos ⟨trivial, trivial⟩, if_neg h]) (k2 h)
theorem aw_null {ln a t : Nat} {v0 : Int32} {r : Option Nat} {q : List Nat} (j : sm_at y pc = some (18, ln, a, t, v0, q)) (k1 : r = none → aw ext d y t L K S Q) (k2 : ∀ o, r = some o → aw ext d y (pc + ln) L K S Q) : aw ext d y pc L (va_rf r :: K) S Q := by
  cases r with
  | none => exact aw_step j (Nat.le_of_ble_eq_true rfl) (by simp only [av_step, va_rf]) (k1 rfl)
  | some o => exact aw_step j (Nat.le_of_ble_eq_true rfl) (by simp only [av_step, va_rf]) (k2 o rfl)
theorem aw_nonn {ln a t : Nat} {v0 : Int32} {r : Option Nat} {q : List Nat} (j : sm_at y pc = some (19, ln, a, t, v0, q)) (k1 : r = none → aw ext d y (pc + ln) L K S Q) (k2 : ∀ o, r = some o → aw ext d y t L K S Q) : aw ext d y pc L (va_rf r :: K) S Q := by
  cases r with
  | none => exact aw_step j (Nat.le_of_ble_eq_true rfl) (by simp only [av_step, va_rf]) (k1 rfl)
  | some o => exact aw_step j (Nat.le_of_ble_eq_true rfl) (by simp only [av_step, va_rf]) (k2 o rfl)
theorem aw_tsw {ln a t : Nat} {lo x : Int32} {ts : List Nat} (j : sm_at y pc = some (21, ln, a, t, lo, ts)) (k : aw ext d y (if x.toInt < lo.toInt then t else ts.getD (x.toInt - lo.toInt).toNat t) L K S Q) : aw ext d y pc L (.int x :: K) S Q := by
  by_cases h : x.toInt < lo.toInt
  · rw [if_pos h] at k
    exact aw_step j (Nat.le_of_ble_eq_true rfl) (by simp only [av_step]; rw [if_pos h]) k
  · rw [if_neg h] at k
    exact aw_step j (Nat.le_of_ble_eq_true rfl) (by simp only [av_step]; rw [if_neg h]) k
theorem aw_get {ln ci f : Nat} {v0 : Int32} {q : List Nat} {o : Nat} {v : Value} (j : sm_at y pc = some (30, ln, ci, f, v0, q)) (t : S.1 o = some (.inl ci)) (hv : S.2.1 o f = v) (k : aw ext d y (pc + ln) L (v :: K) S Q) : aw ext d y pc L (.ref o :: K) S Q :=
  aw_step j (Nat.le_of_ble_eq_true rfl) (by simp only [av_step]; rw [if_pos t, hv]) k
theorem aw_put {ln ci f : Nat} {v0 : Int32} {q : List Nat} {o : Nat} {v : Value} (j : sm_at y pc = some (31, ln, ci, f, v0, q)) (t : S.1 o = some (.inl ci)) (hv : av_fits (sm_fT ci f) v = true) (k : aw ext d y (pc + ln) L K (av_set S o f v) Q) : aw ext d y pc L (v :: .ref o :: K) S Q :=
  aw_step j (Nat.le_of_ble_eq_true rfl) (by simp only [av_step]; rw [if_pos ⟨t, hv⟩]) k
theorem aw_len {ln a b : Nat} {v0 : Int32} {q : List Nat} {o jj n : Nat} (j : sm_at y pc = some (32, ln, a, b, v0, q)) (t : S.1 o = some (.inr (jj, n))) (k : aw ext d y (pc + ln) L (.int (nI n) :: K) S Q) : aw ext d y pc L (.ref o :: K) S Q :=
  aw_step j (Nat.le_of_ble_eq_true rfl) (by simp only [av_step, t]; rfl) k
theorem av_inb_nI {i n : Nat} (h : i < n) (hn : n < 2147483648) : av_inb (nI i) n = true := by
  unfold av_inb
  rw [Bool.and_eq_true, decide_eq_true_eq, decide_eq_true_eq]
  exact ⟨nI_pos' (by omega), by rw [nI_clamp (by omega)]; exact h⟩
theorem aw_xld {ln jj b : Nat} {v0 ii : Int32} {q : List Nat} {o n i : Nat} {v : Value} (j : sm_at y pc = some (33, ln, jj, b, v0, q)) (t : S.1 o = some (.inr (jj, n))) (hi : ii = nI i) (h : i < n) (hn : n < 2147483648) (hv : S.2.1 o i = v) (k : aw ext d y (pc + ln) L (v :: K) S Q) : aw ext d y pc L (.int ii :: .ref o :: K) S Q := by
  subst hi
  exact aw_step j (Nat.le_of_ble_eq_true rfl) (by simp only [av_step, t]; rw [if_pos ⟨Or.inl trivial, av_inb_nI h hn⟩, nI_clamp (by omega), hv]) k
theorem aw_xldR {ln jj b : Nat} {v0 ii : Int32} {q : List Nat} {o n i : Nat} {v : Value} (j : sm_at y pc = some (33, ln, jj, b, v0, q)) (t : S.1 o = some (.inr (jj + 50, n))) (hi : ii = nI i) (h : i < n) (hn : n < 2147483648) (hv : S.2.1 o i = v) (k : aw ext d y (pc + ln) L (v :: K) S Q) : aw ext d y pc L (.int ii :: .ref o :: K) S Q := by
  subst hi
  exact aw_step j (Nat.le_of_ble_eq_true rfl) (by simp only [av_step, t]; rw [if_pos ⟨Or.inr trivial, av_inb_nI h hn⟩, nI_clamp (by omega), hv]) k
theorem aw_xst {ln jj b : Nat} {v0 x ii : Int32} {q : List Nat} {o n i : Nat} (j : sm_at y pc = some (34, ln, jj, b, v0, q)) (t : S.1 o = some (.inr (jj, n))) (hi : ii = nI i) (h : i < n) (hn : n < 2147483648) (k : aw ext d y (pc + ln) L K (av_set S o i (narrow (sm_aT jj) (.int x))) Q) : aw ext d y pc L (.int x :: .int ii :: .ref o :: K) S Q := by
  subst hi
  exact aw_step j (Nat.le_of_ble_eq_true rfl) (by simp only [av_step, t]; rw [if_pos ⟨trivial, av_inb_nI h hn⟩, nI_clamp (by omega)]) k
theorem aw_ast2 {ln jj ci : Nat} {v0 ii : Int32} {q : List Nat} {o n i : Nat} {r : Option Nat} (j : sm_at y pc = some (35, ln, jj, ci, v0, q)) (t : S.1 o = some (.inr (jj, n))) (hi : ii = nI i) (h : i < n) (hn : n < 2147483648) (tv : ∀ w, r = some w → S.1 w = some (.inl ci)) (k : aw ext d y (pc + ln) L K (av_set S o i (va_rf r)) Q) : aw ext d y pc L (va_rf r :: .int ii :: .ref o :: K) S Q := by
  subst hi
  cases r with
  | none => exact aw_step j (Nat.le_of_ble_eq_true rfl) (by simp only [av_step, va_rf, t]; rw [if_pos ⟨trivial, av_inb_nI h hn⟩, nI_clamp (by omega)]) k
  | some w => exact aw_step j (Nat.le_of_ble_eq_true rfl) (by simp only [av_step, va_rf, t]; rw [if_pos ⟨trivial, av_inb_nI h hn, tv w rfl⟩, nI_clamp (by omega)]) k
theorem aw_new {ln ci b : Nat} {v0 : Int32} {q : List Nat} (j : sm_at y pc = some (36, ln, ci, b, v0, q)) (k : aw ext d y (pc + ln) L (.ref S.2.2.1 :: K) (av_new S (.inl ci) (fun f => defaultValue (sm_fT ci f)) (sm_fN ci)) Q) : aw ext d y pc L K S Q :=
  aw_step j (Nat.le_of_ble_eq_true rfl) (by simp only [av_step]) k
theorem aw_newa {ln jj b : Nat} {v0 ii : Int32} {q : List Nat} {n : Nat} (j : sm_at y pc = some (37, ln, jj, b, v0, q)) (hi : ii = nI n) (h : n ≤ 65536) (k : aw ext d y (pc + ln) L (.ref S.2.2.1 :: K) (av_new S (.inr (jj, n)) (fun _ => defaultValue (sm_aT jj)) n) Q) : aw ext d y pc L (.int ii :: K) S Q := by
  subst hi
  exact aw_step j (Nat.le_of_ble_eq_true rfl) (by simp only [av_step]; rw [nI_clamp (by omega), if_pos ⟨nI_pos' (by omega), h⟩]) k
theorem aw_newr {ln jj b : Nat} {v0 ii : Int32} {q : List Nat} {n : Nat} (j : sm_at y pc = some (38, ln, jj, b, v0, q)) (hi : ii = nI n) (h : n ≤ 65536) (k : aw ext d y (pc + ln) L (.ref S.2.2.1 :: K) (av_new S (.inr (jj, n)) (fun _ => .null) n) Q) : aw ext d y pc L (.int ii :: K) S Q := by
  subst hi
  exact aw_step j (Nat.le_of_ble_eq_true rfl) (by simp only [av_step]; rw [nI_clamp (by omega), if_pos ⟨nI_pos' (by omega), h⟩]) k
/-- contracts by what comes back: nothing, an int, a reference -/
def ctv (ext : av_X) (d y : Nat) (as : List Value) (S : av_St) (P : av_St → Prop) : Prop := ct ext d y as S (fun r S1 => r = none ∧ P S1)
def cti (ext : av_X) (d y : Nat) (as : List Value) (S : av_St) (P : Int32 → av_St → Prop) : Prop := ct ext d y as S (fun r S1 => ∃ x, r = some (.int x) ∧ P x S1)
def ctr (ext : av_X) (d y : Nat) (as : List Value) (S : av_St) (P : Option Nat → av_St → Prop) : Prop := ct ext d y as S (fun r S1 => ∃ x, r = some (va_rf x) ∧ P x S1)
theorem cs_nil : ∀ v ∈ ([] : List Value), v.category = 1 := fun v h => by cases h
theorem cs_cons {v : Value} {l : List Value} (h : v.category = 1) (t : ∀ w ∈ l, w.category = 1) : ∀ w ∈ v :: l, w.category = 1 := fun w hw => (List.mem_cons.mp hw).elim (fun e => e ▸ h) (t w)
theorem aw_callv {ln y' na : Nat} {v0 : Int32} {q : List Nat} {as rest : List Value} {P : av_St → Prop} (j : sm_at y pc = some (40, ln, y', na, v0, q)) (hK : K = as.reverse ++ rest) (hna : as.length = na) (hr : rest.length ≤ 4) (hm : na ≤ sm_ml y') (hy : sm_mt y' ≠ none) (hc : ∀ v ∈ as, v.category = 1) (hv : av_rcv q S as = true) (h : ctv ext d y' as S P) (k : ∀ S1, P S1 → aw ext (d + 1) y (pc + 3) L rest S1 Q) : aw ext (d + 1) y pc L K S Q :=
  aw_call j hK hna hr hm hy hc hv h (fun r S1 hq => by obtain ⟨rfl, hq⟩ := hq; exact k S1 hq)
theorem aw_calli {ln y' na : Nat} {v0 : Int32} {q : List Nat} {as rest : List Value} {P : Int32 → av_St → Prop} (j : sm_at y pc = some (40, ln, y', na, v0, q)) (hK : K = as.reverse ++ rest) (hna : as.length = na) (hr : rest.length ≤ 4) (hm : na ≤ sm_ml y') (hy : sm_mt y' ≠ none) (hc : ∀ v ∈ as, v.category = 1) (hv : av_rcv q S as = true) (h : cti ext d y' as S P) (k : ∀ x S1, P x S1 → aw ext (d + 1) y (pc + 3) L (.int x :: rest) S1 Q) : aw ext (d + 1) y pc L K S Q :=
  aw_call j hK hna hr hm hy hc hv h (fun r S1 hq => by obtain ⟨x, rfl, hq⟩ := hq; exact k x S1 hq)
theorem aw_callr {ln y' na : Nat} {v0 : Int32} {q : List Nat} {as rest : List Value} {P : Option Nat → av_St → Prop} (j : sm_at y pc = some (40, ln, y', na, v0, q)) (hK : K = as.reverse ++ rest) (hna : as.length = na) (hr : rest.length ≤ 4) (hm : na ≤ sm_ml y') (hy : sm_mt y' ≠ none) (hc : ∀ v ∈ as, v.category = 1) (hv : av_rcv q S as = true) (h : ctr ext d y' as S P) (k : ∀ x S1, P x S1 → aw ext (d + 1) y (pc + 3) L (va_rf x :: rest) S1 Q) : aw ext (d + 1) y pc L K S Q :=
  aw_call j hK hna hr hm hy hc hv h (fun r S1 hq => by obtain ⟨x, rfl, hq⟩ := hq; exact k x S1 hq)
end AW2
