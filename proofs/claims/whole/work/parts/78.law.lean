/-! THE LAW: class and reference side by side -/
def sm_x (S : av_St) : av_St := (S.1, S.2.1, S.2.2.1 + 1, S.2.2.2 + 6)
/-- the law's call of fault: what it answers, what it leaves -/
def sm_ext : av_X := fun as S => match as with
  | [.ref x, .int i, .int w, .ref o] =>
    if S.1 x = some (.inl 0) ∧ S.1 o = some (.inr (4, 1)) then
      match S.2.1 x 9 with
      | .ref f => if S.1 f = some (.inl 4) then
          match S.2.1 f 2 with
          | .int n => if i < 0 ∨ n ≤ i ∨ w < 0 ∨ 1 < w then some (some (.int 1), sm_x S)
            else match S.2.1 f (if w = 0 then 0 else 1) with
              | .ref g => if S.1 g = some (.inr (0, 300)) ∧ av_inb i 300 = true then
                  match S.2.1 g i.toNatClampNeg with
                  | .int v => some (some (.int 0), av_set S o 0 (.long v.toInt64))
                  | _ => none
                else none
              | _ => none
          | _ => none
        else none
      | _ => none
    else none
  | _ => none
theorem cr.mv {X : cX} {T : cT} {S S' : av_St} (h : cr X T S) (e1 : S'.1 = S.1) (e2 : ∀ s i, X.2.1 s i → S'.2.1 (X.1 s i) = S.2.1 (X.1 s i)) : cr (x_at X S') T S' := by
  refine ⟨rfl, rfl, fun s i l => ?_, h.2.2.2.1, fun s i k l a b => ?_, fun s i k t l a => ?_, fun s i k t l a => ?_, fun a _ => rfl⟩
  · rw [e1]; exact h.kd l
  · exact (congrFun (e2 s i l) k).trans (h.i k a b l)
  · exact ⟨(congrFun (e2 s i l) k).trans (h.r k a l), h.rl k a l⟩
  · exact ⟨(congrFun (e2 s i l) k).trans (h.f k a l), h.fl k a l⟩
theorem rr.mv {b : Nat} {ar : Nat → Nat} {S0 S S' : av_St} {W : rW} (h : rr (b, ar, S0) W S) (e1 : S'.1 b = S.1 b) (e2 : ∀ k, rl_ar k = true → S'.1 (ar k) = S.1 (ar k)) (e3 : S'.2.1 b = S.2.1 b) (e4 : ∀ k, rl_ar k = true → S'.2.1 (ar k) = S.2.1 (ar k)) : rr (b, ar, S') W S' := by
  obtain ⟨-, -, h3, h4, h5, h6, h7, -⟩ := h
  refine ⟨rfl, rfl, e1.trans h3, fun k hk => ⟨(e2 k hk).trans (h4 k hk).1, (congrFun e3 k).trans (h4 k hk).2⟩, h5, fun k i hk hi => (congrFun (e4 k hk) i).trans (h6 k i hk hi), fun k hk => (congrFun e3 k).trans (h7 k hk), fun _ _ _ => rfl⟩
def c_kdb (t : av_Ty) : Bool := match t with
  | .inl c => decide (c ≠ 10)
  | .inr q => decide (q.1 ≠ 50 ∧ q.1 ≠ 4)
theorem c_kd_sep : ∀ s, s < 35 → s ≠ 10 → c_kdb (c_kd s) = true := by decide
theorem c_X.sep {A : mS} {X : cX} (h : c_X A X) {s i : Nat} (l : X.2.1 s i) : c_kd s ≠ .inl 10 ∧ (∀ n, c_kd s ≠ .inr (50, n)) ∧ ∀ n, c_kd s ≠ .inr (4, n) := by
  have hs : s < 35 ∧ s ≠ 10 := by
    have l' := (h s i).mp l
    unfold c_lv at l'
    split at l'
    · omega
    · omega
    · omega
    · omega
    · omega
    · omega
  have := c_kd_sep s hs.1 hs.2
  refine ⟨fun e => ?_, fun n e => ?_, fun n e => ?_⟩
  · rw [e] at this; cases this
  · rw [e] at this; cases this
  · rw [e] at this; cases this
/-- the class holds A, the reference B; the law's script and its row for the answer stand -/
def lK (sc n : Nat) (scr : Nat → Int32) (ax b o : Nat) (A B : mS) (P : rW → Prop) (S : av_St) : Prop :=
  ∃ (X : cX) (T : cT) (ar : Nat → Nat) (W : rW), cr X T S ∧ c_X A X ∧ c_RA A T ∧ X.1 0 0 = ax ∧ rr (b, ar, S) W S ∧ r_RA B W ∧ P W ∧ fr S ∧ S.1 sc = some (.inr (50, n)) ∧ (∀ i, i < n → S.2.1 sc i = .int (scr i)) ∧ S.1 o = some (.inr (4, 1)) ∧ (∃ z, S.2.1 o 0 = .long z) ∧ ∀ s i, X.2.1 s i → ∀ k, rl_ar k = true → X.1 s i ≠ ar k
section LK
variable {ext : av_X} {sc n ax b o : Nat} {scr : Nat → Int32} {A B A' B' : mS} {P : rW → Prop} {S : av_St}
theorem lK.st (h : lK sc n scr ax b o A B P S) : S.1 sc = some (.inr (50, n)) ∧ (∀ i, i < n → S.2.1 sc i = .int (scr i)) ∧ S.1 o = some (.inr (4, 1)) ∧ S.1 ax = some (.inl 0) ∧ S.1 b = some (.inl 10) ∧ fr S := by
  obtain ⟨X, T, ar, W, h1, h2, h3, h4, h5, h6, hP, h7, h8, h9, h10, h11, h12⟩ := h
  refine ⟨h8, h9, h10, ?_, h5.2.2.1, h7⟩
  rw [← h4]
  exact h1.kd (h2.z (s := 0) (by decide))
/-- nothing but the row for the answer, and new cells -/
theorem lK.mv {S' : av_St} (h : lK sc n scr ax b o A B P S) (e1 : S'.1 = S.1) (e2 : ∀ a, a ≠ o → S'.2.1 a = S.2.1 a) (e3 : ∃ z, S'.2.1 o 0 = .long z) (e4 : S.2.2.1 ≤ S'.2.2.1) : lK sc n scr ax b o A B P S' := by
  obtain ⟨X, T, ar, W, h1, h2, h3, h4, h5, h6, hP, h7, h8, h9, h10, h11, h12⟩ := h
  have n1 : ∀ s i, X.2.1 s i → X.1 s i ≠ o := fun s i l e => by
    have q := h1.kd l
    rw [e, h10] at q
    exact (h2.sep l).2.2 1 (Option.some.inj q).symm
  have n2 : b ≠ o := fun e => by
    have q := h5.2.2.1
    have q' : S.1 b = some (.inl 10) := q
    rw [e, h10] at q'
    cases q'
  have n3 : ∀ k, rl_ar k = true → ar k ≠ o := fun k hk e => by
    have q : S.1 (ar k) = _ := h5.ta k hk
    rw [e, h10] at q
    have q2 : (4, 1) = (rl_kd k, rl_len k) := Sum.inr.inj (Option.some.inj q)
    have q3 : 4 = rl_kd k := congrArg Prod.fst q2
    have : rl_kd k ≤ 3 := by unfold rl_kd; split <;> omega
    omega
  have n4 : sc ≠ o := fun e => by
    rw [e, h10] at h8
    cases h8
  refine ⟨x_at X S', T, ar, W, h1.mv e1 (fun s i l => e2 _ (n1 s i l)), h2, h3, h4, h5.mv (by rw [e1]) (fun k hk => by rw [e1]) (e2 _ n2) (fun k hk => e2 _ (n3 k hk)), h6, hP, fun c hc => ?_, by rw [e1]; exact h8, fun i hi => by rw [e2 _ n4]; exact h9 i hi, by rw [e1]; exact h10, e3, h12⟩
  rw [e1]
  exact h7 c (by omega)
theorem law_c {d y : Nat} {as : List Value} {r : Int32} (h : lK sc n scr ax b o A B P S) (hc : ∀ X T, c_X A X → c_RA A T → cN ext X d y (cv X 0 (some 0) :: as) T (fun v X' T' => v = r ∧ c_X A' X' ∧ c_RA A' T')) :
    cti ext d y (.ref ax :: as) S (fun v S' => v = r ∧ lK sc n scr ax b o A' B P S' ∧ (S.2.2.1 ≤ S'.2.2.1 ∧ S'.2.2.1 ≤ S.2.2.1 + 3) ∧ (S.2.2.2 ≤ S'.2.2.2 ∧ S'.2.2.2 ≤ S.2.2.2 + 40)) := by
  obtain ⟨X, T, ar, W, h1, h2, h3, h4, h5, h6, hP, h7, h8, h9, h10, h11, h12⟩ := h
  have q0 := h1.mv (S' := S) rfl (fun _ _ _ => rfl)
  have q1 := hc (x_at X S) T h2 h3 S q0 h7
  have e0 : cv (x_at X S) 0 (some 0) = .ref ax := congrArg Value.ref h4
  rw [e0] at q1
  refine ct.post q1 ?_
  rintro r' S' ⟨v, e, X', T', g1, g2, rfl, g3, g4⟩
  refine ⟨v, e, rfl, ?_, g2.2.1, g2.2.2.1⟩
  obtain ⟨k1, k2, k3, k4, k5, k6, k7⟩ := g2
  have lt : ∀ c t, S.1 c = some t → c < S.2.2.1 := fun c t hc => by
    by_cases q : c < S.2.2.1
    · exact q
    · rw [h7 c (by omega)] at hc; cases hc
  have hb : S.1 b = some (.inl 10) := h5.2.2.1
  have hk : ∀ k, rl_ar k = true → S.1 (ar k) = some (.inr (rl_kd k, rl_len k)) := fun k hk => h5.ta k hk
  have n1 : ∀ s i, X.2.1 s i → o ≠ X.1 s i := fun s i l e => by
    have q := h1.kd l
    rw [← e, h10] at q
    exact (h2.sep l).2.2 1 (Option.some.inj q).symm
  have n2 : ∀ s i, X.2.1 s i → b ≠ X.1 s i := fun s i l e => by
    have q := h1.kd l
    rw [← e, hb] at q
    exact (h2.sep l).1 (Option.some.inj q).symm
  have n4 : ∀ s i, X.2.1 s i → sc ≠ X.1 s i := fun s i l e => by
    have q := h1.kd l
    rw [← e, h8] at q
    exact (h2.sep l).2.1 n (Option.some.inj q).symm
  have f1 : ∀ c t, S.1 c = some t → S'.1 c = S.1 c := fun c t hc => k4 c (lt c t hc)
  have f2 : ∀ c t, S.1 c = some t → (∀ s i, X.2.1 s i → c ≠ X.1 s i) → S'.2.1 c = S.2.1 c := fun c t hc hn => k5 c (lt c t hc) hn
  have f2o := f2 o _ h10 n1
  have f2s := f2 sc _ h8 n4
  refine ⟨X', T', ar, W, g1, g3, g4, by rw [k6]; exact h4, h5.mv (f1 b _ hb) (fun k q => f1 _ _ (hk k q)) (f2 b _ hb n2) (fun k q => f2 _ _ (hk k q) (fun s i l => Ne.symm (h12 s i l k q))), h6, hP, k1, by rw [f1 sc _ h8]; exact h8, fun i hi => by rw [f2s]; exact h9 i hi, by rw [f1 o _ h10]; exact h10, by rw [f2o]; exact h11, fun s i l k q => ?_⟩
  rcases k7 s i l with ⟨m1, m2⟩ | m
  · rw [m2]; exact h12 s i m1 k q
  · have := lt _ _ (hk k q)
    have m' : S.2.2.1 ≤ X'.1 s i := m
    omega
theorem law_r {d y : Nat} {as : List Value} {P' : Int32 → rW → Prop} (h : lK sc n scr ax b o A B P S) (hr : ∀ X W, r_RA B W → P W → rCi ext X d y (.ref X.1 :: as) W (fun v W' => P' v W' ∧ r_RA B' W')) :
    cti ext d y (.ref b :: as) S (fun v S' => lK sc n scr ax b o A B' (P' v) S' ∧ S'.2.2 = S.2.2) := by
  obtain ⟨X, T, ar, W, h1, h2, h3, h4, h5, h6, hP, h7, h8, h9, h10, h11, h12⟩ := h
  refine ct.post (hr (b, ar, S) W h6 hP S h5) ?_
  rintro r' S' ⟨v, e, W', g1, g2, g3⟩
  refine ⟨v, e, ?_, g1.2.1⟩
  have e1 : S'.1 = S.1 := g1.1
  have e2 : ∀ a, a ≠ b → (∀ k, rl_ar k = true → a ≠ ar k) → S'.2.1 a = S.2.1 a := g1.2.2.2.2.2.2.2
  have hb : S.1 b = some (.inl 10) := h5.2.2.1
  have hk : ∀ k, rl_ar k = true → S.1 (ar k) = some (.inr (rl_kd k, rl_len k)) := fun k hk => h5.ta k hk
  have kle : ∀ k, rl_kd k ≤ 3 := fun k => by unfold rl_kd; split <;> omega
  have ns : S'.2.1 sc = S.2.1 sc := e2 sc (fun e => by rw [e, hb] at h8; cases h8) (fun k q e => by
    have q1 := hk k q
    rw [← e, h8] at q1
    have q3 : 50 = rl_kd k := congrArg Prod.fst (Sum.inr.inj (Option.some.inj q1))
    have := kle k
    omega)
  have no : S'.2.1 o = S.2.1 o := e2 o (fun e => by rw [e, hb] at h10; cases h10) (fun k q e => by
    have q1 := hk k q
    rw [← e, h10] at q1
    have q3 : 4 = rl_kd k := congrArg Prod.fst (Sum.inr.inj (Option.some.inj q1))
    have := kle k
    omega)
  refine ⟨x_at X S', T, ar, W', h1.mv e1 (fun s i l => e2 _ (fun e => ?_) (h12 s i l)), h2, h3, h4, g1.mv rfl (fun _ _ => rfl) rfl (fun _ _ => rfl), g3, g2, fun c hc => ?_, by rw [e1]; exact h8, fun i hi => by rw [ns]; exact h9 i hi, by rw [e1]; exact h10, by rw [no]; exact h11, h12⟩
  · have q := h1.kd l
    rw [e, hb] at q
    exact (h2.sep l).1 (Option.some.inj q).symm
  · rw [e1]
    refine h7 c ?_
    have : S'.2.2 = S.2.2 := g1.2.1
    rw [this] at hc
    exact hc
theorem lK.up {P' : rW → Prop} (h : lK sc n scr ax b o A B P S) (hp : ∀ W, P W → P' W) : lK sc n scr ax b o A B P' S := by
  obtain ⟨X, T, ar, W, h1, h2, h3, h4, h5, h6, hP, h7⟩ := h
  exact ⟨X, T, ar, W, h1, h2, h3, h4, h5, h6, hp W hP, h7⟩
theorem lK.fact (h : lK sc n scr ax b o A B P S) : ∃ W, P W := by
  obtain ⟨X, T, ar, W, h1, h2, h3, h4, h5, h6, hP, h7⟩ := h
  exact ⟨W, hP⟩
theorem cN.mono {X : cX} {d e y : Nat} {as : List Value} {T : cT} {Q : Int32 → cX → cT → Prop} (h : cN ext X d y as T Q) (hd : d ≤ e) : cN ext X e y as T Q := fun S hS hf => ct.mono (h S hS hf) hd
theorem law_cc {X : cX} {d y : Nat} {as : List Value} {T : cT} {r : Int32} (h : cCi ext X d y as T (fun v T' => v = r ∧ c_RA A' T')) (hX : c_X A' X) : cN ext X d y as T (fun v X' T' => v = r ∧ c_X A' X' ∧ c_RA A' T') := fun S hS hf => ct.post (h.N S hS hf) (fun r' S' ⟨x, e, X', T', g1, g2, g3, g4⟩ => ⟨x, e, X', T', g1, g2, g4.1, by rw [g3]; exact hX, g4.2⟩)
theorem c_X.cg {X : cX} (h : c_X A X) (e1 : m_nF A' = m_nF A) (e2 : m_nM A' = m_nM A) (e3 : m_nD A' = m_nD A) (e4 : m_lk A' = m_lk A) : c_X A' X := by
  intro s i
  rw [h s i]
  unfold c_lv c_lvD c_lvL
  rw [e1, e2, e3, e4]
/-- the call of fault -/
theorem law_x (hI : m_Inv A) (h : lK sc n scr ax b o A B P S) (i w : Int32) : (sp_fault A i w = none → sm_ext [.ref ax, .int i, .int w, .ref o] S = some (some (.int 1), sm_x S)) ∧ ∀ v, sp_fault A i w = some v → sm_ext [.ref ax, .int i, .int w, .ref o] S = some (some (.int 0), av_set S o 0 (.long v.toInt64)) := by
  obtain ⟨X, T, ar, W, h1, h2, h3, h4, h5, h6, hP, h7, h8, h9, h10, h11, h12⟩ := h
  have l0 := h2.z (s := 0) (by decide)
  have l4 := h2.z (s := 4) (by decide)
  have l31 := h2.z (s := 31) (by decide)
  have l32 := h2.z (s := 32) (by decide)
  have hft := hI.2.2.2.2.2.2.2.2.2.1
  have gT := h3.2.2.1
  rw [← h4]
  have k0 : S.1 (X.1 0 0) = some (.inl 0) := h1.kd l0
  have f9 : S.2.1 (X.1 0 0) 9 = .ref (X.1 4 0) := h1.f 9 rfl l0
  have k4 : S.1 (X.1 4 0) = some (.inl 4) := h1.kd l4
  have f2 : S.2.1 (X.1 4 0) 2 = .int (nI (m_ft A).length) := by rw [h1.i 2 rfl rfl l4, gT.1]
  have g0 : S.2.1 (X.1 4 0) 0 = .ref (X.1 31 0) := h1.f 0 rfl l4
  have g1 : S.2.1 (X.1 4 0) 1 = .ref (X.1 32 0) := h1.f 1 rfl l4
  have a1 : S.1 (X.1 31 0) = some (.inr (0, 300)) := h1.kd l31
  have a2 : S.1 (X.1 32 0) = some (.inr (0, 300)) := h1.kd l32
  have red : sm_ext [.ref (X.1 0 0), .int i, .int w, .ref o] S = if i < 0 ∨ nI (m_ft A).length ≤ i ∨ w < 0 ∨ 1 < w then some (some (.int 1), sm_x S) else match S.2.1 (X.1 4 0) (if w = 0 then 0 else 1) with
      | .ref g => if S.1 g = some (.inr (0, 300)) ∧ av_inb i 300 = true then
          match S.2.1 g i.toNatClampNeg with
          | .int v => some (some (.int 0), av_set S o 0 (.long v.toInt64))
          | _ => none
        else none
      | _ => none := by
    unfold sm_ext
    simp only [k0, h10, f9, k4, f2, and_self, if_true]
  rw [red]
  have hw1 : (1 : Int32).toInt = 1 := rfl
  have hw0 : (0 : Int32).toInt = 0 := rfl
  unfold sp_fault
  by_cases c : (0 ≤ i ∧ i ≤ nI (m_ft A).length - 1) ∧ (0 ≤ w ∧ w ≤ 1)
  · rw [if_pos c]
    refine ⟨fun q => (by cases q), fun v hv => ?_⟩
    obtain ⟨j, hj, rfl⟩ := (rI_rng (by omega)).mp c.1
    have hn : ¬ (nI j < 0 ∨ nI (m_ft A).length ≤ nI j ∨ w < 0 ∨ 1 < w) := by
      rintro (q | q | q | q)
      · exact nI_pos (by omega) q
      · exact nI_ge hj (by omega) q
      · have := c.2.1
        rw [Int32.le_iff_toInt_le] at this
        rw [Int32.lt_iff_toInt_lt] at q
        omega
      · have := c.2.2
        rw [Int32.le_iff_toInt_le] at this
        rw [Int32.lt_iff_toInt_lt] at q
        omega
    rw [if_neg hn]
    have hin : av_inb (nI j) 300 = true := by
      unfold av_inb
      rw [Bool.and_eq_true, decide_eq_true_eq, decide_eq_true_eq, nI_clamp (by omega)]
      exact ⟨nI_pos' (by omega), by omega⟩
    have he : (m_ft A)[j]? = some ((m_ft A).getD j (0, 0)) := getD_some hj
    have gv := gT.2 j _ he
    rw [nI_clamp (by omega)] at hv ⊢
    by_cases cw : w = 0
    · rw [if_pos cw] at hv ⊢
      cases hv
      have v1 : S.2.1 (X.1 31 0) j = .int (nI ((m_ft A).getD j (0, 0)).1) := by rw [h1.i j rfl rfl l31, gv.1]
      simp only [g0, a1, hin, v1, and_self, if_true]
    · rw [if_neg cw] at hv ⊢
      cases hv
      have v1 : S.2.1 (X.1 32 0) j = .int (nI ((m_ft A).getD j (0, 0)).2) := by rw [h1.i j rfl rfl l32, gv.2]
      simp only [g1, a2, hin, v1, and_self, if_true]
  · rw [if_neg c]
    refine ⟨fun _ => ?_, fun v hv => by cases hv⟩
    rw [if_pos]
    refine Classical.byContradiction (fun q => c ?_)
    have q1 : ¬ i < 0 := fun z => q (Or.inl z)
    have q2 : ¬ nI (m_ft A).length ≤ i := fun z => q (Or.inr (Or.inl z))
    have q3 : ¬ w < 0 := fun z => q (Or.inr (Or.inr (Or.inl z)))
    have q4 : ¬ 1 < w := fun z => q (Or.inr (Or.inr (Or.inr z)))
    refine ⟨?_, cI_not q3, cI_nlt.mp q4⟩
    obtain ⟨j, hj, rfl⟩ := nI_of q1
    exact (rI_rng (by omega)).mpr ⟨j, by
      rw [nI_leI (by omega) hj] at q2
      omega, rfl⟩
end LK
