/-! NEW CELLS GET THEIR NAMES -/
def nx (S S' : av_St) (n w : Nat) : Prop := S'.2.2.1 = S.2.2.1 + n ∧ S'.2.2.2 = S.2.2.2 + w ∧ (∀ b, b < S.2.2.1 → S'.1 b = S.1 b ∧ S'.2.1 b = S.2.1 b) ∧ (fr S → fr S')
theorem nx.rf (S : av_St) : nx S S 0 0 := ⟨rfl, rfl, fun _ _ => ⟨rfl, rfl⟩, id⟩
theorem nx.new {S S' : av_St} {n w : Nat} (h : nx S S' n w) (t : av_Ty) (f : Nat → Value) (w' : Nat) : nx S (av_new S' t f w') (n + 1) (w + w') := by
  obtain ⟨h1, h2, h3, h4⟩ := h
  refine ⟨?_, ?_, fun b hb => ?_, fun hf => (h4 hf).new t f w'⟩
  · show S'.2.2.1 + 1 = _
    omega
  · show S'.2.2.2 + w' = _
    omega
  · have hne : b ≠ S'.2.2.1 := by omega
    refine ⟨?_, ?_⟩
    · show (if b = S'.2.2.1 then some t else S'.1 b) = _
      rw [if_neg hne]
      exact (h3 b hb).1
    · show (if b = S'.2.2.1 then f else S'.2.1 b) = _
      rw [if_neg hne]
      exact (h3 b hb).2
theorem nx.set {S S' : av_St} {n w : Nat} (h : nx S S' n w) {a : Nat} (ha : S.2.2.1 ≤ a) (k : Nat) (v : Value) : nx S (av_set S' a k v) n w := by
  obtain ⟨h1, h2, h3, h4⟩ := h
  refine ⟨h1, h2, fun b hb => ⟨(h3 b hb).1, ?_⟩, h4⟩
  rw [← (h3 b hb).2]
  exact av_put_ne _ _ _ (by omega)
theorem st_s (S : av_St) (a k : Nat) (v : Value) (k' : Nat) : (av_set S a k v).2.1 a k' = if k' = k then v else S.2.1 a k' := congrFun (av_put_eq _ _ _ _) k'
theorem st_n (S : av_St) {a b : Nat} (k : Nat) (v : Value) (h : b ≠ a) : (av_set S a k v).2.1 b = S.2.1 b := av_put_ne _ _ _ h
theorem nw_s (S : av_St) (t : av_Ty) (f : Nat → Value) (w : Nat) {a : Nat} (h : a = S.2.2.1) : (av_new S t f w).2.1 a = f := if_pos h
theorem nw_n (S : av_St) (t : av_Ty) (f : Nat → Value) (w : Nat) {a : Nat} (h : a ≠ S.2.2.1) : (av_new S t f w).2.1 a = S.2.1 a := if_neg h
theorem nw_k (S : av_St) (t : av_Ty) (f : Nat → Value) (w : Nat) {a : Nat} (h : a = S.2.2.1) : (av_new S t f w).1 a = some t := if_pos h
theorem nw_m (S : av_St) (t : av_Ty) (f : Nat → Value) (w : Nat) {a : Nat} (h : a ≠ S.2.2.1) : (av_new S t f w).1 a = S.1 a := if_neg h
def x_at (X : cX) (S : av_St) : cX := (X.1, X.2.1, S)
def x_up (X : cX) (s i a : Nat) : cX := (fun s' i' => if s' = s ∧ i' = i then a else X.1 s' i', fun s' i' => X.2.1 s' i' ∨ (s' = s ∧ i' = i), X.2.2)
def t_up (T : cT) (s i : Nat) (f : Nat → Int32) (g : Nat → Option Nat) : cT := (fun s' i' => if s' = s ∧ i' = i then f else T.1 s' i', fun s' i' => if s' = s ∧ i' = i then g else T.2 s' i')
theorem x_up_s (X : cX) (s i a : Nat) : (x_up X s i a).1 s i = a := if_pos ⟨rfl, rfl⟩
theorem x_up_n (X : cX) {s i s' i' : Nat} (a : Nat) (h : ¬ (s' = s ∧ i' = i)) : (x_up X s i a).1 s' i' = X.1 s' i' := if_neg h
theorem t_up_s1 (T : cT) (s i : Nat) (f : Nat → Int32) (g : Nat → Option Nat) : (t_up T s i f g).1 s i = f := if_pos ⟨rfl, rfl⟩
theorem t_up_s2 (T : cT) (s i : Nat) (f : Nat → Int32) (g : Nat → Option Nat) : (t_up T s i f g).2 s i = g := if_pos ⟨rfl, rfl⟩
theorem t_up_n1 (T : cT) {s i s' i' : Nat} (f : Nat → Int32) (g : Nat → Option Nat) (h : ¬ (s' = s ∧ i' = i)) : (t_up T s i f g).1 s' i' = T.1 s' i' := if_neg h
theorem t_up_n2 (T : cT) {s i s' i' : Nat} (f : Nat → Int32) (g : Nat → Option Nat) (h : ¬ (s' = s ∧ i' = i)) : (t_up T s i f g).2 s' i' = T.2 s' i' := if_neg h
theorem t_up_k1 (T : cT) {s s' : Nat} (i : Nat) (f : Nat → Int32) (g : Nat → Option Nat) (h : s' ≠ s) : (t_up T s i f g).1 s' = T.1 s' := funext (fun i' => if_neg (fun q => h q.1))
theorem t_up_k2 (T : cT) {s s' : Nat} (i : Nat) (f : Nat → Int32) (g : Nat → Option Nat) (h : s' ≠ s) : (t_up T s i f g).2 s' = T.2 s' := funext (fun i' => if_neg (fun q => h q.1))
section CNW
variable {X : cX} {T : cT} {S : av_St}
theorem cr.re (h : cr X T S) (hf : fr S) {S' : av_St} {n w : Nat} (a : nx S S' n w) : cr (x_at X S') T S' :=
  h.grow hf rfl a.2.2.1 (fun s i l => ⟨l, rfl, rfl, rfl⟩) (fun s i l q => absurd l q) (fun s i s' i' l l' q => absurd l q)
theorem cr.add (h : cr X T S) {s i a : Nat} {f : Nat → Int32} {g : Nat → Option Nat} (hn : ¬ X.2.1 s i) (ha : ∀ s' i', X.2.1 s' i' → X.1 s' i' ≠ a) (hk : S.1 a = some (c_kd s))
    (h1 : ∀ k, c_R s k = none → c_F s k = none → S.2.1 a k = .int (f k)) (h2 : ∀ k t, c_R s k = some t → S.2.1 a k = cv X t (g k) ∧ ∀ j, g k = some j → X.2.1 t j) (h3 : ∀ k t, c_F s k = some t → S.2.1 a k = .ref (X.1 t i) ∧ X.2.1 t i) : cr (x_up X s i a) (t_up T s i f g) S := by
  have ne : ∀ s' i', X.2.1 s' i' → ¬ (s' = s ∧ i' = i) := fun s' i' l q => hn (by rw [← q.1, ← q.2]; exact l)
  have cve : ∀ t o, (∀ j, o = some j → X.2.1 t j) → cv (x_up X s i a) t o = cv X t o := by
    intro t o ho
    cases o with
    | none => rfl
    | some j =>
      show Value.ref ((x_up X s i a).1 t j) = Value.ref (X.1 t j)
      rw [x_up_n _ _ (ne t j (ho j rfl))]
  refine ⟨h.1, h.2.1, fun s' i' l => ?_, fun s1 i1 s2 i2 l1 l2 e => ?_, fun s' i' k l e1 e2 => ?_, fun s' i' k t l e => ?_, fun s' i' k t l e => ?_, fun b hb => ?_⟩
  · rcases l with l | ⟨rfl, rfl⟩
    · rw [x_up_n _ _ (ne s' i' l)]
      exact h.kd l
    · rw [x_up_s]; exact hk
  · rcases l1 with l1 | ⟨rfl, rfl⟩
    · rw [x_up_n _ _ (ne s1 i1 l1)] at e
      rcases l2 with l2 | ⟨rfl, rfl⟩
      · rw [x_up_n _ _ (ne s2 i2 l2)] at e
        exact h.2.2.2.1 s1 i1 s2 i2 l1 l2 e
      · rw [x_up_s] at e
        exact absurd e (ha _ _ l1)
    · rw [x_up_s] at e
      rcases l2 with l2 | ⟨rfl, rfl⟩
      · rw [x_up_n _ _ (ne s2 i2 l2)] at e
        exact absurd e.symm (ha _ _ l2)
      · exact ⟨rfl, rfl⟩
  · rcases l with l | ⟨rfl, rfl⟩
    · rw [x_up_n _ _ (ne s' i' l), t_up_n1 _ _ _ (ne s' i' l)]
      exact h.i k e1 e2 l
    · rw [x_up_s, t_up_s1]; exact h1 k e1 e2
  · rcases l with l | ⟨rfl, rfl⟩
    · rw [x_up_n _ _ (ne s' i' l), t_up_n2 _ _ _ (ne s' i' l), cve _ _ (h.rl k e l)]
      exact ⟨h.r k e l, fun j hj => Or.inl (h.rl k e l j hj)⟩
    · rw [x_up_s, t_up_s2, cve _ _ (h2 k t e).2]
      exact ⟨(h2 k t e).1, fun j hj => Or.inl ((h2 k t e).2 j hj)⟩
  · rcases l with l | ⟨rfl, rfl⟩
    · have l2 := h.fl k e l
      rw [x_up_n _ _ (ne s' i' l), x_up_n _ _ (ne t i' l2)]
      exact ⟨h.f k e l, Or.inl l2⟩
    · have l2 := (h3 k t e).2
      rw [x_up_s, x_up_n _ _ (ne t i' l2)]
      exact ⟨(h3 k t e).1, Or.inl l2⟩
  · refine h.2.2.2.2.2.2.2 b (fun s' i' l => ?_)
    have := hb s' i' (Or.inl l)
    rw [x_up_n _ _ (ne s' i' l)] at this
    exact this
theorem cr.gre (h : cr X T S) (hf : fr X.2.2) {S' : av_St} {n w : Nat} (a : nx S S' n w) (hn : n ≤ 3) (hw : w ≤ 40) : c_gr X (x_at X S') S' := by
  obtain ⟨h1, h2, -, -, -, -, -, h8⟩ := h
  obtain ⟨a1, a2, a3, a4⟩ := a
  have e1 : S.2.2.1 = X.2.2.2.2.1 := by rw [h2]
  have e2 : S.2.2.2 = X.2.2.2.2.2 := by rw [h2]
  refine ⟨a4 (fun b hb => ?_), ?_, ?_, fun b hb => ?_, fun b hb hn => ?_, rfl, fun s i l => Or.inl ⟨l, rfl⟩⟩
  · rw [h1]; exact hf b (by omega)
  · omega
  · omega
  · rw [(a3 b (by omega)).1, h1]
  · rw [(a3 b (by omega)).2]; exact h8 b hn
theorem c_gr.up {X' : cX} {S' : av_St} (g : c_gr X X' S') {s i a : Nat} (h0 : ¬ (s = 0 ∧ i = 0)) (ha : X.2.2.2.2.1 ≤ a) : c_gr X (x_up X' s i a) S' := by
  obtain ⟨g1, g2, g3, g4, g5, g6, g7⟩ := g
  refine ⟨g1, g2, g3, g4, g5, ?_, fun s' i' l => ?_⟩
  · rw [x_up_n _ _ (fun q => h0 ⟨q.1.symm, q.2.symm⟩)]; exact g6
  · by_cases e : s' = s ∧ i' = i
    · obtain ⟨rfl, rfl⟩ := e
      rw [x_up_s]
      exact Or.inr ha
    · rw [x_up_n _ _ e]
      rcases l with l | l
      · exact g7 s' i' l
      · exact absurd l e
theorem cr.nx (h : cr X T S) : S.2.2.1 = X.2.2.2.2.1 := by rw [h.2.1]
theorem cr.frS (h : cr X T S) (hf : fr X.2.2) : fr S := fun b hb => by
  rw [h.1]
  exact hf b (by rw [← h.nx]; exact hb)
end CNW
/-! the makers -/
section CMK
variable {ext : av_X} {S : av_St}
theorem k_File {a : Nat} {x1 x2 : Int32} (t : S.1 a = some (.inl 6)) : ctv ext 1 45 [.ref a, .int x1, .int x2] S (fun S' => S' = av_set (av_set (av_set S a 0 (.int x1)) a 1 (.int x2)) a 2 .null) := by
  unfold ctv ct
  rw [show av_ent [.ref a, .int x1, .int x2] (sm_ml 45) = [some (.ref a), some (.int x1), some (.int x2)] by rw [ml45]; rfl]
  exact bk45_0 (bk45_4 t ⟨rfl, rfl⟩)
theorem k_Link {a : Nat} {r1 r2 : Option Nat} {x1 x2 : Int32} (t : S.1 a = some (.inl 9)) : ctv ext 1 60 [.ref a, va_rf r1, va_rf r2, .int x1, .int x2] S (fun S' => S' = av_set (av_set (av_set (av_set (av_set S a 0 (va_rf r1)) a 1 (va_rf r2)) a 2 (.int x1)) a 3 (.int x2)) a 4 .null) := by
  unfold ctv ct
  rw [show av_ent [.ref a, va_rf r1, va_rf r2, .int x1, .int x2] (sm_ml 60) = [some (.ref a), some (va_rf r1), some (va_rf r2), some (.int x1), some (.int x2)] by rw [ml60]; rfl]
  exact bk60_0 (bk60_4 t ⟨rfl, rfl⟩)
/-- a division's cells after its making -/
def s_div (S : av_St) (a : Nat) (x1 x2 x3 x4 : Int32) : av_St := av_set (av_set (av_set (av_set (av_set (av_set (av_new (av_set (av_set (av_set (av_set S a 0 (.int x1)) a 1 (.int x2)) a 2 (.int x3)) a 3 (.int x4)) (.inr (8, 5)) (fun _ => .null) 5) a 4 (.ref S.2.2.1)) a 5 (.int (0 : Int32))) a 6 .null) a 7 .null) a 8 .null) a 9 .null
theorem k_Division {a : Nat} {x1 x2 x3 x4 : Int32} (t : S.1 a = some (.inl 8)) (hf : fr S) : ctv ext 1 50 [.ref a, .int x1, .int x2, .int x3, .int x4] S (fun S' => S' = s_div S a x1 x2 x3 x4) := by
  have hne : a ≠ S.2.2.1 := fun e => by
    rw [hf a (by omega)] at t
    cases t
  have t2 : (av_new (av_set (av_set (av_set (av_set S a 0 (.int x1)) a 1 (.int x2)) a 2 (.int x3)) a 3 (.int x4)) (.inr (8, 5)) (fun _ => .null) 5).1 a = some (.inl 8) := by
    rw [nw_m _ _ _ _ (by exact hne)]; exact t
  unfold ctv ct
  rw [show av_ent [.ref a, .int x1, .int x2, .int x3, .int x4] (sm_ml 50) = [some (.ref a), some (.int x1), some (.int x2), some (.int x3), some (.int x4)] by rw [ml50]; rfl]
  exact bk50_0 (bk50_4 t (bk50_30 (rk1 := some S.2.2.1) t2 t2 ⟨rfl, rfl⟩))
theorem s_div_nx {S0 : av_St} {n w a : Nat} (x1 x2 x3 x4 : Int32) (h : nx S0 S n w) (ha : S0.2.2.1 ≤ a) : nx S0 (s_div S a x1 x2 x3 x4) (n + 1) (w + 5) :=
  ((((((((((h.set ha _ _).set ha _ _).set ha _ _).set ha _ _).new _ _ _).set ha _ _).set ha _ _).set ha _ _).set ha _ _).set ha _ _).set ha _ _
/-- what stands in it -/
theorem s_div_at {a : Nat} (x1 x2 x3 x4 : Int32) (hne : a ≠ S.2.2.1) : (∀ k, (s_div S a x1 x2 x3 x4).2.1 a k = if k = 9 then .null else if k = 8 then .null else if k = 7 then .null else if k = 6 then .null else if k = 5 then .int 0 else if k = 4 then .ref S.2.2.1 else if k = 3 then .int x4 else if k = 2 then .int x3 else if k = 1 then .int x2 else if k = 0 then .int x1 else S.2.1 a k) ∧ (∀ k, (s_div S a x1 x2 x3 x4).2.1 S.2.2.1 k = .null) ∧ (s_div S a x1 x2 x3 x4).1 a = S.1 a ∧ (s_div S a x1 x2 x3 x4).1 S.2.2.1 = some (.inr (8, 5)) := by
  refine ⟨fun k => ?_, fun k => ?_, ?_, ?_⟩
  · unfold s_div
    rw [st_s, st_s, st_s, st_s, st_s, st_s, nw_n _ _ _ _ (by exact hne), st_s, st_s, st_s, st_s]
  · unfold s_div
    rw [st_n _ _ _ (Ne.symm hne), st_n _ _ _ (Ne.symm hne), st_n _ _ _ (Ne.symm hne), st_n _ _ _ (Ne.symm hne), st_n _ _ _ (Ne.symm hne), st_n _ _ _ (Ne.symm hne), nw_s _ _ _ _ (by rfl)]
  · exact nw_m (av_set (av_set (av_set (av_set S a 0 (.int x1)) a 1 (.int x2)) a 2 (.int x3)) a 3 (.int x4)) (.inr (8, 5)) (fun _ => .null) 5 hne
  · exact nw_k (av_set (av_set (av_set (av_set S a 0 (.int x1)) a 1 (.int x2)) a 2 (.int x3)) a 3 (.int x4)) (.inr (8, 5)) (fun _ => .null) 5 rfl
end CMK
