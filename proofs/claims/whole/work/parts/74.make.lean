/-! THE CLASS IS MADE -/
def c_off (s : Nat) : Nat := match s with
  | 0 => 0
  | 20 => 1
  | 21 => 2
  | 22 => 3
  | 1 => 4
  | 23 => 5
  | 24 => 6
  | 2 => 7
  | 25 => 8
  | 26 => 9
  | 27 => 10
  | 28 => 11
  | 3 => 12
  | 29 => 13
  | 30 => 14
  | 4 => 15
  | 31 => 16
  | 32 => 17
  | 5 => 18
  | 33 => 19
  | _ => 20
def c_ini (a s k : Nat) : Value := match c_F s k with
  | some t => .ref (a + c_off t)
  | none => match c_R s k with
    | some _ => .null
    | none => .int 0
/-- this cell is as it begins -/
def c_dn (a : Nat) (S : av_St) (s : Nat) : Prop := S.1 (a + c_off s) = some (c_kd s) ∧ ∀ k, S.2.1 (a + c_off s) k = c_ini a s k
/-- only b's fields, and what is new -/
def kp (b : Nat) (S S' : av_St) (n w : Nat) : Prop := S'.2.2.1 = S.2.2.1 + n ∧ S'.2.2.2 = S.2.2.2 + w ∧ (∀ c, c < S.2.2.1 → S'.1 c = S.1 c) ∧ (∀ c, c < S.2.2.1 → c ≠ b → S'.2.1 c = S.2.1 c) ∧ (fr S → fr S')
theorem kp.rf (b : Nat) (S : av_St) : kp b S S 0 0 := ⟨rfl, rfl, fun _ _ => rfl, fun _ _ _ => rfl, id⟩
theorem kp.new {b : Nat} {S S' : av_St} {n w : Nat} (h : kp b S S' n w) (t : av_Ty) (f : Nat → Value) (w' : Nat) : kp b S (av_new S' t f w') (n + 1) (w + w') := by
  obtain ⟨h1, h2, h3, h4, h5⟩ := h
  refine ⟨?_, ?_, fun c hc => ?_, fun c hc hb => ?_, fun hf => (h5 hf).new t f w'⟩
  · show S'.2.2.1 + 1 = _
    omega
  · show S'.2.2.2 + w' = _
    omega
  · rw [nw_m _ _ _ _ (by omega), h3 c hc]
  · rw [nw_n _ _ _ _ (by omega), h4 c hc hb]
theorem kp.set {b : Nat} {S S' : av_St} {n w : Nat} (h : kp b S S' n w) (k : Nat) (v : Value) : kp b S (av_set S' b k v) n w := by
  obtain ⟨h1, h2, h3, h4, h5⟩ := h
  refine ⟨h1, h2, h3, fun c hc hb => ?_, h5⟩
  rw [st_n _ _ _ hb, h4 c hc hb]
/-- an array, all of it as it begins -/
theorem c_dn.arr {a : Nat} {S : av_St} {s : Nat} (h1 : S.1 (a + c_off s) = some (c_kd s)) {v : Value} (h2 : S.2.1 (a + c_off s) = fun _ => v) (hv : ∀ k, c_ini a s k = v) : c_dn a S s := ⟨h1, fun k => by rw [h2, hv k]⟩
section CMKK
variable {ext : av_X} {S : av_St} {a : Nat}

def s_Search (S : av_St) (a : Nat) : av_St := av_set (av_set (av_new (av_set (av_new S (.inr (7, 120)) (fun _ => .null) 120) (a + 4) 0 (.ref (a + 5))) (.inr (2, 120)) (fun _ => defaultValue (sm_aT 2)) 120) (a + 4) 1 (.ref (a + 6))) (a + 4) 2 (.int (0 : Int32))
theorem k_Search (hn : S.2.2.1 = a + 5) (t : S.1 (a + 4) = some (.inl 1)) : ctv ext 1 24 [.ref (a + 4)] S (fun S' => S' = s_Search S a) := by
  unfold ctv ct
  rw [show av_ent [.ref (a + 4)] (sm_ml 24) = [some (.ref (a + 4))] by rw [ml24]; rfl]
  refine bk24_0 (bk24_4 (r0 := some (a + 4)) (bk24_10 (r0 := some (a + 4)) (rk1 := some S.2.2.1) ((nw_m S (.inr (7, 120)) (fun _ => .null) 120 (by omega)).trans t) (bk24_18 (a0 := a + 4) (rk1 := some (S.2.2.1 + 1)) ((nw_m (av_new S (.inr (7, 120)) (fun _ => .null) 120) (.inr (2, 120)) (fun _ => defaultValue (sm_aT 2)) 120 (by show a + 4 ≠ S.2.2.1 + 1; omega)).trans ((nw_m S (.inr (7, 120)) (fun _ => .null) 120 (by omega)).trans t)) ((nw_m (av_new S (.inr (7, 120)) (fun _ => .null) 120) (.inr (2, 120)) (fun _ => defaultValue (sm_aT 2)) 120 (by show a + 4 ≠ S.2.2.1 + 1; omega)).trans ((nw_m S (.inr (7, 120)) (fun _ => .null) 120 (by omega)).trans t)) ⟨rfl, ?_⟩)))
  unfold s_Search
  rw [hn]
  rfl
theorem k_Search_dn (hn : S.2.2.1 = a + 5) (t : S.1 (a + 4) = some (.inl 1)) (hd : ∀ k, S.2.1 (a + 4) k = defaultValue (sm_fT 1 k)) : kp (a + 4) S (s_Search S a) 2 240 ∧ ∀ s, s ∈ [1, 23, 24] → c_dn a (s_Search S a) s := by
  refine ⟨((((((kp.rf (a + 4) S).new _ _ _).set _ _).new _ _ _).set _ _).set _ _), ?_⟩
  have nx : ∀ i, i < 2 → a + 5 + i < a + 7 := fun i hi => by omega
  unfold s_Search
  intro s hs
  simp only [List.mem_cons, List.not_mem_nil, or_false] at hs
  rcases hs with rfl | rfl | rfl
  · refine ⟨?_, fun k => ?_⟩
    · exact ((nw_m (av_set (av_new S (.inr (7, 120)) (fun _ => .null) 120) (a + 4) 0 (.ref (a + 5))) (.inr (2, 120)) (fun _ => defaultValue (sm_aT 2)) 120 (by show a + 4 ≠ S.2.2.1 + 1; omega)).trans ((nw_m S (.inr (7, 120)) (fun _ => .null) 120 (by show a + 4 ≠ S.2.2.1; omega)).trans t))
    · show ((av_set (av_set (av_new (av_set (av_new S (.inr (7, 120)) (fun _ => .null) 120) (a + 4) 0 (.ref (a + 5))) (.inr (2, 120)) (fun _ => defaultValue (sm_aT 2)) 120) (a + 4) 1 (.ref (a + 6))) (a + 4) 2 (.int (0 : Int32)))).2.1 (a + 4) k = _
      rw [st_s, st_s, nw_n _ _ _ _ (by show a + 4 ≠ S.2.2.1 + 1; omega), st_s, nw_n _ _ _ _ (by show a + 4 ≠ S.2.2.1; omega), hd]
      match k with
      | 0 => rfl
      | 1 => rfl
      | 2 => rfl
      | k + 3 => rw [if_neg (by omega), if_neg (by omega), if_neg (by omega)]; rfl
  · refine c_dn.arr (v := .null) ((nw_m (av_set (av_new S (.inr (7, 120)) (fun _ => .null) 120) (a + 4) 0 (.ref (a + 5))) (.inr (2, 120)) (fun _ => defaultValue (sm_aT 2)) 120 (by show a + 5 ≠ S.2.2.1 + 1; omega)).trans (nw_k S (.inr (7, 120)) (fun _ => .null) 120 (by show a + 5 = S.2.2.1; omega))) ?_ (fun k => rfl)
    show ((av_set (av_set (av_new (av_set (av_new S (.inr (7, 120)) (fun _ => .null) 120) (a + 4) 0 (.ref (a + 5))) (.inr (2, 120)) (fun _ => defaultValue (sm_aT 2)) 120) (a + 4) 1 (.ref (a + 6))) (a + 4) 2 (.int (0 : Int32)))).2.1 (a + 5) = _
    rw [st_n _ _ _ (by omega), st_n _ _ _ (by omega), nw_n _ _ _ _ (by show a + 5 ≠ S.2.2.1 + 1; omega), st_n _ _ _ (by omega), nw_s _ _ _ _ (by show a + 5 = S.2.2.1; omega)]
  · refine c_dn.arr (v := defaultValue (sm_aT 2)) (nw_k (av_set (av_new S (.inr (7, 120)) (fun _ => .null) 120) (a + 4) 0 (.ref (a + 5))) (.inr (2, 120)) (fun _ => defaultValue (sm_aT 2)) 120 (by show a + 6 = S.2.2.1 + 1; omega)) ?_ (fun k => rfl)
    show ((av_set (av_set (av_new (av_set (av_new S (.inr (7, 120)) (fun _ => .null) 120) (a + 4) 0 (.ref (a + 5))) (.inr (2, 120)) (fun _ => defaultValue (sm_aT 2)) 120) (a + 4) 1 (.ref (a + 6))) (a + 4) 2 (.int (0 : Int32)))).2.1 (a + 6) = _
    rw [st_n _ _ _ (by omega), st_n _ _ _ (by omega), nw_s _ _ _ _ (by show a + 6 = S.2.2.1 + 1; omega)]
def s_Reading (S : av_St) (a : Nat) : av_St := av_set (av_set (av_new (av_set (av_new (av_set (av_set (av_new (av_set (av_new S (.inr (7, 1000)) (fun _ => .null) 1000) (a + 7) 0 (.ref (a + 8))) (.inr (7, 1000)) (fun _ => .null) 1000) (a + 7) 1 (.ref (a + 9))) (a + 7) 2 (.int (0 : Int32))) (.inr (0, 120)) (fun _ => defaultValue (sm_aT 0)) 120) (a + 7) 3 (.ref (a + 10))) (.inr (7, 120)) (fun _ => .null) 120) (a + 7) 4 (.ref (a + 11))) (a + 7) 5 (.int (0 : Int32))
theorem k_Reading (hn : S.2.2.1 = a + 8) (t : S.1 (a + 7) = some (.inl 2)) : ctv ext 1 29 [.ref (a + 7)] S (fun S' => S' = s_Reading S a) := by
  unfold ctv ct
  rw [show av_ent [.ref (a + 7)] (sm_ml 29) = [some (.ref (a + 7))] by rw [ml29]; rfl]
  have t1 : (av_new S (.inr (7, 1000)) (fun _ => .null) 1000).1 (a + 7) = some (.inl 2) := (nw_m _ _ _ _ (by omega)).trans t
  have t2 : (av_new (av_new S (.inr (7, 1000)) (fun _ => .null) 1000) (.inr (7, 1000)) (fun _ => .null) 1000).1 (a + 7) = some (.inl 2) := (nw_m _ _ _ _ (by show a + 7 ≠ S.2.2.1 + 1; omega)).trans t1
  have t3 : (av_new (av_new (av_new S (.inr (7, 1000)) (fun _ => .null) 1000) (.inr (7, 1000)) (fun _ => .null) 1000) (.inr (0, 120)) (fun _ => defaultValue (sm_aT 0)) 120).1 (a + 7) = some (.inl 2) := (nw_m _ _ _ _ (by show a + 7 ≠ S.2.2.1 + 1 + 1; omega)).trans t2
  have t4 : (av_new (av_new (av_new (av_new S (.inr (7, 1000)) (fun _ => .null) 1000) (.inr (7, 1000)) (fun _ => .null) 1000) (.inr (0, 120)) (fun _ => defaultValue (sm_aT 0)) 120) (.inr (7, 120)) (fun _ => .null) 120).1 (a + 7) = some (.inl 2) := (nw_m _ _ _ _ (by show a + 7 ≠ S.2.2.1 + 1 + 1 + 1; omega)).trans t3
  refine bk29_0 (bk29_4 (r0 := some (a + 7)) (bk29_11 (r0 := some (a + 7)) (rk1 := some S.2.2.1) t1 (bk29_21 (a0 := a + 7) (rk1 := some (S.2.2.1 + 1)) t2 t2 (bk29_34 (r0 := some (a + 7)) (rk1 := some (S.2.2.1 + 1 + 1)) t3 (bk29_43 (a0 := a + 7) (rk1 := some (S.2.2.1 + 1 + 1 + 1)) t4 t4 ⟨rfl, ?_⟩)))))
  unfold s_Reading
  rw [hn]
  rfl
theorem k_Reading_dn (hn : S.2.2.1 = a + 8) (t : S.1 (a + 7) = some (.inl 2)) (hd : ∀ k, S.2.1 (a + 7) k = defaultValue (sm_fT 2 k)) : kp (a + 7) S (s_Reading S a) 4 2240 ∧ ∀ s, s ∈ [2, 25, 26, 27, 28] → c_dn a (s_Reading S a) s := by
  refine ⟨(((((((((((kp.rf (a + 7) S).new _ _ _).set _ _).new _ _ _).set _ _).set _ _).new _ _ _).set _ _).new _ _ _).set _ _).set _ _), ?_⟩
  have nx : ∀ i, i < 4 → a + 8 + i < a + 12 := fun i hi => by omega
  unfold s_Reading
  intro s hs
  simp only [List.mem_cons, List.not_mem_nil, or_false] at hs
  rcases hs with rfl | rfl | rfl | rfl | rfl
  · refine ⟨?_, fun k => ?_⟩
    · exact ((nw_m (av_set (av_new (av_set (av_set (av_new (av_set (av_new S (.inr (7, 1000)) (fun _ => .null) 1000) (a + 7) 0 (.ref (a + 8))) (.inr (7, 1000)) (fun _ => .null) 1000) (a + 7) 1 (.ref (a + 9))) (a + 7) 2 (.int (0 : Int32))) (.inr (0, 120)) (fun _ => defaultValue (sm_aT 0)) 120) (a + 7) 3 (.ref (a + 10))) (.inr (7, 120)) (fun _ => .null) 120 (by show a + 7 ≠ S.2.2.1 + 1 + 1 + 1; omega)).trans ((nw_m (av_set (av_set (av_new (av_set (av_new S (.inr (7, 1000)) (fun _ => .null) 1000) (a + 7) 0 (.ref (a + 8))) (.inr (7, 1000)) (fun _ => .null) 1000) (a + 7) 1 (.ref (a + 9))) (a + 7) 2 (.int (0 : Int32))) (.inr (0, 120)) (fun _ => defaultValue (sm_aT 0)) 120 (by show a + 7 ≠ S.2.2.1 + 1 + 1; omega)).trans ((nw_m (av_set (av_new S (.inr (7, 1000)) (fun _ => .null) 1000) (a + 7) 0 (.ref (a + 8))) (.inr (7, 1000)) (fun _ => .null) 1000 (by show a + 7 ≠ S.2.2.1 + 1; omega)).trans ((nw_m S (.inr (7, 1000)) (fun _ => .null) 1000 (by show a + 7 ≠ S.2.2.1; omega)).trans t))))
    · show ((av_set (av_set (av_new (av_set (av_new (av_set (av_set (av_new (av_set (av_new S (.inr (7, 1000)) (fun _ => .null) 1000) (a + 7) 0 (.ref (a + 8))) (.inr (7, 1000)) (fun _ => .null) 1000) (a + 7) 1 (.ref (a + 9))) (a + 7) 2 (.int (0 : Int32))) (.inr (0, 120)) (fun _ => defaultValue (sm_aT 0)) 120) (a + 7) 3 (.ref (a + 10))) (.inr (7, 120)) (fun _ => .null) 120) (a + 7) 4 (.ref (a + 11))) (a + 7) 5 (.int (0 : Int32)))).2.1 (a + 7) k = _
      rw [st_s, st_s, nw_n _ _ _ _ (by show a + 7 ≠ S.2.2.1 + 1 + 1 + 1; omega), st_s, nw_n _ _ _ _ (by show a + 7 ≠ S.2.2.1 + 1 + 1; omega), st_s, st_s, nw_n _ _ _ _ (by show a + 7 ≠ S.2.2.1 + 1; omega), st_s, nw_n _ _ _ _ (by show a + 7 ≠ S.2.2.1; omega), hd]
      match k with
      | 0 => rfl
      | 1 => rfl
      | 2 => rfl
      | 3 => rfl
      | 4 => rfl
      | 5 => rfl
      | k + 6 => rw [if_neg (by omega), if_neg (by omega), if_neg (by omega), if_neg (by omega), if_neg (by omega), if_neg (by omega)]; rfl
  · refine c_dn.arr (v := .null) ((nw_m (av_set (av_new (av_set (av_set (av_new (av_set (av_new S (.inr (7, 1000)) (fun _ => .null) 1000) (a + 7) 0 (.ref (a + 8))) (.inr (7, 1000)) (fun _ => .null) 1000) (a + 7) 1 (.ref (a + 9))) (a + 7) 2 (.int (0 : Int32))) (.inr (0, 120)) (fun _ => defaultValue (sm_aT 0)) 120) (a + 7) 3 (.ref (a + 10))) (.inr (7, 120)) (fun _ => .null) 120 (by show a + 8 ≠ S.2.2.1 + 1 + 1 + 1; omega)).trans ((nw_m (av_set (av_set (av_new (av_set (av_new S (.inr (7, 1000)) (fun _ => .null) 1000) (a + 7) 0 (.ref (a + 8))) (.inr (7, 1000)) (fun _ => .null) 1000) (a + 7) 1 (.ref (a + 9))) (a + 7) 2 (.int (0 : Int32))) (.inr (0, 120)) (fun _ => defaultValue (sm_aT 0)) 120 (by show a + 8 ≠ S.2.2.1 + 1 + 1; omega)).trans ((nw_m (av_set (av_new S (.inr (7, 1000)) (fun _ => .null) 1000) (a + 7) 0 (.ref (a + 8))) (.inr (7, 1000)) (fun _ => .null) 1000 (by show a + 8 ≠ S.2.2.1 + 1; omega)).trans (nw_k S (.inr (7, 1000)) (fun _ => .null) 1000 (by show a + 8 = S.2.2.1; omega))))) ?_ (fun k => rfl)
    show ((av_set (av_set (av_new (av_set (av_new (av_set (av_set (av_new (av_set (av_new S (.inr (7, 1000)) (fun _ => .null) 1000) (a + 7) 0 (.ref (a + 8))) (.inr (7, 1000)) (fun _ => .null) 1000) (a + 7) 1 (.ref (a + 9))) (a + 7) 2 (.int (0 : Int32))) (.inr (0, 120)) (fun _ => defaultValue (sm_aT 0)) 120) (a + 7) 3 (.ref (a + 10))) (.inr (7, 120)) (fun _ => .null) 120) (a + 7) 4 (.ref (a + 11))) (a + 7) 5 (.int (0 : Int32)))).2.1 (a + 8) = _
    rw [st_n _ _ _ (by omega), st_n _ _ _ (by omega), nw_n _ _ _ _ (by show a + 8 ≠ S.2.2.1 + 1 + 1 + 1; omega), st_n _ _ _ (by omega), nw_n _ _ _ _ (by show a + 8 ≠ S.2.2.1 + 1 + 1; omega), st_n _ _ _ (by omega), st_n _ _ _ (by omega), nw_n _ _ _ _ (by show a + 8 ≠ S.2.2.1 + 1; omega), st_n _ _ _ (by omega), nw_s _ _ _ _ (by show a + 8 = S.2.2.1; omega)]
  · refine c_dn.arr (v := .null) ((nw_m (av_set (av_new (av_set (av_set (av_new (av_set (av_new S (.inr (7, 1000)) (fun _ => .null) 1000) (a + 7) 0 (.ref (a + 8))) (.inr (7, 1000)) (fun _ => .null) 1000) (a + 7) 1 (.ref (a + 9))) (a + 7) 2 (.int (0 : Int32))) (.inr (0, 120)) (fun _ => defaultValue (sm_aT 0)) 120) (a + 7) 3 (.ref (a + 10))) (.inr (7, 120)) (fun _ => .null) 120 (by show a + 9 ≠ S.2.2.1 + 1 + 1 + 1; omega)).trans ((nw_m (av_set (av_set (av_new (av_set (av_new S (.inr (7, 1000)) (fun _ => .null) 1000) (a + 7) 0 (.ref (a + 8))) (.inr (7, 1000)) (fun _ => .null) 1000) (a + 7) 1 (.ref (a + 9))) (a + 7) 2 (.int (0 : Int32))) (.inr (0, 120)) (fun _ => defaultValue (sm_aT 0)) 120 (by show a + 9 ≠ S.2.2.1 + 1 + 1; omega)).trans (nw_k (av_set (av_new S (.inr (7, 1000)) (fun _ => .null) 1000) (a + 7) 0 (.ref (a + 8))) (.inr (7, 1000)) (fun _ => .null) 1000 (by show a + 9 = S.2.2.1 + 1; omega)))) ?_ (fun k => rfl)
    show ((av_set (av_set (av_new (av_set (av_new (av_set (av_set (av_new (av_set (av_new S (.inr (7, 1000)) (fun _ => .null) 1000) (a + 7) 0 (.ref (a + 8))) (.inr (7, 1000)) (fun _ => .null) 1000) (a + 7) 1 (.ref (a + 9))) (a + 7) 2 (.int (0 : Int32))) (.inr (0, 120)) (fun _ => defaultValue (sm_aT 0)) 120) (a + 7) 3 (.ref (a + 10))) (.inr (7, 120)) (fun _ => .null) 120) (a + 7) 4 (.ref (a + 11))) (a + 7) 5 (.int (0 : Int32)))).2.1 (a + 9) = _
    rw [st_n _ _ _ (by omega), st_n _ _ _ (by omega), nw_n _ _ _ _ (by show a + 9 ≠ S.2.2.1 + 1 + 1 + 1; omega), st_n _ _ _ (by omega), nw_n _ _ _ _ (by show a + 9 ≠ S.2.2.1 + 1 + 1; omega), st_n _ _ _ (by omega), st_n _ _ _ (by omega), nw_s _ _ _ _ (by show a + 9 = S.2.2.1 + 1; omega)]
  · refine c_dn.arr (v := defaultValue (sm_aT 0)) ((nw_m (av_set (av_new (av_set (av_set (av_new (av_set (av_new S (.inr (7, 1000)) (fun _ => .null) 1000) (a + 7) 0 (.ref (a + 8))) (.inr (7, 1000)) (fun _ => .null) 1000) (a + 7) 1 (.ref (a + 9))) (a + 7) 2 (.int (0 : Int32))) (.inr (0, 120)) (fun _ => defaultValue (sm_aT 0)) 120) (a + 7) 3 (.ref (a + 10))) (.inr (7, 120)) (fun _ => .null) 120 (by show a + 10 ≠ S.2.2.1 + 1 + 1 + 1; omega)).trans (nw_k (av_set (av_set (av_new (av_set (av_new S (.inr (7, 1000)) (fun _ => .null) 1000) (a + 7) 0 (.ref (a + 8))) (.inr (7, 1000)) (fun _ => .null) 1000) (a + 7) 1 (.ref (a + 9))) (a + 7) 2 (.int (0 : Int32))) (.inr (0, 120)) (fun _ => defaultValue (sm_aT 0)) 120 (by show a + 10 = S.2.2.1 + 1 + 1; omega))) ?_ (fun k => rfl)
    show ((av_set (av_set (av_new (av_set (av_new (av_set (av_set (av_new (av_set (av_new S (.inr (7, 1000)) (fun _ => .null) 1000) (a + 7) 0 (.ref (a + 8))) (.inr (7, 1000)) (fun _ => .null) 1000) (a + 7) 1 (.ref (a + 9))) (a + 7) 2 (.int (0 : Int32))) (.inr (0, 120)) (fun _ => defaultValue (sm_aT 0)) 120) (a + 7) 3 (.ref (a + 10))) (.inr (7, 120)) (fun _ => .null) 120) (a + 7) 4 (.ref (a + 11))) (a + 7) 5 (.int (0 : Int32)))).2.1 (a + 10) = _
    rw [st_n _ _ _ (by omega), st_n _ _ _ (by omega), nw_n _ _ _ _ (by show a + 10 ≠ S.2.2.1 + 1 + 1 + 1; omega), st_n _ _ _ (by omega), nw_s _ _ _ _ (by show a + 10 = S.2.2.1 + 1 + 1; omega)]
  · refine c_dn.arr (v := .null) (nw_k (av_set (av_new (av_set (av_set (av_new (av_set (av_new S (.inr (7, 1000)) (fun _ => .null) 1000) (a + 7) 0 (.ref (a + 8))) (.inr (7, 1000)) (fun _ => .null) 1000) (a + 7) 1 (.ref (a + 9))) (a + 7) 2 (.int (0 : Int32))) (.inr (0, 120)) (fun _ => defaultValue (sm_aT 0)) 120) (a + 7) 3 (.ref (a + 10))) (.inr (7, 120)) (fun _ => .null) 120 (by show a + 11 = S.2.2.1 + 1 + 1 + 1; omega)) ?_ (fun k => rfl)
    show ((av_set (av_set (av_new (av_set (av_new (av_set (av_set (av_new (av_set (av_new S (.inr (7, 1000)) (fun _ => .null) 1000) (a + 7) 0 (.ref (a + 8))) (.inr (7, 1000)) (fun _ => .null) 1000) (a + 7) 1 (.ref (a + 9))) (a + 7) 2 (.int (0 : Int32))) (.inr (0, 120)) (fun _ => defaultValue (sm_aT 0)) 120) (a + 7) 3 (.ref (a + 10))) (.inr (7, 120)) (fun _ => .null) 120) (a + 7) 4 (.ref (a + 11))) (a + 7) 5 (.int (0 : Int32)))).2.1 (a + 11) = _
    rw [st_n _ _ _ (by omega), st_n _ _ _ (by omega), nw_s _ _ _ _ (by show a + 11 = S.2.2.1 + 1 + 1 + 1; omega)]
def s_Steps (S : av_St) (a : Nat) : av_St := av_set (av_set (av_new (av_set (av_new S (.inr (8, 5000)) (fun _ => .null) 5000) (a + 12) 0 (.ref (a + 13))) (.inr (7, 5000)) (fun _ => .null) 5000) (a + 12) 1 (.ref (a + 14))) (a + 12) 2 (.int (0 : Int32))
theorem k_Steps (hn : S.2.2.1 = a + 13) (t : S.1 (a + 12) = some (.inl 3)) : ctv ext 1 35 [.ref (a + 12)] S (fun S' => S' = s_Steps S a) := by
  unfold ctv ct
  rw [show av_ent [.ref (a + 12)] (sm_ml 35) = [some (.ref (a + 12))] by rw [ml35]; rfl]
  have t1 : (av_new S (.inr (8, 5000)) (fun _ => .null) 5000).1 (a + 12) = some (.inl 3) := (nw_m _ _ _ _ (by omega)).trans t
  have t2 : (av_new (av_new S (.inr (8, 5000)) (fun _ => .null) 5000) (.inr (7, 5000)) (fun _ => .null) 5000).1 (a + 12) = some (.inl 3) := (nw_m _ _ _ _ (by show a + 12 ≠ S.2.2.1 + 1; omega)).trans t1
  refine bk35_0 (bk35_4 (r0 := some (a + 12)) (bk35_11 (r0 := some (a + 12)) (rk1 := some S.2.2.1) t1 (bk35_21 (a0 := a + 12) (rk1 := some (S.2.2.1 + 1)) t2 t2 ⟨rfl, ?_⟩)))
  unfold s_Steps
  rw [hn]
  rfl
theorem k_Steps_dn (hn : S.2.2.1 = a + 13) (t : S.1 (a + 12) = some (.inl 3)) (hd : ∀ k, S.2.1 (a + 12) k = defaultValue (sm_fT 3 k)) : kp (a + 12) S (s_Steps S a) 2 10000 ∧ ∀ s, s ∈ [3, 29, 30] → c_dn a (s_Steps S a) s := by
  refine ⟨((((((kp.rf (a + 12) S).new _ _ _).set _ _).new _ _ _).set _ _).set _ _), ?_⟩
  have nx : ∀ i, i < 2 → a + 13 + i < a + 15 := fun i hi => by omega
  unfold s_Steps
  intro s hs
  simp only [List.mem_cons, List.not_mem_nil, or_false] at hs
  rcases hs with rfl | rfl | rfl
  · refine ⟨?_, fun k => ?_⟩
    · exact ((nw_m (av_set (av_new S (.inr (8, 5000)) (fun _ => .null) 5000) (a + 12) 0 (.ref (a + 13))) (.inr (7, 5000)) (fun _ => .null) 5000 (by show a + 12 ≠ S.2.2.1 + 1; omega)).trans ((nw_m S (.inr (8, 5000)) (fun _ => .null) 5000 (by show a + 12 ≠ S.2.2.1; omega)).trans t))
    · show ((av_set (av_set (av_new (av_set (av_new S (.inr (8, 5000)) (fun _ => .null) 5000) (a + 12) 0 (.ref (a + 13))) (.inr (7, 5000)) (fun _ => .null) 5000) (a + 12) 1 (.ref (a + 14))) (a + 12) 2 (.int (0 : Int32)))).2.1 (a + 12) k = _
      rw [st_s, st_s, nw_n _ _ _ _ (by show a + 12 ≠ S.2.2.1 + 1; omega), st_s, nw_n _ _ _ _ (by show a + 12 ≠ S.2.2.1; omega), hd]
      match k with
      | 0 => rfl
      | 1 => rfl
      | 2 => rfl
      | k + 3 => rw [if_neg (by omega), if_neg (by omega), if_neg (by omega)]; rfl
  · refine c_dn.arr (v := .null) ((nw_m (av_set (av_new S (.inr (8, 5000)) (fun _ => .null) 5000) (a + 12) 0 (.ref (a + 13))) (.inr (7, 5000)) (fun _ => .null) 5000 (by show a + 13 ≠ S.2.2.1 + 1; omega)).trans (nw_k S (.inr (8, 5000)) (fun _ => .null) 5000 (by show a + 13 = S.2.2.1; omega))) ?_ (fun k => rfl)
    show ((av_set (av_set (av_new (av_set (av_new S (.inr (8, 5000)) (fun _ => .null) 5000) (a + 12) 0 (.ref (a + 13))) (.inr (7, 5000)) (fun _ => .null) 5000) (a + 12) 1 (.ref (a + 14))) (a + 12) 2 (.int (0 : Int32)))).2.1 (a + 13) = _
    rw [st_n _ _ _ (by omega), st_n _ _ _ (by omega), nw_n _ _ _ _ (by show a + 13 ≠ S.2.2.1 + 1; omega), st_n _ _ _ (by omega), nw_s _ _ _ _ (by show a + 13 = S.2.2.1; omega)]
  · refine c_dn.arr (v := .null) (nw_k (av_set (av_new S (.inr (8, 5000)) (fun _ => .null) 5000) (a + 12) 0 (.ref (a + 13))) (.inr (7, 5000)) (fun _ => .null) 5000 (by show a + 14 = S.2.2.1 + 1; omega)) ?_ (fun k => rfl)
    show ((av_set (av_set (av_new (av_set (av_new S (.inr (8, 5000)) (fun _ => .null) 5000) (a + 12) 0 (.ref (a + 13))) (.inr (7, 5000)) (fun _ => .null) 5000) (a + 12) 1 (.ref (a + 14))) (a + 12) 2 (.int (0 : Int32)))).2.1 (a + 14) = _
    rw [st_n _ _ _ (by omega), st_n _ _ _ (by omega), nw_s _ _ _ _ (by show a + 14 = S.2.2.1 + 1; omega)]
def s_Faults (S : av_St) (a : Nat) : av_St := av_set (av_set (av_new (av_set (av_new S (.inr (0, 300)) (fun _ => defaultValue (sm_aT 0)) 300) (a + 15) 0 (.ref (a + 16))) (.inr (0, 300)) (fun _ => defaultValue (sm_aT 0)) 300) (a + 15) 1 (.ref (a + 17))) (a + 15) 2 (.int (0 : Int32))
theorem k_Faults (hn : S.2.2.1 = a + 16) (t : S.1 (a + 15) = some (.inl 4)) : ctv ext 1 39 [.ref (a + 15)] S (fun S' => S' = s_Faults S a) := by
  unfold ctv ct
  rw [show av_ent [.ref (a + 15)] (sm_ml 39) = [some (.ref (a + 15))] by rw [ml39]; rfl]
  have t1 : (av_new S (.inr (0, 300)) (fun _ => defaultValue (sm_aT 0)) 300).1 (a + 15) = some (.inl 4) := (nw_m _ _ _ _ (by omega)).trans t
  have t2 : (av_new (av_new S (.inr (0, 300)) (fun _ => defaultValue (sm_aT 0)) 300) (.inr (0, 300)) (fun _ => defaultValue (sm_aT 0)) 300).1 (a + 15) = some (.inl 4) := (nw_m _ _ _ _ (by show a + 15 ≠ S.2.2.1 + 1; omega)).trans t1
  refine bk39_0 (bk39_4 (r0 := some (a + 15)) (bk39_10 (r0 := some (a + 15)) (rk1 := some S.2.2.1) t1 (bk39_19 (a0 := a + 15) (rk1 := some (S.2.2.1 + 1)) t2 t2 ⟨rfl, ?_⟩)))
  unfold s_Faults
  rw [hn]
  rfl
theorem k_Faults_dn (hn : S.2.2.1 = a + 16) (t : S.1 (a + 15) = some (.inl 4)) (hd : ∀ k, S.2.1 (a + 15) k = defaultValue (sm_fT 4 k)) : kp (a + 15) S (s_Faults S a) 2 600 ∧ ∀ s, s ∈ [4, 31, 32] → c_dn a (s_Faults S a) s := by
  refine ⟨((((((kp.rf (a + 15) S).new _ _ _).set _ _).new _ _ _).set _ _).set _ _), ?_⟩
  have nx : ∀ i, i < 2 → a + 16 + i < a + 18 := fun i hi => by omega
  unfold s_Faults
  intro s hs
  simp only [List.mem_cons, List.not_mem_nil, or_false] at hs
  rcases hs with rfl | rfl | rfl
  · refine ⟨?_, fun k => ?_⟩
    · exact ((nw_m (av_set (av_new S (.inr (0, 300)) (fun _ => defaultValue (sm_aT 0)) 300) (a + 15) 0 (.ref (a + 16))) (.inr (0, 300)) (fun _ => defaultValue (sm_aT 0)) 300 (by show a + 15 ≠ S.2.2.1 + 1; omega)).trans ((nw_m S (.inr (0, 300)) (fun _ => defaultValue (sm_aT 0)) 300 (by show a + 15 ≠ S.2.2.1; omega)).trans t))
    · show ((av_set (av_set (av_new (av_set (av_new S (.inr (0, 300)) (fun _ => defaultValue (sm_aT 0)) 300) (a + 15) 0 (.ref (a + 16))) (.inr (0, 300)) (fun _ => defaultValue (sm_aT 0)) 300) (a + 15) 1 (.ref (a + 17))) (a + 15) 2 (.int (0 : Int32)))).2.1 (a + 15) k = _
      rw [st_s, st_s, nw_n _ _ _ _ (by show a + 15 ≠ S.2.2.1 + 1; omega), st_s, nw_n _ _ _ _ (by show a + 15 ≠ S.2.2.1; omega), hd]
      match k with
      | 0 => rfl
      | 1 => rfl
      | 2 => rfl
      | k + 3 => rw [if_neg (by omega), if_neg (by omega), if_neg (by omega)]; rfl
  · refine c_dn.arr (v := defaultValue (sm_aT 0)) ((nw_m (av_set (av_new S (.inr (0, 300)) (fun _ => defaultValue (sm_aT 0)) 300) (a + 15) 0 (.ref (a + 16))) (.inr (0, 300)) (fun _ => defaultValue (sm_aT 0)) 300 (by show a + 16 ≠ S.2.2.1 + 1; omega)).trans (nw_k S (.inr (0, 300)) (fun _ => defaultValue (sm_aT 0)) 300 (by show a + 16 = S.2.2.1; omega))) ?_ (fun k => rfl)
    show ((av_set (av_set (av_new (av_set (av_new S (.inr (0, 300)) (fun _ => defaultValue (sm_aT 0)) 300) (a + 15) 0 (.ref (a + 16))) (.inr (0, 300)) (fun _ => defaultValue (sm_aT 0)) 300) (a + 15) 1 (.ref (a + 17))) (a + 15) 2 (.int (0 : Int32)))).2.1 (a + 16) = _
    rw [st_n _ _ _ (by omega), st_n _ _ _ (by omega), nw_n _ _ _ _ (by show a + 16 ≠ S.2.2.1 + 1; omega), st_n _ _ _ (by omega), nw_s _ _ _ _ (by show a + 16 = S.2.2.1; omega)]
  · refine c_dn.arr (v := defaultValue (sm_aT 0)) (nw_k (av_set (av_new S (.inr (0, 300)) (fun _ => defaultValue (sm_aT 0)) 300) (a + 15) 0 (.ref (a + 16))) (.inr (0, 300)) (fun _ => defaultValue (sm_aT 0)) 300 (by show a + 17 = S.2.2.1 + 1; omega)) ?_ (fun k => rfl)
    show ((av_set (av_set (av_new (av_set (av_new S (.inr (0, 300)) (fun _ => defaultValue (sm_aT 0)) 300) (a + 15) 0 (.ref (a + 16))) (.inr (0, 300)) (fun _ => defaultValue (sm_aT 0)) 300) (a + 15) 1 (.ref (a + 17))) (a + 15) 2 (.int (0 : Int32)))).2.1 (a + 17) = _
    rw [st_n _ _ _ (by omega), st_n _ _ _ (by omega), nw_s _ _ _ _ (by show a + 17 = S.2.2.1 + 1; omega)]
def s_Signs (S : av_St) (a : Nat) : av_St := av_set (av_set (av_new S (.inr (1, 7860)) (fun _ => defaultValue (sm_aT 1)) 7860) (a + 18) 0 (.ref (a + 19))) (a + 18) 1 (.int (0 : Int32))
theorem k_Signs (hn : S.2.2.1 = a + 19) (t : S.1 (a + 18) = some (.inl 5)) : ctv ext 1 41 [.ref (a + 18)] S (fun S' => S' = s_Signs S a) := by
  unfold ctv ct
  rw [show av_ent [.ref (a + 18)] (sm_ml 41) = [some (.ref (a + 18))] by rw [ml41]; rfl]
  have t1 : (av_new S (.inr (1, 7860)) (fun _ => defaultValue (sm_aT 1)) 7860).1 (a + 18) = some (.inl 5) := (nw_m _ _ _ _ (by omega)).trans t
  refine bk41_0 (bk41_4 (r0 := some (a + 18)) (bk41_10 (a0 := a + 18) (rk1 := some S.2.2.1) t1 t1 ⟨rfl, ?_⟩))
  unfold s_Signs
  rw [hn]
  rfl
theorem k_Signs_dn (hn : S.2.2.1 = a + 19) (t : S.1 (a + 18) = some (.inl 5)) (hd : ∀ k, S.2.1 (a + 18) k = defaultValue (sm_fT 5 k)) : kp (a + 18) S (s_Signs S a) 1 7860 ∧ ∀ s, s ∈ [5, 33] → c_dn a (s_Signs S a) s := by
  refine ⟨((((kp.rf (a + 18) S).new _ _ _).set _ _).set _ _), ?_⟩
  have nx : ∀ i, i < 1 → a + 19 + i < a + 20 := fun i hi => by omega
  unfold s_Signs
  intro s hs
  simp only [List.mem_cons, List.not_mem_nil, or_false] at hs
  rcases hs with rfl | rfl
  · refine ⟨?_, fun k => ?_⟩
    · exact ((nw_m S (.inr (1, 7860)) (fun _ => defaultValue (sm_aT 1)) 7860 (by show a + 18 ≠ S.2.2.1; omega)).trans t)
    · show ((av_set (av_set (av_new S (.inr (1, 7860)) (fun _ => defaultValue (sm_aT 1)) 7860) (a + 18) 0 (.ref (a + 19))) (a + 18) 1 (.int (0 : Int32)))).2.1 (a + 18) k = _
      rw [st_s, st_s, nw_n _ _ _ _ (by show a + 18 ≠ S.2.2.1; omega), hd]
      match k with
      | 0 => rfl
      | 1 => rfl
      | k + 2 => rw [if_neg (by omega), if_neg (by omega)]; rfl
  · refine c_dn.arr (v := defaultValue (sm_aT 1)) (nw_k S (.inr (1, 7860)) (fun _ => defaultValue (sm_aT 1)) 7860 (by show a + 19 = S.2.2.1; omega)) ?_ (fun k => rfl)
    show ((av_set (av_set (av_new S (.inr (1, 7860)) (fun _ => defaultValue (sm_aT 1)) 7860) (a + 18) 0 (.ref (a + 19))) (a + 18) 1 (.int (0 : Int32)))).2.1 (a + 19) = _
    rw [st_n _ _ _ (by omega), st_n _ _ _ (by omega), nw_s _ _ _ _ (by show a + 19 = S.2.2.1; omega)]
end CMKK
