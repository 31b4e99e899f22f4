/-! THE CLASS'S CALL: map -/
theorem s_div_ne {S : av_St} {a b : Nat} (x1 x2 x3 x4 : Int32) (h1 : b ≠ a) (h2 : b ≠ S.2.2.1) : (s_div S a x1 x2 x3 x4).2.1 b = S.2.1 b := by
  unfold s_div
  rw [st_n _ _ _ h1, st_n _ _ _ h1, st_n _ _ _ h1, st_n _ _ _ h1, st_n _ _ _ h1, st_n _ _ _ h1, nw_n _ _ _ _ (by exact h2), st_n _ _ _ h1, st_n _ _ _ h1, st_n _ _ _ h1, st_n _ _ _ h1]
def s_tree (S : av_St) (a : Nat) (x1 x2 : Int32) : av_St := av_set (s_div (av_new (av_set S a 0 (.int x2)) (.inl 8) (fun f => defaultValue (sm_fT 8 f)) (sm_fN 8)) S.2.2.1 (-1 : Int32) x1 (0 : Int32) (0 : Int32)) a 1 (.ref S.2.2.1)
theorem k_Tree {ext : av_X} {S : av_St} {a : Nat} {x1 x2 : Int32} (t : S.1 a = some (.inl 7)) (hf : fr S) : ctv ext 2 49 [.ref a, .int x1, .int x2] S (fun S' => S' = s_tree S a x1 x2) := by
  have hlt : a < S.2.2.1 := by
    by_cases q : a < S.2.2.1
    · exact q
    · rw [hf a (by omega)] at t
      cases t
  have t2 : (s_div (av_new (av_set S a 0 (.int x2)) (.inl 8) (fun f => defaultValue (sm_fT 8 f)) (sm_fN 8)) S.2.2.1 (-1 : Int32) x1 (0 : Int32) (0 : Int32)).1 a = some (.inl 7) := by
    have e1 : a ≠ S.2.2.1 + 1 := by omega
    have e2 : a ≠ S.2.2.1 := by omega
    show (av_new (av_new (av_set S a 0 (.int x2)) (.inl 8) (fun f => defaultValue (sm_fT 8 f)) (sm_fN 8)) (.inr (8, 5)) (fun _ => .null) 5).1 a = _
    rw [nw_m _ _ _ _ (by exact e1), nw_m _ _ _ _ (by exact e2)]
    exact t
  unfold ctv ct
  rw [show av_ent [.ref a, .int x1, .int x2] (sm_ml 49) = [some (.ref a), some (.int x1), some (.int x2)] by rw [ml49]; rfl]
  refine bk49_0 (bk49_4 t (bk49_13 (r0 := some a) (rk0 := some a) (k_Division (nw_k _ _ _ _ rfl) ((hf.set a 0 (.int x2)).new _ _ _)) ?_))
  rintro S2 rfl
  exact bk49_21 (r0 := some a) (rk1 := some S.2.2.1) t2 ⟨rfl, rfl⟩
theorem c_RA_map {A : mS} {T T2 : cT} {z : Nat} (hI : m_Inv A) (h : c_RA A T) (e0 : T2.1 0 0 3 = nI (m_nM A + 1)) (e0' : ∀ k, k ≠ 3 → T2.1 0 0 k = T.1 0 0 k) (e1 : T2.2 21 0 (m_nM A) = some (m_nM A)) (e1' : ∀ k, k ≠ m_nM A → T2.2 21 0 k = T.2 21 0 k)
    (e7 : T2.1 7 (m_nM A) 0 = nI z ∧ T2.2 7 (m_nM A) 1 = some (1000 + m_nM A)) (e7' : ∀ i, i ≠ m_nM A → T2.1 7 i = T.1 7 i ∧ T2.2 7 i = T.2 7 i)
    (e8 : T2.1 8 (1000 + m_nM A) 0 = -1 ∧ T2.1 8 (1000 + m_nM A) 1 = nI (m_nM A) ∧ T2.2 8 (1000 + m_nM A) 7 = none ∧ T2.2 8 (1000 + m_nM A) 9 = none) (e8' : ∀ i, i ≠ 1000 + m_nM A → T2.1 8 i = T.1 8 i ∧ T2.2 8 i = T.2 8 i)
    (e9 : ∀ i, i ≠ 1000 + m_nM A → T2.2 34 i = T.2 34 i) (eo : ∀ s, s ∉ [0, 7, 8, 21, 34] → T2.1 s = T.1 s ∧ T2.2 s = T.2 s) : c_RA (m_wM A (m_nM A + 1) (va_up (m_kd A) (m_nM A) z)) T2 := by
  obtain ⟨⟨gN, gF, gM, gD, gK, gL, gC⟩, gS, gT, gP⟩ := h
  have hD := hI.2.2.1
  have o6 := eo 6 (by decide)
  have o9 := eo 9 (by decide)
  have o20 := eo 20 (by decide)
  have o22 := eo 22 (by decide)
  refine ⟨⟨⟨(e0' 1 (by decide)).trans gN.1, e0, (e0' 5 (by decide)).trans gN.2.2⟩, ?_, ?_, ?_, ?_, ?_, ?_⟩, ?_, ?_, ?_⟩
  · intro f hf
    rw [o20.2, o6.1]
    exact gF f hf
  · intro m hm
    have hm' : m < m_nM A + 1 := hm
    show T2.2 21 0 m = some m ∧ T2.1 7 m 0 = nI (va_up (m_kd A) (m_nM A) z m) ∧ T2.2 7 m 1 = some (1000 + m) ∧ T2.1 8 (1000 + m) 0 = -1 ∧ T2.1 8 (1000 + m) 1 = nI m ∧ T2.2 8 (1000 + m) 9 = none
    by_cases e : m = m_nM A
    · subst e
      rw [va_up_self]
      exact ⟨e1, e7.1, e7.2, e8.1, e8.2.1, e8.2.2.2⟩
    · rw [va_up_ne _ _ e, e1' m e, (e7' m e).1, (e7' m e).2, (e8' (1000 + m) (by omega)).1, (e8' (1000 + m) (by omega)).2]
      exact gM m (by omega)
  · intro x hx
    have hx' : x < m_nD A := hx
    rw [o22.2, (e8' x (by omega)).1, (e8' x (by omega)).2]
    exact gD x hx
  · intro c hc
    rw [m_kids_cg (A := A) (B := m_wM A (m_nM A + 1) (va_up (m_kd A) (m_nM A) z)) rfl rfl rfl rfl c]
    have kx : ∀ x, x ∈ m_kids A c → T2.2 8 x 8 = T.2 8 x 8 := fun x hx => by
      have := (c_kid_iff.mp hx).1
      rw [(e8' x (by omega)).2]
    by_cases e : c = .inr (m_nM A)
    · subst e
      have ek : m_kids A (.inr (m_nM A)) = [] := by
        cases hk : m_kids A (.inr (m_nM A)) with
        | nil => rfl
        | cons y l =>
          have hy : y ∈ m_kids A (.inr (m_nM A)) := by rw [hk]; simp
          obtain ⟨q1, q2⟩ := c_kid_iff.mp hy
          have hm := (hI.2.2.2.1 y q1).1
          unfold c_pa at q2
          cases hu : m_un A y with
          | some p => rw [hu] at q2; cases q2
          | none =>
            rw [hu] at q2
            have q3 : m_mp A y = m_nM A := Sum.inr.inj q2
            omega
      rw [ek]
      refine ⟨e8.2.2.1, fun l1 x l2 q => ?_⟩
      cases l1 <;> cases q
    · have hc' : c_ok A c := by
        cases c with
        | inl d => exact hc
        | inr m =>
          have h1 : m < m_nM A + 1 := hc
          show m < m_nM A
          have : m ≠ m_nM A := fun q => e (by rw [q])
          omega
      have hne : c_ix c ≠ 1000 + m_nM A := by
        cases c with
        | inl d =>
          have h1 : d < m_nD A := hc'
          show d ≠ _
          omega
        | inr m =>
          have h1 : m < m_nM A := hc'
          show 1000 + m ≠ _
          omega
      have g := gK c hc'
      rw [(e8' _ hne).2]
      exact ⟨g.1, g.2.cong kx⟩
  · intro x j e hx he
    have hx' : x < m_nD A := hx
    rw [e9 x (by omega), o9.1, o9.2]
    exact gL x j e hx he
  · intro f hf
    obtain ⟨l, a1, a2, a3⟩ := gC f hf
    refine ⟨l, ?_, a2.cong (fun x _ => by rw [o9.2]), a3⟩
    rw [o6.2]
    exact a1
  · exact gS.cong (A := A) (fun s hs => eo s (by revert hs; revert s; decide))
  · exact gT.cong (A := A) (fun s hs => eo s (by revert hs; revert s; decide))
  · exact gP.cong (A := A) (fun s hs => eo s (by revert hs; revert s; decide))
section CMP
variable {ext : av_X} {X : cX} {T : cT} {A : mS}
/-- a division's two cells get their names -/
theorem cr.addD {S : av_St} (h : cr X T S) {i a l : Nat} {x1 x2 x3 x4 : Int32} (n8 : ¬ X.2.1 8 i) (n34 : ¬ X.2.1 34 i) (ha : ∀ s' i', X.2.1 s' i' → X.1 s' i' ≠ a) (hl : ∀ s' i', X.2.1 s' i' → X.1 s' i' ≠ l) (hal : a ≠ l) (ka : S.1 a = some (.inl 8)) (kl : S.1 l = some (.inr (8, 5)))
    (ca : ∀ k, S.2.1 a k = if k = 9 then .null else if k = 8 then .null else if k = 7 then .null else if k = 6 then .null else if k = 5 then .int 0 else if k = 4 then .ref l else if k = 3 then .int x4 else if k = 2 then .int x3 else if k = 1 then .int x2 else if k = 0 then .int x1 else defaultValue (sm_fT 8 k)) (cl : ∀ k, S.2.1 l k = .null) :
    cr (x_up (x_up X 34 i l) 8 i a) (t_up (t_up T 34 i (fun _ => 0) (fun _ => none)) 8 i (fun k => if k = 5 then 0 else if k = 3 then x4 else if k = 2 then x3 else if k = 1 then x2 else if k = 0 then x1 else 0) (fun _ => none)) S := by
  have h1 := h.add (s := 34) (i := i) (a := l) (f := fun _ => 0) (g := fun _ => none) n34 hl kl (fun k r _ => by cases r) (fun k t r => ⟨cl k, fun j hj => by cases hj⟩) (fun k t r => by cases r)
  refine h1.add (s := 8) (i := i) (a := a) ?_ (fun s' i' q => ?_) ka (fun k r f => ?_) (fun k t r => ?_) (fun k t r => ?_)
  · rintro (q | q)
    · exact n8 q
    · exact absurd q.1 (by decide)
  · by_cases e : s' = 34 ∧ i' = i
    · obtain ⟨rfl, rfl⟩ := e
      rw [x_up_s]
      exact Ne.symm hal
    · rw [x_up_n _ _ e]
      rcases q with q | q
      · exact ha s' i' q
      · exact absurd q e
  · match k, r, f with
    | 0, _, _ => rw [ca]; rfl
    | 1, _, _ => rw [ca]; rfl
    | 2, _, _ => rw [ca]; rfl
    | 3, _, _ => rw [ca]; rfl
    | 4, _, f => cases f
    | 5, _, _ => rw [ca]; rfl
    | k + 6, r, _ => cases r
  · refine ⟨?_, fun j hj => by cases hj⟩
    match k, r with
    | 0, r => cases r
    | 1, r => cases r
    | 2, r => cases r
    | 3, r => cases r
    | 4, r => cases r
    | 5, r => cases r
    | 6, _ => rw [ca]; rfl
    | 7, _ => rw [ca]; rfl
    | 8, _ => rw [ca]; rfl
    | 9, _ => rw [ca]; rfl
    | k + 10, _ =>
      rw [ca, if_neg (by omega), if_neg (by omega), if_neg (by omega), if_neg (by omega), if_neg (by omega), if_neg (by omega), if_neg (by omega), if_neg (by omega), if_neg (by omega), if_neg (by omega)]
      rfl
  · match k, r with
    | 0, r => cases r
    | 1, r => cases r
    | 2, r => cases r
    | 3, r => cases r
    | 4, r =>
      cases r
      rw [ca, x_up_s]
      exact ⟨rfl, Or.inr ⟨rfl, rfl⟩⟩
    | k + 5, r => cases r
set_option maxHeartbeats 1000000 in
theorem c_map (hI : m_Inv A) (hX : c_X A X) (h : c_RA A T) (n : Int32) : cN ext X 3 5 [cv X 0 (some 0), .int n] T (fun v X' T' => v = (sp_map A n).1 ∧ c_X (sp_map A n).2 X' ∧ c_RA (sp_map A n).2 T') := by
  have hM := hI.2.1.1
  have hD := hI.2.2.1
  have l0 := hX.z (s := 0) (by decide)
  have l21 := hX.z (s := 21) (by decide)
  refine cN.of (L := [some (cv X 0 (some 0)), some (.int n), none]) (by rw [ml5]; rfl) (fun hf => ?_)
  generalize hv : sp_map A n = w
  unfold sp_map at hv
  have go : ∀ z, n = nI z → z ≤ 1 → cA ext X 3 5 12 [some (cv X 0 (some 0)), some (.int n), none] [] T (cQn X (fun v X' T' => v = w.1 ∧ c_X w.2 X' ∧ c_RA w.2 T')) := by
    intro z hn hz
    have hs : 0 ≤ n ∧ n ≤ 1 := by
      rw [hn]
      exact ⟨nI_pos' (by omega), nI_le (b := 1) hz (by omega)⟩
    rw [if_pos hs] at hv
    refine bc5_12 l0 (fun q => ?_) (fun q => ?_)
    case refine_2 =>
      rw [h.1.1.2.1, show (5 : Int32) = nI 5 from rfl, nI_ltI (by omega) (by omega)] at q
      rw [if_pos (by omega)] at hv
      exact bc5_20 (cQn.e hf (by rw [← hv]; exact ⟨rfl, hX, h⟩))
    rw [h.1.1.2.1, show (5 : Int32) = nI 5 from rfl, nI_ltI (by omega) (by omega)] at q
    rw [if_neg (by omega), hn, nI_clamp (by omega)] at hv
    subst hn
    intro S hS
    have hfS := hS.frS hf
    have e0 : S.2.1 (X.1 0 0) 3 = .int (nI (m_nM A)) := by rw [hS.i 3 rfl rfl l0, h.1.1.2.1]
    refine bk5_23 (a0 := X.1 0 0) (y2 := nI (m_nM A)) (q4 := some (X.1 21 0)) (hS.kd l0) e0 (hS.f 2 rfl l0) ?_
    refine bk5_36 (r0 := some (X.1 0 0)) (rk0 := some (X.1 21 0)) (k_Tree (nw_k _ _ _ _ rfl) (hfS.new _ _ _)) ?_
    rintro S2 hS2
    obtain ⟨a, ha⟩ : ∃ a, S.2.2.1 = a := ⟨_, rfl⟩
    have hx : nx S S2 3 17 := by
      rw [hS2]
      exact (s_div_nx _ _ _ _ ((((nx.rf S).new _ _ _).set (Nat.le_refl _) _ _).new _ _ _) (by show S.2.2.1 ≤ S.2.2.1 + 1; omega)).set (Nat.le_refl _) _ _
    have hd := s_div_at (S := av_new (av_set (av_new S (.inl 7) (fun f => defaultValue (sm_fT 7 f)) (sm_fN 7)) S.2.2.1 0 (.int (nI z))) (.inl 8) (fun f => defaultValue (sm_fT 8 f)) (sm_fN 8)) (a := S.2.2.1 + 1) (-1) (nI (m_nM A)) 0 0 (by show S.2.2.1 + 1 ≠ S.2.2.1 + 1 + 1; omega)
    have hat : ∀ k, S2.2.1 S.2.2.1 k = if k = 1 then .ref (S.2.2.1 + 1) else if k = 0 then .int (nI z) else defaultValue (sm_fT 7 k) := by
      intro k
      rw [hS2]
      unfold s_tree
      rw [st_s, s_div_ne _ _ _ _ (by show S.2.2.1 ≠ S.2.2.1 + 1; omega) (by show S.2.2.1 ≠ S.2.2.1 + 1 + 1; omega), nw_n _ _ _ _ (by show S.2.2.1 ≠ S.2.2.1 + 1; omega), st_s, nw_s _ _ _ _ (by rfl)]
      rfl
    have hkd : S2.1 S.2.2.1 = some (.inl 7) := by
      rw [hS2]
      show (av_new (av_new (av_set (av_new S (.inl 7) (fun f => defaultValue (sm_fT 7 f)) (sm_fN 7)) S.2.2.1 0 (.int (nI z))) (.inl 8) (fun f => defaultValue (sm_fT 8 f)) (sm_fN 8)) (.inr (8, 5)) (fun _ => .null) 5).1 S.2.2.1 = _
      rw [nw_m _ _ _ _ (by show S.2.2.1 ≠ S.2.2.1 + 1 + 1; omega), nw_m _ _ _ _ (by show S.2.2.1 ≠ S.2.2.1 + 1; omega)]
      exact nw_k S (.inl 7) (fun f => defaultValue (sm_fT 7 f)) (sm_fN 7) rfl
    have hk8 : S2.1 (S.2.2.1 + 1) = some (.inl 8) := by
      rw [hS2]
      show (av_new (av_new (av_set (av_new S (.inl 7) (fun f => defaultValue (sm_fT 7 f)) (sm_fN 7)) S.2.2.1 0 (.int (nI z))) (.inl 8) (fun f => defaultValue (sm_fT 8 f)) (sm_fN 8)) (.inr (8, 5)) (fun _ => .null) 5).1 (S.2.2.1 + 1) = _
      rw [nw_m _ _ _ _ (by show S.2.2.1 + 1 ≠ S.2.2.1 + 1 + 1; omega)]
      exact nw_k _ _ _ _ rfl
    have hk9 : S2.1 (S.2.2.1 + 2) = some (.inr (8, 5)) := by
      rw [hS2]
      exact hd.2.2.2
    have h8 : ∀ k, S2.2.1 (S.2.2.1 + 1) k = if k = 9 then .null else if k = 8 then .null else if k = 7 then .null else if k = 6 then .null else if k = 5 then .int 0 else if k = 4 then .ref (S.2.2.1 + 2) else if k = 3 then .int 0 else if k = 2 then .int 0 else if k = 1 then .int (nI (m_nM A)) else if k = 0 then .int (-1) else defaultValue (sm_fT 8 k) := by
      intro k
      rw [hS2]
      unfold s_tree
      rw [st_n _ _ _ (by omega)]
      refine (hd.1 k).trans ?_
      rw [nw_s _ _ _ _ (by rfl)]
      rfl
    have h9 : ∀ k, S2.2.1 (S.2.2.1 + 2) k = .null := by
      intro k
      rw [hS2]
      unfold s_tree
      rw [st_n _ _ _ (by omega)]
      exact hd.2.1 k
    have n7 : ¬ X.2.1 7 (m_nM A) := fun q => Nat.lt_irrefl _ ((hX 7 _).mp q)
    have n8 : ¬ X.2.1 8 (1000 + m_nM A) := fun q => by
      have q2 : c_lvD A (1000 + m_nM A) := (hX 8 _).mp q
      unfold c_lvD at q2
      omega
    have n34 : ¬ X.2.1 34 (1000 + m_nM A) := fun q => by
      have q2 : c_lvD A (1000 + m_nM A) := (hX 34 _).mp q
      unfold c_lvD at q2
      omega
    have hc1 := (hS.re hfS hx).addD (i := 1000 + m_nM A) (a := S.2.2.1 + 1) (l := S.2.2.1 + 2) n8 n34 (c_nlt X hS hfS (by omega)) (c_nlt X hS hfS (by omega)) (by omega) hk8 hk9 h8 h9
    have hcr := hc1.add (s := 7) (i := m_nM A) (a := S.2.2.1) (f := fun k => if k = 0 then nI z else 0) (g := fun k => if k = 1 then some (1000 + m_nM A) else none)
      (by
        rintro ((q | q) | q)
        · exact n7 q
        · exact absurd q.1 (by decide)
        · exact absurd q.1 (by decide))
      (fun s' i' q => by
        by_cases e8 : s' = 8 ∧ i' = 1000 + m_nM A
        · obtain ⟨rfl, rfl⟩ := e8
          rw [x_up_s]; omega
        · rw [x_up_n _ _ e8]
          by_cases e9 : s' = 34 ∧ i' = 1000 + m_nM A
          · obtain ⟨rfl, rfl⟩ := e9
            rw [x_up_s]; omega
          · rw [x_up_n _ _ e9]
            rcases q with (q | q) | q
            · exact c_nlt X hS hfS (Nat.le_refl _) s' i' q
            · exact absurd q e9
            · exact absurd q e8)
      hkd
      (fun k r _ => by
        match k, r with
        | 0, _ => rw [hat]; rfl
        | k + 1, r => cases r)
      (fun k t r => by
        match k, r with
        | 0, r => cases r
        | 1, r =>
          cases r
          refine ⟨?_, fun j hj => by cases hj; exact Or.inr ⟨rfl, rfl⟩⟩
          rw [hat]
          exact (congrArg Value.ref (x_up_s _ _ _ _)).symm
        | k + 2, _ =>
          rw [hat, if_neg (by omega), if_neg (by omega), if_neg (by omega)]
          exact ⟨rfl, fun j hj => by cases hj⟩)
      (fun k t r => by cases r)
    have hgr : c_gr X (x_up (x_up (x_up (x_at X S2) 34 (1000 + m_nM A) (S.2.2.1 + 2)) 8 (1000 + m_nM A) (S.2.2.1 + 1)) 7 (m_nM A) S.2.2.1) S2 := by
      have e := hS.nx
      exact (((hS.gre hf hx (by decide) (by decide)).up (by omega) (by omega)).up (by omega) (by omega)).up (by omega) (by omega)
    have ea : cv (x_up (x_up (x_up (x_at X S2) 34 (1000 + m_nM A) (S.2.2.1 + 2)) 8 (1000 + m_nM A) (S.2.2.1 + 1)) 7 (m_nM A) S.2.2.1) 0 (some 0) = .ref (X.1 0 0) := congrArg Value.ref (by rw [x_up_n _ _ (by omega), x_up_n _ _ (by omega), x_up_n _ _ (by omega)]; rfl)
    have eb : cv (x_up (x_up (x_up (x_at X S2) 34 (1000 + m_nM A) (S.2.2.1 + 2)) 8 (1000 + m_nM A) (S.2.2.1 + 1)) 7 (m_nM A) S.2.2.1) 7 (some (m_nM A)) = .ref S.2.2.1 := congrArg Value.ref (x_up_s _ _ _ _)
    have ec : cv (x_up (x_up (x_up (x_at X S2) 34 (1000 + m_nM A) (S.2.2.1 + 2)) 8 (1000 + m_nM A) (S.2.2.1 + 1)) 7 (m_nM A) S.2.2.1) 21 (some 0) = .ref (X.1 21 0) := congrArg Value.ref (by rw [x_up_n _ _ (by omega), x_up_n _ _ (by omega), x_up_n _ _ (by omega)]; rfl)
    have lv : ∀ s i, (x_up (x_up (x_up (x_at X S2) 34 (1000 + m_nM A) (S.2.2.1 + 2)) 8 (1000 + m_nM A) (S.2.2.1 + 1)) 7 (m_nM A) S.2.2.1).2.1 s i ↔ (((X.2.1 s i ∨ (s = 34 ∧ i = 1000 + m_nM A)) ∨ (s = 8 ∧ i = 1000 + m_nM A)) ∨ (s = 7 ∧ i = m_nM A)) := fun s i => Iff.rfl
    have h22 : (x_up (x_up (x_up (x_at X S2) 34 (1000 + m_nM A) (S.2.2.1 + 2)) 8 (1000 + m_nM A) (S.2.2.1 + 1)) 7 (m_nM A) S.2.2.1).2.2 = S2 := rfl
    generalize x_up (x_up (x_up (x_at X S2) 34 (1000 + m_nM A) (S.2.2.1 + 2)) 8 (1000 + m_nM A) (S.2.2.1 + 1)) 7 (m_nM A) S.2.2.1 = X' at hcr hgr ea eb ec lv h22
    generalize hT' : t_up (t_up (t_up T 34 (1000 + m_nM A) (fun _ => 0) (fun _ => none)) 8 (1000 + m_nM A) (fun k => if k = 5 then 0 else if k = 3 then 0 else if k = 2 then 0 else if k = 1 then nI (m_nM A) else if k = 0 then -1 else 0) (fun _ => none)) 7 (m_nM A) (fun k => if k = 0 then nI z else 0) (fun k => if k = 1 then some (1000 + m_nM A) else none) = T' at hcr
    have fin := bc5_42 (ext := ext) (X := X') (T := T') (d := 3) (a0 := 0) (ak0 := 0) (x1 := nI z) (x2 := nI (m_nM A)) (xk1 := nI (m_nM A)) (rk2 := some (m_nM A)) (i_3 := m_nM A) (Q := cQn X (fun v X' T' => v = w.1 ∧ c_X w.2 X' ∧ c_RA w.2 T')) ((lv _ _).mpr (Or.inl (Or.inl (Or.inl l0)))) ((lv _ _).mpr (Or.inl (Or.inl (Or.inl l21)))) rfl q (fun j hj => by cases hj; exact (lv _ _).mpr (Or.inr ⟨rfl, rfl⟩)) (cQn.g (by rw [h22]; exact hgr) ?_) S2 hcr
    · rw [ea, eb, ec] at fin
      exact fin
    · rw [← hv]
      have o1 : ∀ s, s ∉ [7, 8, 34] → T'.1 s = T.1 s ∧ T'.2 s = T.2 s := fun s hs => by
        simp only [List.mem_cons, List.not_mem_nil, or_false, not_or] at hs
        rw [← hT', t_up_k1 _ _ _ _ hs.1, t_up_k2 _ _ _ _ hs.1, t_up_k1 _ _ _ _ hs.2.1, t_up_k2 _ _ _ _ hs.2.1, t_up_k1 _ _ _ _ hs.2.2, t_up_k2 _ _ _ _ hs.2.2]
        exact ⟨rfl, rfl⟩
      refine ⟨rfl, fun s i => ?_, c_RA_map hI h ?_ (fun k hk => ?_) ?_ (fun k hk => ?_) ⟨?_, ?_⟩ (fun i hi => ⟨?_, ?_⟩) ⟨?_, ?_, ?_, ?_⟩ (fun i hi => ⟨?_, ?_⟩) (fun i hi => ?_) (fun s hs => ?_)⟩
      · rw [lv, hX s i]
        by_cases e7 : s = 7
        · subst e7
          show (((i < m_nM A ∨ _) ∨ _) ∨ _) ↔ i < m_nM A + 1
          omega
        by_cases e8 : s = 8
        · subst e8
          show (((c_lvD A i ∨ _) ∨ _) ∨ _) ↔ (i < m_nD A ∨ (1000 ≤ i ∧ i < 1000 + (m_nM A + 1)))
          unfold c_lvD
          omega
        by_cases e34 : s = 34
        · subst e34
          show (((c_lvD A i ∨ _) ∨ _) ∨ _) ↔ (i < m_nD A ∨ (1000 ≤ i ∧ i < 1000 + (m_nM A + 1)))
          unfold c_lvD
          omega
        · constructor
          · rintro (((a | a) | a) | a)
            · unfold c_lv at a ⊢
              split at a
              · exact a
              · exact absurd rfl e7
              · exact absurd rfl e8
              · exact absurd rfl e34
              all_goals exact a
            · exact absurd a.1 e34
            · exact absurd a.1 e8
            · exact absurd a.1 e7
          · intro a
            refine Or.inl (Or.inl (Or.inl ?_))
            unfold c_lv at a ⊢
            split at a
            · exact a
            · exact absurd rfl e7
            · exact absurd rfl e8
            · exact absurd rfl e34
            all_goals exact a
      · rw [iset_s]
        show T'.1 0 0 3 + 1 = _
        rw [(o1 0 (by decide)).1, h.1.1.2.1, nI_1]
      · rw [iset_n _ _ (by omega)]
        show T'.1 0 0 k = _
        rw [(o1 0 (by decide)).1]
      · show (oset T' 21 0 (m_nM A) (some (m_nM A))).2 21 0 (m_nM A) = _
        rw [oset_s]
      · show (oset T' 21 0 (m_nM A) (some (m_nM A))).2 21 0 k = _
        rw [oset_n _ _ (by omega), (o1 21 (by decide)).2]
      · rw [iset_n _ _ (by omega)]
        show T'.1 7 (m_nM A) 0 = _
        rw [← hT', t_up_s1]; rfl
      · show (oset T' 21 0 (m_nM A) (some (m_nM A))).2 7 (m_nM A) 1 = _
        rw [oset_n _ _ (by omega), ← hT', t_up_s2]; rfl
      · funext k
        rw [iset_n _ _ (by omega)]
        show T'.1 7 i k = _
        rw [← hT', t_up_n1 _ _ _ (by omega), t_up_n1 _ _ _ (by omega), t_up_n1 _ _ _ (by omega)]
      · funext k
        show (oset T' 21 0 (m_nM A) (some (m_nM A))).2 7 i k = _
        rw [oset_n _ _ (by omega), ← hT', t_up_n2 _ _ _ (by omega), t_up_n2 _ _ _ (by omega), t_up_n2 _ _ _ (by omega)]
      · rw [iset_n _ _ (by omega)]
        show T'.1 8 (1000 + m_nM A) 0 = _
        rw [← hT', t_up_n1 _ _ _ (by omega), t_up_s1]; rfl
      · rw [iset_n _ _ (by omega)]
        show T'.1 8 (1000 + m_nM A) 1 = _
        rw [← hT', t_up_n1 _ _ _ (by omega), t_up_s1]; rfl
      · show (oset T' 21 0 (m_nM A) (some (m_nM A))).2 8 (1000 + m_nM A) 7 = _
        rw [oset_n _ _ (by omega), ← hT', t_up_n2 _ _ _ (by omega), t_up_s2]
      · show (oset T' 21 0 (m_nM A) (some (m_nM A))).2 8 (1000 + m_nM A) 9 = _
        rw [oset_n _ _ (by omega), ← hT', t_up_n2 _ _ _ (by omega), t_up_s2]
      · funext k
        rw [iset_n _ _ (by omega)]
        show T'.1 8 i k = _
        rw [← hT', t_up_n1 _ _ _ (by omega), t_up_n1 _ _ _ (by omega), t_up_n1 _ _ _ (by omega)]
      · funext k
        show (oset T' 21 0 (m_nM A) (some (m_nM A))).2 8 i k = _
        rw [oset_n _ _ (by omega), ← hT', t_up_n2 _ _ _ (by omega), t_up_n2 _ _ _ (by omega), t_up_n2 _ _ _ (by omega)]
      · funext k
        show (oset T' 21 0 (m_nM A) (some (m_nM A))).2 34 i k = _
        rw [oset_n _ _ (by omega), ← hT', t_up_n2 _ _ _ (by omega), t_up_n2 _ _ _ (by omega), t_up_n2 _ _ _ (by omega)]
      · have hs' := hs
        simp only [List.mem_cons, List.not_mem_nil, or_false, not_or] at hs
        have o := o1 s (by simp only [List.mem_cons, List.not_mem_nil, or_false, not_or]; exact ⟨hs.2.1, hs.2.2.1, hs.2.2.2.2⟩)
        rw [iset_k _ _ _ _ hs.1, ← o.1, ← o.2]
        refine ⟨rfl, ?_⟩
        show (oset T' 21 0 (m_nM A) (some (m_nM A))).2 s = _
        rw [oset_k _ _ _ _ hs.2.2.2.1]
  refine bc5_0 (fun q => go 0 (by rw [q]; rfl) (by decide)) (fun q => bc5_4 (fun q2 => go 1 (by rw [q2]; rfl) (by decide)) (fun q2 => ?_))
  refine bc5_9 (cQn.e hf ?_)
  rw [if_neg] at hv
  · rw [← hv]; exact ⟨rfl, hX, h⟩
  · rintro ⟨a, b⟩
    have e := nI_32 n a
    have b2 := nI_33 (n := 1) a b (by decide)
    rcases Nat.lt_or_ge n.toNatClampNeg 1 with c | c
    · exact q (by rw [e, show n.toNatClampNeg = 0 by omega]; rfl)
    · exact q2 (by rw [e, show n.toNatClampNeg = 1 by omega]; rfl)
end CMP
