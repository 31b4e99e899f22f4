/-! THE CLASS'S READING -/
theorem iset_iset (T : cT) (s i k : Nat) (x y : Int32) : iset (iset T s i k x) s i k y = iset T s i k y := by
  refine Prod.ext ?_ rfl
  funext s' i' k'
  by_cases q : s' = s ∧ i' = i ∧ k' = k
  · obtain ⟨rfl, rfl, rfl⟩ := q
    rw [iset_s, iset_s]
  · rw [iset_n _ _ q, iset_n _ _ q, iset_n _ _ q]
theorem iset_id (T : cT) (s i k : Nat) : iset T s i k (T.1 s i k) = T := by
  refine Prod.ext ?_ rfl
  funext s' i' k'
  by_cases q : s' = s ∧ i' = i ∧ k' = k
  · obtain ⟨rfl, rfl, rfl⟩ := q
    rw [iset_s]
  · rw [iset_n _ _ q]
def c_tp (A : mS) (m : Nat) (ro : List Nat) : Nat ⊕ Nat := match ro with
  | [] => .inr m
  | r :: _ => (match m_rp A r with
    | some y => .inl y
    | none => .inr m)
theorem c_tp_c {A : mS} {m r y : Nat} (ro : List Nat) (h : m_rp A r = some y) : c_tp A m (r :: ro) = .inl y := by
  show (match m_rp A r with
    | some y => (.inl y : Nat ⊕ Nat)
    | none => .inr m) = _
  rw [h]
def c_sk (A : mS) (top : Nat ⊕ Nat) (x : Nat) (st : List Nat) : Prop := ((.inl x : Nat ⊕ Nat) = top ∧ st = []) ∨ c_stk A top (m_depth A x + 1) x st
/-- what is still to come of the readings that are open: the innermost first -/
def c_rem (A : mS) (m : Nat) : List Nat → List (Nat × Option Nat) → Prop
  | [], pl => pl = []
  | r :: ro, pl => ∃ st pl', r < m_nD A ∧ (∃ y, m_rp A r = some y) ∧ c_sk A (c_tp A m ro) r st ∧ pl = st.map (fun x => (x, ro.getLast?)) ++ pl' ∧ c_rem A m ro pl'
def c_cu (A : mS) (top : Nat ⊕ Nat) (st : List Nat) : Prop := ∀ x st', st = x :: st' → x < m_nD A ∧ c_sk A top x st'
def c_op (T : cT) (ro : List Nat) : Prop := T.1 2 0 5 = nI ro.length ∧ ∀ i r, ro.reverse[i]? = some r → T.2 28 0 i = some r
def c_cnt (vs : List (Nat × Nat)) (d : Nat) : Nat := (vs.filter (fun v => decide (v.1 = d))).length
def c_met (A : mS) (T : cT) (vs : List (Nat × Nat)) : Prop := T.1 2 0 2 = nI vs.length ∧ (∀ i v, vs[i]? = some v → T.2 25 0 i = some v.1 ∧ T.2 26 0 i = some v.2) ∧ ∀ d, d < m_nD A → T.1 27 0 d = nI (c_cnt vs d)
theorem c_cu_of {A : mS} {top : Nat ⊕ Nat} {st : List Nat} (h : c_cur A top st) : c_cu A top st := fun x st' e => ⟨(h x st' e).1, Or.inr (h x st' e).2⟩
theorem c_cu_s {A : mS} (hI : m_J A) {top : Nat ⊕ Nat} {x : Nat} {st : List Nat} (hx : x < m_nD A) (h : c_sk A top x st) : c_cu A top (m_kids A (.inl x) ++ st) := by
  rcases h with ⟨rfl, rfl⟩ | h
  · rw [List.append_nil]
    exact c_cu_of (c_cur_0 _)
  · exact c_cu_of (c_cur_s hI hx h)
theorem c_stk_rk {A : mS} {rk : Nat → Nat} (hr : m_Rk A rk) (hI : m_J A) {t : Nat} : ∀ (n x : Nat) (st : List Nat), x < m_nD A → c_stk A (.inl t) n x st → rk x < rk t
  | 0, _, _, _, h => h.elim
  | n + 1, x, st, hx, h => by
    obtain ⟨l1, l2, -, h | ⟨p, st', h1, -, -, h2⟩⟩ := h
    · exact (hr x hx).2.1 t (c_pa_un h.1)
    · have e := c_pa_un h1
      have := c_stk_rk hr hI n p st' (hI.un hx e) h2
      have := (hr x hx).2.1 p e
      omega
theorem c_sk_rk {A : mS} {rk : Nat → Nat} (hr : m_Rk A rk) (hI : m_J A) {t x : Nat} {st : List Nat} (hx : x < m_nD A) (h : c_sk A (.inl t) x st) : rk x ≤ rk t := by
  rcases h with ⟨e, -⟩ | h
  · rw [Sum.inl.inj e]; exact Nat.le_refl _
  · exact Nat.le_of_lt (c_stk_rk hr hI _ x st hx h)
/-- one that may be read now is lower than all that are open -/
theorem c_rem_rk {A : mS} {rk : Nat → Nat} (hr : m_Rk A rk) (hI : m_J A) {m : Nat} : ∀ (ro : List Nat) (pl : List (Nat × Option Nat)) (x : Nat) (st : List Nat), x < m_nD A → c_rem A m ro pl → c_sk A (c_tp A m ro) x st → (x :: ro).Pairwise (fun a b => rk a < rk b) ∧ ∀ z ∈ x :: ro, z < m_nD A
  | [], pl, x, st, hx, _, _ => ⟨List.pairwise_singleton _ _, fun z hz => by rw [List.mem_singleton.mp hz]; exact hx⟩
  | r :: ro, pl, x, st, hx, h, hs => by
    obtain ⟨st', pl', hrl, ⟨y, hy⟩, hsk, -, hrem⟩ := h
    obtain ⟨h1, h2⟩ := c_rem_rk hr hI ro pl' r st' hrl hrem hsk
    have e : c_tp A m (r :: ro) = .inl y := c_tp_c ro hy
    rw [e] at hs
    have a1 := c_sk_rk hr hI hx hs
    have a2 := (hr r hrl).2.2 y hy
    refine ⟨List.pairwise_cons.mpr ⟨fun z hz => ?_, h1⟩, fun z hz => ?_⟩
    · rcases List.mem_cons.mp hz with rfl | hz
      · omega
      · have := (List.pairwise_cons.mp h1).1 z hz
        omega
    · rcases List.mem_cons.mp hz with rfl | hz
      · exact hx
      · exact h2 z hz
theorem c_rem_len {A : mS} (hI : m_Inv A) {m : Nat} {ro : List Nat} {pl : List (Nat × Option Nat)} {x : Nat} {st : List Nat} (hx : x < m_nD A) (h : c_rem A m ro pl) (hs : c_sk A (c_tp A m ro) x st) : ro.length + 1 ≤ m_nD A := by
  obtain ⟨rk, hr⟩ := m_rank hI
  obtain ⟨h1, h2⟩ := c_rem_rk hr hI.J ro pl x st hx h hs
  have := nd_len _ (x :: ro) (h1.imp (fun {a b} q e => by rw [e] at q; omega)) h2
  exact this
theorem m_rp_kids {A : mS} (hI : m_Inv A) {r y : Nat} (h : m_rp A r = some y) : m_kids A (.inl r) = [] := by
  cases hk : m_kids A (.inl r) with
  | nil => rfl
  | cons x l =>
    have hx := m_kid_un (A := A) (x := x) (p := r) (by rw [hk]; exact List.mem_cons_self)
    rw [(hI.2.2.2.2.1 x hx.1 r hx.2).2.2] at h
    cases h
theorem c_tp_ok {A : mS} (hI : m_Inv A) {m : Nat} (hm : m < m_nM A) {ro : List Nat} {pl : List (Nat × Option Nat)} (h : c_rem A m ro pl) : c_ok A (c_tp A m ro) := by
  cases ro with
  | nil => exact hm
  | cons r ro =>
    obtain ⟨st', pl', hrl, ⟨y, hy⟩, -⟩ := h
    have e : c_tp A m (r :: ro) = .inl y := c_tp_c ro hy
    rw [e]
    exact (hI.2.2.2.2.2.1 r hrl y hy).1
section CRd
variable {ext : av_X} {X : cX} {T : cT} {A : mS}
theorem c_next' (hI : m_Inv A) (hX : c_X A X) (h : c_G A T) {top : Nat ⊕ Nat} (ht : c_ok A top) {x : Nat} (hx : x < m_nD A) {st : List Nat} (hs : c_sk A top x st) : cCr ext X 8 0 55 [cv X 8 (some x), cv X 8 (some (c_ix top))] T (fun o T' => T' = T ∧ o = (m_kids A (.inl x) ++ st).head?) := by
  rcases hs with ⟨rfl, rfl⟩ | hs
  · rw [List.append_nil]
    exact c_next0 hX h (top := .inl x) ht
  · exact c_next hI hX h ht hx hs
theorem c_inner (hI : m_Inv A) (hX : c_X A X) (h : c_G A T) {m : Nat} {ro : List Nat} {pl : List (Nat × Option Nat)} (hr : c_rem A m ro pl) (ho : c_op T ro) (hl : ro.length ≤ 120) : cCr ext X 8 0 34 [cv X 2 (some 0), cv X 8 (some (1000 + m))] T (fun o T' => T' = T ∧ o = some (c_ix (c_tp A m ro))) := by
  have l2 := hX.z (s := 2) (by decide)
  refine cCr.of (L := [some (cv X 2 (some 0)), some (cv X 8 (some (1000 + m))), none]) (by rw [ml34]; rfl) ?_
  cases ro with
  | nil =>
    refine bc34_0 l2 (fun _ => bc34_19 (cQr.e ⟨rfl, rfl⟩)) (fun q => absurd (by rw [ho.1]; decide) q)
  | cons r ro =>
    have hl' : ro.length + 1 ≤ 120 := hl
    obtain ⟨st', pl', hrl, ⟨y, hy⟩, -⟩ := hr
    have e : c_tp A m (r :: ro) = .inl y := c_tp_c ro hy
    have h28 : T.2 28 0 ro.length = some r := ho.2 ro.length r (by
      rw [List.reverse_cons, List.getElem?_append_right (by rw [List.length_reverse]; exact Nat.le_refl _), List.length_reverse, Nat.sub_self]
      rfl)
    have h5 : T.1 2 0 5 = nI (ro.length + 1) := ho.1
    refine bc34_0 l2 (fun q => absurd q (by rw [h5]; exact nI_nle (by omega) (by omega))) (fun _ => bc34_7 l2 (fun _ => ?_) (fun q => absurd (by rw [h5]; exact nI_le hl' (by decide)) q))
    refine bc34_21 (i_2 := ro.length) l2 (by rw [h5]; exact nI_pred _) (by omega) (fun q => by rw [h28] at q; cases q) (fun _ _ => ?_)
    rw [h28]
    refine bc34_41 (hX.d hrl) ?_
    rw [(h.2.2.2.1 r hrl).2.2.2.2.2.2.2, hy]
    exact bc34_45 (cQr.e ⟨rfl, by rw [e]; rfl⟩)
/-- behind one that has been read: the next one, wherever it is -/
theorem c_behind (hI : m_Inv A) (hX : c_X A X) (h : c_G A T) {m : Nat} (hm : m < m_nM A) {ro : List Nat} {pl : List (Nat × Option Nat)} (hr : c_rem A m ro pl) (ho : c_op T ro) {x : Nat} (hx : x < m_nD A) {st : List Nat} (hs : c_sk A (c_tp A m ro) x st) :
    cCr ext X 8 1 33 [cv X 2 (some 0), cv X 8 (some x), cv X 8 (some (1000 + m))] T (fun o T' => (∃ k, T' = iset T 2 0 5 k) ∧ ∃ ro' seg' pl', (m_kids A (.inl x) ++ st).map (fun z => (z, ro.getLast?)) ++ pl = seg'.map (fun z => (z, ro'.getLast?)) ++ pl' ∧ c_rem A m ro' pl' ∧ c_op T' ro' ∧ c_cu A (c_tp A m ro') seg' ∧ (seg' = [] → ro' = []) ∧ o = seg'.head?) := by
  have l2 := hX.z (s := 2) (by decide)
  have hD := hI.2.2.1
  have hrl := c_rem_len hI hx hr hs
  refine cCr.of (L := [some (cv X 2 (some 0)), some (cv X 8 (some x)), some (cv X 8 (some (1000 + m))), none, none, none]) (by rw [ml33]; rfl) ?_
  refine bc33_0 l2 (c_inner hI hX h hr ho (by omega)) ?_
  rintro o T1 ⟨rfl, rfl⟩
  refine bc33_6 (hX.d hx) (c_next' hI hX h (c_tp_ok hI hm hr) hx hs) ?_
  rintro o T1 ⟨rfl, rfl⟩
  refine bc33_9 ?_
  generalize hP : (fun (o : Option Nat) (T' : cT) => (∃ k, T' = iset T1 2 0 5 k) ∧ ∃ ro' seg' pl', (m_kids A (.inl x) ++ st).map (fun z => (z, ro.getLast?)) ++ pl = seg'.map (fun z => (z, ro'.getLast?)) ++ pl' ∧ c_rem A m ro' pl' ∧ c_op T' ro' ∧ c_cu A (c_tp A m ro') seg' ∧ (seg' = [] → ro' = []) ∧ o = seg'.head?) = P
  have loop : ∀ (ro1 : List Nat) (k : Nat) (seg : List Nat) (pl1 : List (Nat × Option Nat)) (T2 : cT) (o5 : Option Value), k + ro1.length ≤ 119 → (∃ k, T2 = iset T1 2 0 5 k) → (m_kids A (.inl x) ++ st).map (fun z => (z, ro.getLast?)) ++ pl = seg.map (fun z => (z, ro1.getLast?)) ++ pl1 → c_rem A m ro1 pl1 → c_op T2 ro1 → c_cu A (c_tp A m ro1) seg → cA ext X 1 33 13 [some (cv X 2 (some 0)), some (cv X 8 (some x)), some (cv X 8 (some (1000 + m))), some (cv X 8 seg.head?), some (.int (nI k)), o5] [] T2 (cQr X 8 P) := by
    intro ro1
    induction ro1 with
    | nil =>
      intro k seg pl1 T2 o5 hk hT he hrm hop hcu
      have fin : cA ext X 1 33 78 [some (cv X 2 (some 0)), some (cv X 8 (some x)), some (cv X 8 (some (1000 + m))), some (cv X 8 seg.head?), some (.int (nI k)), o5] [] T2 (cQr X 8 P) := by
        refine bc33_78 (cQr.e ?_)
        rw [← hP]
        exact ⟨hT, [], seg, pl1, he, hrm, hop, hcu, fun _ => rfl, rfl⟩
      exact bc33_13 (fun _ => fin) (fun _ => bc33_20 (fun _ => bc33_24 l2 (fun _ => fin) (fun q => absurd (by rw [hop.1]; decide) q)) (fun _ _ => fin))
    | cons r ro1 ih =>
      intro k seg pl1 T2 o5 hk hT he hrm hop hcu
      have hk' : k + (ro1.length + 1) ≤ 119 := hk
      cases seg with
      | cons z seg =>
        have fin : cA ext X 1 33 78 [some (cv X 2 (some 0)), some (cv X 8 (some x)), some (cv X 8 (some (1000 + m))), some (cv X 8 (z :: seg).head?), some (.int (nI k)), o5] [] T2 (cQr X 8 P) := by
          refine bc33_78 (cQr.e ?_)
          rw [← hP]
          exact ⟨hT, r :: ro1, z :: seg, pl1, he, hrm, hop, hcu, fun q => (by cases q), rfl⟩
        exact bc33_13 (fun _ => fin) (fun _ => bc33_20 (fun q => by cases q) (fun _ _ => fin))
      | nil =>
        obtain ⟨st', pl', hrl', ⟨y, hy⟩, hsk, hpl, hrem⟩ := hrm
        have h5 : T2.1 2 0 5 = nI (ro1.length + 1) := hop.1
        have h28 : T2.2 28 0 ro1.length = some r := hop.2 ro1.length r (by
          rw [List.reverse_cons, List.getElem?_append_right (by rw [List.length_reverse]; exact Nat.le_refl _), List.length_reverse, Nat.sub_self]
          rfl)
        refine bc33_13 (fun q => absurd q (nI_ge (b := 120) (by omega) (by decide))) (fun _ => bc33_20 (fun _ => bc33_24 l2 (fun q => absurd q (by rw [h5]; exact nI_nle (by omega) (by omega))) (fun _ => ?_)) (fun _ q => by cases q))
        have e5 : T2.1 2 0 5 - 1 = nI ro1.length := by rw [h5]; exact nI_pred _
        obtain ⟨T3, hT3⟩ : ∃ T3, iset T2 2 0 5 (nI ro1.length) = T3 := ⟨_, rfl⟩
        have w3 : T3.2 = T2.2 := by rw [← hT3]; rfl
        have w5 : T3.1 2 0 5 = nI ro1.length := by rw [← hT3]; exact iset_s _ _ _ _ _
        have hT3' : ∃ k, T3 = iset T1 2 0 5 k := by
          obtain ⟨k2, rfl⟩ := hT
          refine ⟨nI ro1.length, ?_⟩
          rw [← hT3, iset_iset]
        have g3 : c_G A T3 := by
          obtain ⟨k3, rfl⟩ := hT3'
          exact ((c_sm.rf [2] T1).i _ _ _ (by decide)).G h (by decide)
        have hop3 : c_op T3 ro1 := by
          refine ⟨w5, fun i q hq => ?_⟩
          rw [w3]
          refine hop.2 i q ?_
          rw [List.reverse_cons]
          exact List.getElem?_append_left (List.getElem?_eq_some_iff.mp hq).1 |>.trans hq
        refine bc33_31 (i_2 := ro1.length) l2 (by rw [e5]; exact iset_s _ _ _ _ _) (by omega) (fun q => ?_) (fun _ _ => ?_)
        · rw [iset_2, h28] at q; cases q
        · rw [e5, hT3, w3, h28]
          refine bc33_61 l2 (c_inner hI hX g3 hrem hop3 (by omega)) ?_
          rintro o T4 ⟨rfl, rfl⟩
          refine bc33_68 (hX.d hrl') (c_next' hI hX g3 (c_tp_ok hI hm hrem) hrl' hsk) ?_
          rintro o T5 ⟨rfl, rfl⟩
          refine bc33_71 ?_
          rw [m_rp_kids hI hy, List.nil_append, nI_1]
          refine ih (k + 1) st' pl' T5 _ (by omega) hT3' ?_ hrem hop3 ?_
          · rw [he, hpl]; rfl
          · have := c_cu_s hI.J hrl' hsk
            rw [m_rp_kids hI hy, List.nil_append] at this
            exact this
  have hT0 : ∃ k, T1 = iset T1 2 0 5 k := ⟨_, (iset_id T1 2 0 5).symm⟩
  exact loop ro 0 _ pl T1 _ (by omega) hT0 rfl hr ho (c_cu_s hI.J hx hs)
end CRd
