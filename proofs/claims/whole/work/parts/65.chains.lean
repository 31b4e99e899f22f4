/-! CHAINS: taking one in, dropping one -/
theorem c_chn_iff {T : cT} {s k : Nat} {l : List Nat} : c_chn T s k l ↔ ∀ i x, l[i]? = some x → T.2 s x k = l[i + 1]? := by
  constructor
  · intro h i x hx
    have hi := (List.getElem?_eq_some_iff.mp hx).1
    have e : l = l.take i ++ x :: l.drop (i + 1) := by
      have e1 := (List.getElem?_eq_some_iff.mp hx).2
      rw [← e1, ← List.drop_eq_getElem_cons hi, List.take_append_drop]
    rw [h _ x _ e, List.head?_drop]
  · intro h l1 x l2 e
    have := h l1.length x (by rw [e, List.getElem?_append_right (Nat.le_refl _), Nat.sub_self]; rfl)
    rw [this, e, List.getElem?_append_right (by omega), show l1.length + 1 - l1.length = 0 + 1 by omega, List.getElem?_cons_succ, List.head?_eq_getElem?]
theorem last_at {l : List Nat} {b : Nat} (h : l.getLast? = some b) : 0 < l.length ∧ l[l.length - 1]? = some b := by
  rw [List.getLast?_eq_getElem?] at h
  have := (List.getElem?_eq_some_iff.mp h).1
  exact ⟨by omega, h⟩
theorem nd_ix {l : List Nat} (h : l.Nodup) {i j x : Nat} (hi : l[i]? = some x) (hj : l[j]? = some x) : i = j := by
  obtain ⟨a, b⟩ := List.getElem?_eq_some_iff.mp hi
  obtain ⟨c, d⟩ := List.getElem?_eq_some_iff.mp hj
  have : l[i] = l[j] := by rw [b, d]
  have hp := List.pairwise_iff_getElem.mp h
  rcases Nat.lt_trichotomy i j with q | q | q
  · exact absurd this (hp i j a c q)
  · exact q
  · exact absurd this.symm (hp j i c a q)
theorem app_lt {l1 l2 : List Nat} {i : Nat} (h : i < l1.length) : (l1 ++ l2)[i]? = l1[i]? := List.getElem?_append_left h
theorem app_ge {l1 l2 : List Nat} (i : Nat) : (l1 ++ l2)[l1.length + i]? = l2[i]? := by
  rw [List.getElem?_append_right (by omega), Nat.add_sub_cancel_left]
theorem chn_ins {g g' : Nat → Option Nat} {l1 l2 : List Nat} {d : Nat} (hg : ∀ i x, (l1 ++ l2)[i]? = some x → g x = (l1 ++ l2)[i + 1]?) (hnd : (l1 ++ l2).Nodup) (hd : d ∉ l1 ++ l2) (h1 : g' d = l2.head?) (h2 : ∀ b, l1.getLast? = some b → g' b = some d) (h3 : ∀ x, x ≠ d → l1.getLast? ≠ some x → g' x = g x) : ∀ i x, (l1 ++ d :: l2)[i]? = some x → g' x = (l1 ++ d :: l2)[i + 1]? := by
  intro i x hx
  by_cases c1 : i < l1.length
  · rw [app_lt c1] at hx
    have hx' : (l1 ++ l2)[i]? = some x := by rw [app_lt c1]; exact hx
    have hxd : x ≠ d := fun e => hd (e ▸ List.mem_of_getElem? hx')
    by_cases c2 : i + 1 = l1.length
    · have e : l1.getLast? = some x := by rw [List.getLast?_eq_getElem?, show l1.length - 1 = i by omega]; exact hx
      rw [h2 x e, c2]
      exact (app_ge (l1 := l1) (l2 := d :: l2) 0).symm
    · rw [h3 x hxd (fun e => ?_), hg i x hx', app_lt (by omega), app_lt (by omega)]
      obtain ⟨e1, e2⟩ := last_at e
      have := nd_ix hnd hx' (j := l1.length - 1) (by rw [app_lt (by omega)]; exact e2)
      omega
  · obtain ⟨j, rfl⟩ : ∃ j, i = l1.length + j := ⟨i - l1.length, by omega⟩
    rw [app_ge] at hx
    rw [show l1.length + j + 1 = l1.length + (j + 1) by omega, app_ge, List.getElem?_cons_succ]
    cases j with
    | zero =>
      cases hx
      rw [h1, List.head?_eq_getElem?]
    | succ j =>
      rw [List.getElem?_cons_succ] at hx
      have hx' : (l1 ++ l2)[l1.length + j]? = some x := by rw [app_ge]; exact hx
      have hxd : x ≠ d := fun e => hd (e ▸ List.mem_of_getElem? hx')
      rw [h3 x hxd (fun e => ?_), hg _ x hx', show l1.length + j + 1 = l1.length + (j + 1) by omega, app_ge]
      obtain ⟨e1, e2⟩ := last_at e
      have := nd_ix hnd hx' (j := l1.length - 1) (by rw [app_lt (by omega)]; exact e2)
      omega
theorem chn_del {g g' : Nat → Option Nat} {l1 l2 : List Nat} {d : Nat} (hg : ∀ i x, (l1 ++ d :: l2)[i]? = some x → g x = (l1 ++ d :: l2)[i + 1]?) (hnd : (l1 ++ d :: l2).Nodup) (h2 : ∀ b, l1.getLast? = some b → g' b = l2.head?) (h3 : ∀ x, x ≠ d → l1.getLast? ≠ some x → g' x = g x) : ∀ i x, (l1 ++ l2)[i]? = some x → g' x = (l1 ++ l2)[i + 1]? := by
  intro i x hx
  by_cases c1 : i < l1.length
  · rw [app_lt c1] at hx
    have hx' : (l1 ++ d :: l2)[i]? = some x := by rw [app_lt c1]; exact hx
    have hxd : x ≠ d := fun e => by
      have := nd_ix hnd hx' (j := l1.length) (by rw [e]; exact app_ge 0)
      omega
    by_cases c2 : i + 1 = l1.length
    · have e : l1.getLast? = some x := by rw [List.getLast?_eq_getElem?, show l1.length - 1 = i by omega]; exact hx
      rw [h2 x e, c2, List.head?_eq_getElem?]
      exact (app_ge 0).symm
    · rw [h3 x hxd (fun e => ?_), hg i x hx', app_lt (by omega), app_lt (by omega)]
      obtain ⟨e1, e2⟩ := last_at e
      have := nd_ix hnd hx' (j := l1.length - 1) (by rw [app_lt (by omega)]; exact e2)
      omega
  · obtain ⟨j, rfl⟩ : ∃ j, i = l1.length + j := ⟨i - l1.length, by omega⟩
    rw [app_ge] at hx
    have hx' : (l1 ++ d :: l2)[l1.length + (j + 1)]? = some x := by rw [app_ge, List.getElem?_cons_succ]; exact hx
    have hxd : x ≠ d := fun e => by
      have := nd_ix hnd hx' (j := l1.length) (by rw [e]; exact app_ge 0)
      omega
    rw [h3 x hxd (fun e => ?_), hg _ x hx', show l1.length + (j + 1) + 1 = l1.length + (j + 1 + 1) by omega, app_ge, List.getElem?_cons_succ, show l1.length + j + 1 = l1.length + (j + 1) by omega, app_ge]
    obtain ⟨e1, e2⟩ := last_at e
    have := nd_ix hnd hx' (j := l1.length - 1) (by rw [app_lt (by omega)]; exact e2)
    omega
noncomputable def m_ltB (od : Nat → Nat) (x y : Nat) : Bool := @decide (m_lt od x y) (Classical.propDecidable _)
theorem m_ltB_iff {od : Nat → Nat} {x y : Nat} : m_ltB od x y = true ↔ m_lt od x y := @decide_eq_true_iff _ (Classical.propDecidable _)
/-- what taking or dropping keeps -/
def c_kp (d c : Nat) (K : List Nat) (T T' : cT) : Prop := T'.1 = T.1 ∧ (∀ s, s ≠ 8 → T'.2 s = T.2 s) ∧ (∀ i k, k ≠ 6 → k ≠ 7 → k ≠ 8 → T'.2 8 i k = T.2 8 i k) ∧ (∀ i, i ≠ d → T'.2 8 i 6 = T.2 8 i 6) ∧ (∀ i, i ≠ c → T'.2 8 i 7 = T.2 8 i 7) ∧ (∀ i, i ≠ d → i ∉ K → T'.2 8 i 8 = T.2 8 i 8)
section CT
variable {ext : av_X} {X : cX} {T : cT}
theorem c_before {od : Nat → Nat} {a b : Nat} (la : X.2.1 8 a) (lb : X.2.1 8 b) (ha : T.1 8 a 0 = nI a ∧ T.1 8 a 2 = nI (od a) ∧ a < 1000000 ∧ od a < 1000000) (hb : T.1 8 b 0 = nI b ∧ T.1 8 b 2 = nI (od b) ∧ b < 1000000 ∧ od b < 1000000) : cCi ext X 0 52 [cv X 8 (some a), cv X 8 (some b)] T (fun v T' => T' = T ∧ v = bI (m_ltB od a b)) := by
  refine cCi.of (L := [some (cv X 8 (some a)), some (cv X 8 (some b))]) (by rw [ml52]; rfl) ?_
  obtain ⟨a1, a2, a3, a4⟩ := ha
  obtain ⟨b1, b2, b3, b4⟩ := hb
  have yes : m_lt od a b → (1 : Int32) = bI (m_ltB od a b) := fun h => by rw [m_ltB_iff.mpr h]; rfl
  have no : ¬ m_lt od a b → (0 : Int32) = bI (m_ltB od a b) := fun h => by
    cases e : m_ltB od a b with
    | false => rfl
    | true => exact absurd (m_ltB_iff.mp e) h
  refine bc52_0 la lb (fun q => ?_) (fun q => ?_)
  · rw [a2, b2, nI_eq (by omega) (by omega)] at q
    refine bc52_30 la lb (fun q2 => ?_) (fun q2 => ?_)
    · rw [a1, b1, nI_leI (by omega) (by omega)] at q2
      exact bc52_45 (bc52_46 (Or.inl rfl) (cQi.e ⟨rfl, no (fun z => by unfold m_lt at z; omega)⟩))
    · rw [a1, b1, nI_leI (by omega) (by omega)] at q2
      exact bc52_41 (bc52_46 (Or.inr rfl) (cQi.e ⟨rfl, yes (Or.inr ⟨q, by omega⟩)⟩))
  · rw [a2, b2, nI_eq (by omega) (by omega)] at q
    refine bc52_11 la lb (fun q2 => ?_) (fun q2 => ?_)
    · rw [a2, b2, nI_leI (by omega) (by omega)] at q2
      exact bc52_26 (bc52_46 (Or.inl rfl) (cQi.e ⟨rfl, no (fun z => by unfold m_lt at z; omega)⟩))
    · rw [a2, b2, nI_leI (by omega) (by omega)] at q2
      exact bc52_22 (bc52_46 (Or.inr rfl) (cQi.e ⟨rfl, yes (Or.inl (by omega))⟩))
theorem c_take {od : Nat → Nat} {d c : Nat} {K : List Nat} (ld : X.2.1 8 d) (lc : X.2.1 8 c) (lK : ∀ x ∈ K, X.2.1 8 x) (hn : ∀ x, (x = d ∨ x ∈ K) → T.1 8 x 0 = nI x ∧ T.1 8 x 2 = nI (od x) ∧ x < 1000000 ∧ od x < 1000000) (hnd : K.Nodup) (hd : d ∉ K) (hl : K.length < 120) (h7 : T.2 8 c 7 = K.head?) (h8 : c_chn T 8 8 K) :
    cCv ext X 1 51 [cv X 8 (some c), cv X 8 (some d)] T (fun T' => c_kp d c K T T' ∧ T'.2 8 d 6 = some c ∧ ∃ l1 l2, K = l1 ++ l2 ∧ (∀ x ∈ l1, m_lt od x d) ∧ (∀ x l, l2 = x :: l → ¬ m_lt od x d) ∧ T'.2 8 c 7 = (l1 ++ d :: l2).head? ∧ c_chn T' 8 8 (l1 ++ d :: l2)) := by
  refine cCv.of (L := [some (cv X 8 (some c)), some (cv X 8 (some d)), none, none, none]) (by rw [ml51]; rfl) ?_
  refine bc51_0 lc ?_
  rw [h7]
  generalize hQ : cQv X (fun T' => c_kp d c K T T' ∧ T'.2 8 d 6 = some c ∧ ∃ l1 l2, K = l1 ++ l2 ∧ (∀ x ∈ l1, m_lt od x d) ∧ (∀ x l, l2 = x :: l → ¬ m_lt od x d) ∧ T'.2 8 c 7 = (l1 ++ d :: l2).head? ∧ c_chn T' 8 8 (l1 ++ d :: l2)) = Q
  rw [c_chn_iff] at h8
  -- where it goes
  have fin : ∀ (l1 l2 : List Nat) (x4 : Int32), K = l1 ++ l2 → (∀ x ∈ l1, m_lt od x d) → (∀ x l, l2 = x :: l → ¬ m_lt od x d) → cA ext X 1 51 42 [some (cv X 8 (some c)), some (cv X 8 (some d)), some (cv X 8 l1.getLast?), some (cv X 8 l2.head?), some (.int x4)] [] T Q := by
    intro l1 l2 x4 he hlt hge
    subst he
    obtain ⟨T1, hT1⟩ : ∃ T1, oset (oset T 8 d 6 (some c)) 8 d 8 l2.head? = T1 := ⟨_, rfl⟩
    have f1 : T1.1 = T.1 := by rw [← hT1]; rfl
    have fs : ∀ s, s ≠ 8 → T1.2 s = T.2 s := fun s hs => by rw [← hT1, oset_k _ _ _ _ hs, oset_k _ _ _ _ hs]
    have fd6 : T1.2 8 d 6 = some c := by rw [← hT1, oset_n _ _ (by omega), oset_s]
    have fd8 : T1.2 8 d 8 = l2.head? := by rw [← hT1, oset_s]
    have fo : ∀ i k, ¬ (i = d ∧ (k = 6 ∨ k = 8)) → T1.2 8 i k = T.2 8 i k := fun i k hk => by rw [← hT1, oset_n _ _ (by omega), oset_n _ _ (by omega)]
    refine bc51_42 ld (fun j hj => by cases hj; exact lc) (fun j hj => lK j (by
      cases l2 with
      | nil => cases hj
      | cons y l2 => cases hj; simp)) (fun q => ?_) (fun b q => ?_)
    · have e1 : l1 = [] := List.getLast?_eq_none_iff.mp q
      subst e1
      rw [hT1]
      refine bc51_56 lc (fun j hj => by cases hj; exact ld) (bc51_69 ?_)
      rw [← hQ]
      refine cQv.e ⟨⟨f1, fun s hs => by rw [oset_k _ _ _ _ hs, fs s hs], fun i k k6 k7 k8 => ?_, fun i hi => ?_, fun i hi => ?_, fun i hi _ => ?_⟩, ?_, [], l2, rfl, hlt, hge, ?_, ?_⟩
      · rw [oset_n _ _ (by omega), fo i k (by omega)]
      · rw [oset_n _ _ (by omega), fo i 6 (by omega)]
      · rw [oset_n _ _ (by omega), fo i 7 (by omega)]
      · rw [oset_n _ _ (by omega), fo i 8 (by omega)]
      · rw [oset_n _ _ (by omega), fd6]
      · rw [oset_s]; rfl
      · rw [c_chn_iff]
        refine chn_ins (g := fun x => T.2 8 x 8) (g' := fun x => (oset T1 8 c 7 (some d)).2 8 x 8) h8 hnd hd ?_ (fun b hb => by cases hb) (fun x hx _ => ?_)
        · show (oset T1 8 c 7 (some d)).2 8 d 8 = _
          rw [oset_n _ _ (by omega), fd8]
        · show (oset T1 8 c 7 (some d)).2 8 x 8 = _
          rw [oset_n _ _ (by omega), fo x 8 (by omega)]
    · rw [hT1, q]
      have hb : b ∈ l1 ++ l2 := List.mem_append_left _ (List.mem_of_getLast? q)
      have hbd : b ≠ d := fun e => hd (e ▸ hb)
      have hl1 : l1 ≠ [] := fun e => by rw [e] at q; cases q
      refine bc51_64 (lK b hb) (fun j hj => by cases hj; exact ld) (bc51_69 ?_)
      rw [← hQ]
      refine cQv.e ⟨⟨f1, fun s hs => by rw [oset_k _ _ _ _ hs, fs s hs], fun i k k6 k7 k8 => ?_, fun i hi => ?_, fun i hi => ?_, fun i hi hK => ?_⟩, ?_, l1, l2, rfl, hlt, hge, ?_, ?_⟩
      · rw [oset_n _ _ (by omega), fo i k (by omega)]
      · rw [oset_n _ _ (by omega), fo i 6 (by omega)]
      · rw [oset_n _ _ (by omega), fo i 7 (by omega)]
      · rw [oset_n _ _ (fun z => hK (by rw [z.2.1]; exact hb)), fo i 8 (by omega)]
      · rw [oset_n _ _ (by omega), fd6]
      · rw [oset_n _ _ (by omega), fo c 7 (by omega), h7]
        cases l1 with
        | nil => exact absurd rfl hl1
        | cons y l1 => rfl
      · rw [c_chn_iff]
        refine chn_ins (g := fun x => T.2 8 x 8) (g' := fun x => (oset T1 8 b 8 (some d)).2 8 x 8) h8 hnd hd ?_ (fun b' hb' => ?_) (fun x hx hxl => ?_)
        · show (oset T1 8 b 8 (some d)).2 8 d 8 = _
          rw [oset_n _ _ (by omega), fd8]
        · rw [q] at hb'
          cases hb'
          exact oset_s _ _ _ _ _
        · show (oset T1 8 b 8 (some d)).2 8 x 8 = _
          rw [oset_n _ _ (fun z => hxl (by rw [q, z.2.1])), fo x 8 (by omega)]
  have loop : ∀ (l2 l1 : List Nat), K = l1 ++ l2 → (∀ x ∈ l1, m_lt od x d) → cA ext X 1 51 10 [some (cv X 8 (some c)), some (cv X 8 (some d)), some (cv X 8 l1.getLast?), some (cv X 8 l2.head?), some (.int (nI l1.length))] [] T Q := by
    intro l2
    induction l2 with
    | nil =>
      intro l1 he hlt
      have fn := fin l1 [] (nI l1.length) he hlt (fun x l e => by cases e)
      exact bc51_10 (fun _ => fn) (fun _ => bc51_17 (fun _ => fn) (fun _ q => by cases q))
    | cons y l2 ih =>
      intro l1 he hlt
      have hyK : y ∈ K := by rw [he]; simp
      have hlen : l1.length < 120 := by
        rw [he, List.length_append] at hl
        omega
      refine bc51_10 (fun q => absurd q (nI_ge (b := 120) hlen (by decide))) (fun _ => bc51_17 (fun q => by cases q) (fun _ _ => bc51_21 (lK y hyK) (c_before (od := od) (lK y hyK) ld (hn y (Or.inr hyK)) (hn d (Or.inl rfl))) ?_))
      rintro v T1 ⟨rfl, rfl⟩
      refine bc51_26 (fun q => ?_) (fun q => ?_)
      · have hno : ¬ m_lt od y d := fun z => by
          rw [m_ltB_iff.mpr z] at q
          exact absurd q (by decide)
        exact fin l1 (y :: l2) _ he hlt (fun x l e => by cases e; exact hno)
      · have hyes : m_lt od y d := by
          cases e : m_ltB od y d with
          | true => exact m_ltB_iff.mp e
          | false => rw [e] at q; exact absurd rfl q
        refine bc51_29 (lK y hyK) ?_
        have e8 : T1.2 8 y 8 = l2.head? := by
          have := h8 l1.length y (by rw [he]; exact app_ge 0)
          rw [this, he, app_ge, List.getElem?_cons_succ, List.head?_eq_getElem?]
        rw [e8, nI_1]
        have := ih (l1 ++ [y]) (by rw [he, List.append_assoc]; rfl) (fun x hx => by
          rcases List.mem_append.mp hx with hx | hx
          · exact hlt x hx
          · rw [List.mem_singleton.mp hx]; exact hyes)
        rw [List.length_append, List.getLast?_concat] at this
        exact this
  exact loop K [] rfl (fun x hx => by cases hx)
theorem c_drop {d c : Nat} {l1 l2 : List Nat} (ld : X.2.1 8 d) (lc : X.2.1 8 c) (lK : ∀ x ∈ l1 ++ d :: l2, X.2.1 8 x) (hnd : (l1 ++ d :: l2).Nodup) (hl : (l1 ++ d :: l2).length ≤ 120) (h7 : T.2 8 c 7 = (l1 ++ d :: l2).head?) (h8 : c_chn T 8 8 (l1 ++ d :: l2)) :
    cCv ext X 0 54 [cv X 8 (some c), cv X 8 (some d)] T (fun T' => c_kp d c (l1 ++ d :: l2) T T' ∧ T'.2 8 c 7 = (l1 ++ l2).head? ∧ c_chn T' 8 8 (l1 ++ l2)) := by
  refine cCv.of (L := [some (cv X 8 (some c)), some (cv X 8 (some d)), none, none, none]) (by rw [ml54]; rfl) ?_
  refine bc54_0 lc ?_
  rw [h7]
  generalize hQ : cQv X (fun T' => c_kp d c (l1 ++ d :: l2) T T' ∧ T'.2 8 c 7 = (l1 ++ l2).head? ∧ c_chn T' 8 8 (l1 ++ l2)) = Q
  rw [c_chn_iff] at h8
  have hd8 : T.2 8 d 8 = l2.head? := by
    have := h8 l1.length d (app_ge 0)
    rw [this, app_ge, List.getElem?_cons_succ, List.head?_eq_getElem?]
  have hdl : d ∉ l1 := fun z => by
    obtain ⟨i, hi⟩ := List.getElem?_of_mem z
    have hil := (List.getElem?_eq_some_iff.mp hi).1
    have := nd_ix hnd (i := i) (by rw [app_lt hil]; exact hi) (app_ge (l1 := l1) (l2 := d :: l2) 0)
    omega
  -- found
  have fin : ∀ (x4 : Int32), cA ext X 0 54 39 [some (cv X 8 (some c)), some (cv X 8 (some d)), some (cv X 8 l1.getLast?), some (cv X 8 (some d)), some (.int x4)] [] T Q := by
    intro x4
    refine bc54_39 (fun q => ?_) (fun b q => ?_)
    · have e1 : l1 = [] := List.getLast?_eq_none_iff.mp q
      subst e1
      refine bc54_43 lc ld (bc54_62 ld ?_)
      rw [hd8, ← hQ]
      refine cQv.e ⟨⟨rfl, fun s hs => by rw [oset_k _ _ _ _ hs, oset_k _ _ _ _ hs, oset_k _ _ _ _ hs], fun i k k6 k7 k8 => ?_, fun i hi => ?_, fun i hi => ?_, fun i hi hK => ?_⟩, ?_, ?_⟩
      · rw [oset_n _ _ (by omega), oset_n _ _ (by omega), oset_n _ _ (by omega)]
      · rw [oset_n _ _ (by omega), oset_n _ _ (by omega), oset_n _ _ (by omega)]
      · rw [oset_n _ _ (by omega), oset_n _ _ (by omega), oset_n _ _ (by omega)]
      · rw [oset_n _ _ (by omega), oset_n _ _ (by omega), oset_n _ _ (by omega)]
      · rw [oset_n _ _ (by omega), oset_n _ _ (by omega), oset_s]; rfl
      · rw [c_chn_iff]
        refine chn_del (g := fun x => T.2 8 x 8) (g' := fun x => (oset (oset (oset T 8 c 7 l2.head?) 8 d 6 none) 8 d 8 none).2 8 x 8) h8 hnd (fun b hb => by cases hb) (fun x hx _ => ?_)
        show (oset (oset (oset T 8 c 7 l2.head?) 8 d 6 none) 8 d 8 none).2 8 x 8 = _
        rw [oset_n _ _ (by omega), oset_n _ _ (by omega), oset_n _ _ (by omega)]
    · have hb : b ∈ l1 := List.mem_of_getLast? q
      have hbd : b ≠ d := fun e => hdl (e ▸ hb)
      have hl1 : l1 ≠ [] := fun e => by rw [e] at q; cases q
      rw [q]
      refine bc54_54 ld (lK b (List.mem_append_left _ hb)) (bc54_62 ld ?_)
      rw [hd8, ← hQ]
      refine cQv.e ⟨⟨rfl, fun s hs => by rw [oset_k _ _ _ _ hs, oset_k _ _ _ _ hs, oset_k _ _ _ _ hs], fun i k k6 k7 k8 => ?_, fun i hi => ?_, fun i hi => ?_, fun i hi hK => ?_⟩, ?_, ?_⟩
      · rw [oset_n _ _ (by omega), oset_n _ _ (by omega), oset_n _ _ (by omega)]
      · rw [oset_n _ _ (by omega), oset_n _ _ (by omega), oset_n _ _ (by omega)]
      · rw [oset_n _ _ (by omega), oset_n _ _ (by omega), oset_n _ _ (by omega)]
      · rw [oset_n _ _ (by omega), oset_n _ _ (by omega), oset_n _ _ (fun z => hK (List.mem_append_left _ (by rw [z.2.1]; exact hb)))]
      · rw [oset_n _ _ (by omega), oset_n _ _ (by omega), oset_n _ _ (by omega), h7]
        cases l1 with
        | nil => exact absurd rfl hl1
        | cons y l1 => rfl
      · rw [c_chn_iff]
        refine chn_del (g := fun x => T.2 8 x 8) (g' := fun x => (oset (oset (oset T 8 b 8 l2.head?) 8 d 6 none) 8 d 8 none).2 8 x 8) h8 hnd (fun b' hb' => ?_) (fun x hx hxl => ?_)
        · rw [q] at hb'
          cases hb'
          show (oset (oset (oset T 8 b 8 l2.head?) 8 d 6 none) 8 d 8 none).2 8 b 8 = _
          rw [oset_n _ _ (by omega), oset_n _ _ (by omega), oset_s]
        · show (oset (oset (oset T 8 b 8 l2.head?) 8 d 6 none) 8 d 8 none).2 8 x 8 = _
          rw [oset_n _ _ (by omega), oset_n _ _ (by omega), oset_n _ _ (fun z => hxl (by rw [q, z.2.1]))]
  have loop : ∀ (p2 p1 : List Nat), l1 = p1 ++ p2 → cA ext X 0 54 10 [some (cv X 8 (some c)), some (cv X 8 (some d)), some (cv X 8 p1.getLast?), some (cv X 8 (p2 ++ d :: l2).head?), some (.int (nI p1.length))] [] T Q := by
    intro p2
    induction p2 with
    | nil =>
      intro p1 he
      rw [List.append_nil] at he
      subst he
      exact bc54_10 (fun _ => fin _) (fun _ => bc54_17 (fun q => by cases q) (fun _ _ => bc54_21 (fun j hj => by cases hj; exact ld) (fun j hj => by cases hj; exact ld) (fun _ => fin _) (fun q => absurd rfl q)))
    | cons y p2 ih =>
      intro p1 he
      have hy1 : y ∈ l1 := by rw [he]; simp
      have hyd : y ≠ d := fun e => hdl (e ▸ hy1)
      have ly := lK y (List.mem_append_left _ hy1)
      have hlen : p1.length < 120 := by
        rw [he, List.length_append, List.length_append] at hl
        have : p1.length + (p2.length + 1) + (l2.length + 1) ≤ 120 := hl
        omega
      refine bc54_10 (fun q => absurd q (nI_ge (b := 120) hlen (by decide))) (fun _ => bc54_17 (fun q => by cases q) (fun _ _ => bc54_21 (fun j hj => by cases hj; exact ly) (fun j hj => by cases hj; exact ld) (fun q => absurd (Option.some.inj q) hyd) (fun _ => bc54_26 ly ?_)))
      have e8 : T.2 8 y 8 = (p2 ++ d :: l2).head? := by
        have := h8 p1.length y (by rw [he, List.append_assoc]; exact app_ge 0)
        rw [this, he, List.append_assoc, app_ge, List.head?_eq_getElem?]
        rfl
      rw [e8, nI_1]
      have := ih (p1 ++ [y]) (by rw [he, List.append_assoc]; rfl)
      rw [List.length_append, List.getLast?_concat] at this
      exact this
  exact loop l1 [] rfl
end CT
