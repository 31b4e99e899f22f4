/-! THE CLASS'S CALLS: order, step, at, size -/
theorem m_ord_way {A : mS} : ∀ (n : Nat) (vs st : List Nat), m_way A vs st → (vs ++ m_ord A n st).Nodup ∧ ∀ x ∈ vs ++ m_ord A n st, x < m_nD A
  | 0, vs, st, h => by
    show (vs ++ []).Nodup ∧ ∀ x ∈ vs ++ [], x < m_nD A
    rw [List.append_nil]
    exact ⟨(List.nodup_append.mp h.1).1, fun x hx => h.2.1 x (List.mem_append_left _ hx)⟩
  | n + 1, vs, [], h => by
    show (vs ++ []).Nodup ∧ ∀ x ∈ vs ++ [], x < m_nD A
    rw [List.append_nil]
    exact ⟨(List.nodup_append.mp h.1).1, fun x hx => h.2.1 x (List.mem_append_left _ hx)⟩
  | n + 1, vs, d :: st, h => by
    have e : vs ++ m_ord A (n + 1) (d :: st) = (vs ++ [d]) ++ m_ord A n (m_kids A (.inl d) ++ st) := by rw [List.append_assoc]; rfl
    rw [e]
    exact m_ord_way n _ _ (m_way_s h)
theorem m_order_le (A : mS) (m : Nat) : (m_order A m).length ≤ m_nD A ∧ ∀ x ∈ m_order A m, x < m_nD A := by
  have h := m_ord_way (m_nD A + 1) [] _ (m_way_0 (A := A) m)
  exact ⟨nd_len _ _ h.1 h.2, h.2⟩
/-- where a walk over THE ORDER is: what is done, how much may still come, what is to come -/
def c_at (A : mS) (m : Nat) (vs : List Nat) (n : Nat) (st : List Nat) : Prop := m_order A m = vs ++ m_ord A n st ∧ m_way A vs st ∧ vs.length + n = m_nD A + 1 ∧ c_cur A (.inr m) st
theorem c_at_0 (A : mS) (m : Nat) : c_at A m [] (m_nD A + 1) (m_kids A (.inr m)) := ⟨rfl, m_way_0 m, by show 0 + _ = _; omega, c_cur_0 _⟩
theorem c_at_s {A : mS} (hI : m_J A) {m n x : Nat} {vs st : List Nat} (h : c_at A m vs n (x :: st)) : ∃ n', n = n' + 1 ∧ c_at A m (vs ++ [x]) n' (m_kids A (.inl x) ++ st) := by
  obtain ⟨h1, h2, h3, h4⟩ := h
  have hl := m_way_len h2
  have hl' : vs.length + (st.length + 1) ≤ m_nD A := hl
  obtain ⟨n', rfl⟩ : ∃ n', n = n' + 1 := ⟨n - 1, by omega⟩
  refine ⟨n', rfl, ?_, m_way_s h2, ?_, ?_⟩
  · rw [h1, List.append_assoc]; rfl
  · rw [List.length_append]; show vs.length + 1 + n' = _; omega
  · obtain ⟨hx, hs⟩ := h4 x st rfl
    exact c_cur_s hI hx hs
theorem c_at_nil {A : mS} {m n : Nat} {vs : List Nat} (h : c_at A m vs n []) : m_order A m = vs := by
  rw [h.1]
  cases n <;> exact List.append_nil _
theorem c_at_get {A : mS} {m n x : Nat} {vs st : List Nat} (h : c_at A m vs (n + 1) (x :: st)) : (m_order A m)[vs.length]? = some x := by
  rw [h.1, List.getElem?_append_right (Nat.le_refl _), Nat.sub_self]
  rfl
theorem m_lnk_at {A : mS} (hI : m_Inv A) {d j : Nat} {e : Nat × Nat × Nat} (hd : d < m_nD A) (h : (m_lk A d)[j]? = some e) : m_lnk A (5 * d + j) = e ∧ (5 * d + j) / 5 = d ∧ j < 5 := by
  have hl := (hI.2.2.2.2.2.2.1 d hd).1
  have hj := (List.getElem?_eq_some_iff.mp h).1
  have e1 : (5 * d + j) / 5 = d := by omega
  have e2 : (5 * d + j) % 5 = j := by omega
  refine ⟨?_, e1, by omega⟩
  unfold m_lnk
  rw [e1, e2, List.getD_eq_getElem?_getD, h]
  rfl
section CK
variable {ext : av_X} {X : cX} {T : cT} {A : mS}
theorem c_order (hI : m_Inv A) (hX : c_X A X) (h : c_RA A T) (m i : Int32) : cCi ext X 1 13 [cv X 0 (some 0), .int m, .int i] T (fun v T' => v = sp_order A m i ∧ c_RA A T') := by
  have hJ := hI.J
  have hM5 := hI.2.1.1
  have hD := hI.2.2.1
  have l0 := hX.z (s := 0) (by decide)
  refine cCi.of (L := [some (cv X 0 (some 0)), some (.int m), some (.int i), none, none, none]) (by rw [ml13]; rfl) ?_
  generalize hv : sp_order A m i = w
  unfold sp_order at hv
  refine bc13_0 l0 (c_findTree hI hX h.1 m) ?_
  rintro o T1 ⟨rfl, rfl⟩
  by_cases hm : 0 ≤ m ∧ m ≤ nI (m_nM A) - 1
  case neg =>
    rw [if_neg hm] at hv ⊢
    exact bc13_5 (fun _ => bc13_22 (cQi.e ⟨hv, h⟩)) (fun _ q => by cases q)
  rw [if_pos hm] at hv ⊢
  obtain ⟨mi, hmi, rfl⟩ := (rI_rng (by omega)).mp hm
  rw [nI_clamp (by omega)] at hv ⊢
  have hr := (h.1.2.2.1 mi hmi).2.2.1
  obtain ⟨hol, hom⟩ := m_order_le A mi
  refine bc13_5 (fun q => by cases q) (fun _ _ => ?_)
  rcases cI_rng (x := i) (n := m_nD A) (by omega) with ⟨a, b⟩ | ⟨a, b, c⟩ | ⟨i, hi, rfl, a, b, c⟩
  · refine bc13_10 (fun _ => bc13_22 (cQi.e ⟨?_, h⟩)) (fun q => absurd a q)
    rw [if_neg (fun q => ?_)] at hv
    · exact hv
    · have := q.1
      rw [Int32.lt_iff_toInt_lt] at a
      rw [Int32.le_iff_toInt_le] at this
      omega
  · refine bc13_10 (fun q => absurd q a) (fun _ => bc13_14 l0 (fun q => absurd q (by rw [h.1.1.2.2]; exact b)) (fun _ => bc13_22 (cQi.e ⟨?_, h⟩)))
    rw [if_neg (fun q => ?_)] at hv
    · exact hv
    · obtain ⟨j, hj, rfl⟩ := (rI_rng (by omega)).mp q
      exact b ((nI_ltI (by omega) (by omega)).mpr (by omega))
  · refine bc13_10 (fun q => absurd q a) (fun _ => bc13_14 l0 (fun _ => ?_) (fun q => absurd (by rw [h.1.1.2.2]; exact b) q))
    refine bc13_24 (b_2 := 1000 + mi) (hX.m hmi) hr (by rw [hr]; exact c_next0 hX h.1 (top := .inr mi) hmi) ?_
    rintro o T1 ⟨rfl, rfl⟩
    refine bc13_35 ?_
    have loop : ∀ (k n : Nat) (vs st : List Nat), vs.length + k = i → c_at A mi vs n st → cA ext X 1 13 40 [some (cv X 0 (some 0)), some (.int (nI mi)), some (.int (nI i)), some (cv X 7 (some mi)), some (cv X 8 st.head?), some (.int (nI vs.length))] [] T1 (cQi X (fun v T' => v = w ∧ c_RA A T')) := by
      intro k
      induction k with
      | zero =>
        intro n vs st hk hat
        refine bc13_40 (fun _ => ?_) (fun q => absurd (nI_le (by omega) (by omega)) q)
        cases st with
        | nil =>
          refine bc13_68 (fun _ => bc13_73 (bc13_82 (cQi.e ⟨?_, h⟩))) (fun _ q => by cases q)
          rw [if_neg (fun q => ?_)] at hv
          · exact hv
          · obtain ⟨j, hj, e⟩ := (rI_rng (by omega)).mp q
            rw [c_at_nil hat] at hj hol
            rw [nI_eq (by omega) (by omega)] at e
            omega
        | cons x st =>
          obtain ⟨n', rfl, hat2⟩ := c_at_s hJ hat
          have hg := c_at_get hat
          have hil := (List.getElem?_eq_some_iff.mp hg).1
          have hx := (hat.2.2.2 x st rfl).1
          refine bc13_68 (fun q => by cases q) (fun _ _ => bc13_77 (hX.d hx) (bc13_82 (cQi.e ⟨?_, h⟩)))
          rw [(h.1.2.2.2.1 x hx).2.1, ← hv, if_pos ((rI_rng (by omega)).mpr ⟨i, by omega, rfl⟩), nI_clamp (by omega), List.getD_eq_getElem?_getD, show i = vs.length by omega, hg]
          rfl
      | succ k ih =>
        intro n vs st hk hat
        refine bc13_40 (fun q => absurd q (nI_ge (by omega) (by omega))) (fun _ => ?_)
        cases st with
        | nil =>
          refine bc13_46 (fun _ => bc13_68 (fun _ => bc13_73 (bc13_82 (cQi.e ⟨?_, h⟩))) (fun _ q => by cases q)) (fun _ q => by cases q)
          rw [if_neg (fun q => ?_)] at hv
          · exact hv
          · obtain ⟨j, hj, e⟩ := (rI_rng (by omega)).mp q
            rw [c_at_nil hat] at hj hol
            rw [nI_eq (by omega) (by omega)] at e
            omega
        | cons x st =>
          obtain ⟨n', rfl, hat2⟩ := c_at_s hJ hat
          obtain ⟨hx, hs⟩ := hat.2.2.2 x st rfl
          refine bc13_46 (fun q => by cases q) (fun _ _ => bc13_51 (hX.m hmi) (hX.d hx) (by rw [hr]; exact c_next hI hX h.1 (top := .inr mi) hmi hx hs) ?_)
          rintro o T2 ⟨rfl, rfl⟩
          refine bc13_60 ?_
          rw [nI_1]
          have := ih n' (vs ++ [x]) _ (by rw [List.length_append]; show vs.length + 1 + k = i; omega) hat2
          rw [List.length_append] at this
          exact this
    exact loop i (m_nD A + 1) [] _ (by show 0 + i = i; omega) (c_at_0 A mi)
theorem c_at' (hI : m_Inv A) (hX : c_X A X) (h : c_RA A T) (i : Int32) : cCi ext X 0 20 [cv X 0 (some 0), .int i] T (fun v T' => v = sp_at A i ∧ c_RA A T') := by
  have l0 := hX.z (s := 0) (by decide)
  have hl := hI.2.2.2.2.2.2.2.2.2.2
  refine cCi.of (L := [some (cv X 0 (some 0)), some (.int i)]) (by rw [ml20]; rfl) ?_
  generalize hv : sp_at A i = w
  unfold sp_at at hv
  rcases cI_rng (x := i) (n := (m_sg A).length) (by omega) with ⟨a, b⟩ | ⟨a, b, c⟩ | ⟨i, hi, rfl, a, b, c⟩
  · rw [if_neg b] at hv
    exact bc20_0 (fun _ => bc20_15 (cQi.e ⟨hv, h⟩)) (fun q => absurd a q)
  · rw [if_neg c] at hv
    exact bc20_0 (fun q => absurd q a) (fun _ => bc20_4 l0 (fun q => absurd q (by rw [h.2.2.2.1]; exact b)) (fun _ => bc20_15 (cQi.e ⟨hv, h⟩)))
  · rw [if_pos c, nI_clamp (by omega)] at hv
    refine bc20_0 (fun q => absurd q a) (fun _ => bc20_4 l0 (fun _ => bc20_17 (i_2 := i) l0 rfl (by omega) (cQi.e ⟨?_, h⟩)) (fun q => absurd (by rw [h.2.2.2.1]; exact b) q))
    rw [h.2.2.2.2 i _ (getD_some (d := 0) hi)]
    exact hv
theorem c_tell (hI : m_Inv A) (hX : c_X A X) (h : c_RA A T) (i wh : Int32) : cCi ext X 0 38 [cv X 3 (some 0), .int i, .int wh] T (fun v T' => v = sp_step A i wh ∧ c_RA A T') := by
  have l0 := hX.z (s := 3) (by decide)
  have hl := hI.2.2.2.2.2.2.2.2.1
  refine cCi.of (L := [some (cv X 3 (some 0)), some (.int i), some (.int wh), none, none]) (by rw [ml38]; rfl) ?_
  generalize hv : sp_step A i wh = w
  unfold sp_step at hv
  rcases cI_rng (x := i) (n := (m_st A).length) (by omega) with ⟨a, b⟩ | ⟨a, b, c⟩ | ⟨i, hi, rfl, a, b, c⟩
  · rw [if_neg (fun q => b q.1)] at hv
    exact bc38_0 (fun _ => bc38_12 (cQi.e ⟨hv, h⟩)) (fun q => absurd a q)
  · rw [if_neg (fun q => c q.1)] at hv
    exact bc38_0 (fun q => absurd q a) (fun _ => bc38_4 l0 (fun q => absurd q (by rw [h.2.1.1]; exact b)) (fun _ => bc38_12 (cQi.e ⟨hv, h⟩)))
  · refine bc38_0 (fun q => absurd q a) (fun _ => bc38_4 l0 (fun _ => ?_) (fun q => absurd (by rw [h.2.1.1]; exact b) q))
    have hge := getD_some (d := (0, 0, 0, 0, 0)) hi
    rw [nI_clamp (by omega)] at hv
    generalize hee : (m_st A).getD i (0, 0, 0, 0, 0) = e at hge hv
    obtain ⟨⟨t, ht, hlv, ht5, hln⟩, h30, hdn⟩ := h.2.1.2 i e hge
    obtain ⟨d, j, e1, hd, hje, rfl⟩ := hlv
    obtain ⟨b1, b2, b3⟩ := m_lnk_at hI hd hje
    rw [b1] at hln
    rw [b2] at ht5
    have hL := h.1.2.2.2.2.2.1 d j e1 hd hje
    have hll : X.2.1 9 (5 * d + j) := (hX 9 _).mpr ⟨d, j, e1, hd, hje, rfl⟩
    have hf := (hI.2.2.2.2.2.2.1 d hd).2 e1 (List.mem_of_getElem? hje)
    refine bc38_14 (i_2 := i) l0 rfl (by omega) (fun q => by rw [ht] at q; cases q) (fun _ _ => ?_)
    rw [ht, h30]
    refine bc38_33 (fun q => by cases q) (fun _ _ => bc38_40 ?_)
    by_cases cw : 0 ≤ wh ∧ wh ≤ 4
    · obtain ⟨k, hk, rfl⟩ := (rI_rg2 (n := 4) rfl (by decide)).mp cw
      rw [if_pos ⟨c, cw⟩, nI_clamp (by omega)] at hv
      rw [tsw_nI (by omega)]
      rw [hln] at hL hf
      match k, hk with
      | 0, _ =>
        refine bc38_76 (b_2 := d) hll hL.2.1 (cQi.e ⟨?_, h⟩)
        rw [(h.1.2.2.2.1 d hd).2.1, ht5]
        exact hv
      | 1, _ =>
        refine bc38_84 (b_2 := e.2.1) hll hL.2.2.1 (cQi.e ⟨?_, h⟩)
        rw [(h.1.2.1 e.2.1 hf.1).2.1]
        exact hv
      | 2, _ =>
        refine bc38_92 hll (cQi.e ⟨?_, h⟩)
        rw [hL.2.2.2.1]
        exact hv
      | 3, _ =>
        refine bc38_97 hll (cQi.e ⟨?_, h⟩)
        rw [hL.2.2.2.2]
        exact hv
      | 4, _ =>
        refine bc38_102 (hX.d hdn) (cQi.e ⟨?_, h⟩)
        rw [(h.1.2.2.2.1 _ hdn).2.1]
        exact hv
      | k + 5, hk => exact absurd hk (by omega)
    · rw [if_neg (fun q => cw q.2)] at hv
      have fin : cA ext X 0 38 108 [some (cv X 3 (some 0)), some (.int (nI i)), some (.int wh), some (cv X 9 (some (5 * d + j))), some (cv X 8 (some e.2.2.2.2))] [] T (cQi X (fun v T' => v = w ∧ c_RA A T')) := bc38_108 (cQi.e ⟨hv, h⟩)
      by_cases c0 : wh < 0
      · rw [tsw_neg c0]
        exact fin
      · obtain ⟨k, hk, rfl⟩ := nI_of c0
        have hk5 : 5 ≤ k := by
          refine Nat.le_of_not_lt (fun q => cw ?_)
          exact (rI_rg2 (n := 4) rfl (by decide)).mpr ⟨k, by omega, rfl⟩
        rw [tsw_nI hk, List.getD_eq_getElem?_getD, List.getElem?_eq_none (by show 5 ≤ k; omega)]
        exact fin
theorem c_step (hI : m_Inv A) (hX : c_X A X) (h : c_RA A T) (i wh : Int32) : cCi ext X 1 15 [cv X 0 (some 0), .int i, .int wh] T (fun v T' => v = sp_step A i wh ∧ c_RA A T') := by
  refine cCi.of (L := [some (cv X 0 (some 0)), some (.int i), some (.int wh)]) (by rw [ml15]; rfl) ?_
  refine bc15_0 (hX.z (s := 0) (by decide)) (c_tell hI hX h i wh) ?_
  rintro v T1 ⟨a, b⟩
  exact bc15_9 (cQi.e ⟨a, b⟩)
end CK
