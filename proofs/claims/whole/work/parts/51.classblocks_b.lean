section
variable {ext : av_X} {X : cX} {d : Nat} {T : cT} {Q : Option Value → av_St → Prop}
/-! Search_comesTo -/
theorem bc25_0 {a0 : Nat} {r1 : Option Nat} {r2 : Option Nat} {o3 : Option Value} {o4 : Option Value} {P_2 : cT → Prop} (l_1 : X.2.1 1 a0) (m_5 : cCv ext X d 26 [cv X 1 (some a0)] T P_2) (k_6 : ∀ T_3, P_2 T_3 → cA ext X (d + 1) 25 4 [some (cv X 1 (some a0)), some (cv X 8 r1), some (cv X 8 r2), o3, o4] [] T_3 Q) : cA ext X (d + 1) 25 0 [some (cv X 1 (some a0)), some (cv X 8 r1), some (cv X 8 r2), o3, o4] [] T Q := by
  intro S hS
  refine aw_ald j25_0 rfl (cv_isR _ _ _) ?_
  refine aw_callv (as := [cv X 1 (some a0)]) j25_1 rfl rfl (Nat.le_of_ble_eq_true rfl) cy26.1 cy26.2 (cs_cons rfl cs_nil) (decide_eq_true (hS.kd l_1)) (m_5 _ hS) (fun S1 h1 => ?_)
  obtain ⟨W1, h1, h2⟩ := h1
  exact k_6 W1 h2 S1 h1
theorem bc25_4 {a0 : Nat} {r1 : Option Nat} {r2 : Option Nat} {o3 : Option Value} {o4 : Option Value} {P_2 : cT → Prop} (l_1 : X.2.1 1 a0) (m_5 : cCv ext X d 27 [cv X 1 (some a0), cv X 8 r1] T P_2) (k_6 : ∀ T_3, P_2 T_3 → cA ext X (d + 1) 25 9 [some (cv X 1 (some a0)), some (cv X 8 r1), some (cv X 8 r2), o3, o4] [] T_3 Q) : cA ext X (d + 1) 25 4 [some (cv X 1 (some a0)), some (cv X 8 r1), some (cv X 8 r2), o3, o4] [] T Q := by
  intro S hS
  refine aw_ald j25_4 rfl (cv_isR _ _ _) ?_
  refine aw_ald j25_5 rfl (cv_isR _ _ _) ?_
  refine aw_callv (as := [cv X 1 (some a0), cv X 8 r1]) j25_6 rfl rfl (Nat.le_of_ble_eq_true rfl) cy27.1 cy27.2 (cs_cons rfl (cs_cons (cv_cat _ _ _) cs_nil)) (decide_eq_true (hS.kd l_1)) (m_5 _ hS) (fun S1 h1 => ?_)
  obtain ⟨W1, h1, h2⟩ := h1
  exact k_6 W1 h2 S1 h1
theorem bc25_9 {r0 : Option Nat} {r1 : Option Nat} {r2 : Option Nat} {o3 : Option Value} {o4 : Option Value}  (k_1 : cA ext X d 25 11 [some (cv X 1 r0), some (cv X 8 r1), some (cv X 8 r2), some (.int (0 : Int32)), o4] [] T Q) : cA ext X d 25 9 [some (cv X 1 r0), some (cv X 8 r1), some (cv X 8 r2), o3, o4] [] T Q := by
  intro S hS
  refine aw_con j25_9 ?_
  refine aw_ist j25_10 (Nat.le_of_ble_eq_true rfl) ?_
  exact k_1 _ hS
theorem bc25_11 {r0 : Option Nat} {r1 : Option Nat} {r2 : Option Nat} {x3 : Int32} {o4 : Option Value}  (k_1 : ((120 : Int32) ≤ x3) → cA ext X d 25 53 [some (cv X 1 r0), some (cv X 8 r1), some (cv X 8 r2), some (.int x3), o4] [] T Q) (k_2 : (¬ ((120 : Int32) ≤ x3)) → cA ext X d 25 17 [some (cv X 1 r0), some (cv X 8 r1), some (cv X 8 r2), some (.int x3), o4] [] T Q) : cA ext X d 25 11 [some (cv X 1 r0), some (cv X 8 r1), some (cv X 8 r2), some (.int x3), o4] [] T Q := by
  intro S hS
  refine aw_ild j25_11 rfl ?_
  refine aw_con j25_12 ?_
  exact aw_ic j25_14 (fun h => k_1 (of_decide_eq_true h) _ hS) (fun h => k_2 (of_decide_eq_false h) _ hS)
theorem bc25_17 {a0 : Nat} {r1 : Option Nat} {r2 : Option Nat} {x3 : Int32} {o4 : Option Value} (l_1 : X.2.1 1 a0) (k_2 : ((T.1 1 a0 2) ≤ x3) → cA ext X d 25 53 [some (cv X 1 (some a0)), some (cv X 8 r1), some (cv X 8 r2), some (.int x3), o4] [] T Q) (k_3 : (¬ ((T.1 1 a0 2) ≤ x3)) → cA ext X d 25 25 [some (cv X 1 (some a0)), some (cv X 8 r1), some (cv X 8 r2), some (.int x3), o4] [] T Q) : cA ext X d 25 17 [some (cv X 1 (some a0)), some (cv X 8 r1), some (cv X 8 r2), some (.int x3), o4] [] T Q := by
  intro S hS
  refine aw_ild j25_17 rfl ?_
  refine aw_ald j25_18 rfl (cv_isR _ _ _) ?_
  refine aw_get j25_19 (hS.kd l_1) (hS.i 2 rfl rfl l_1) ?_
  exact aw_ic j25_22 (fun h => k_2 (of_decide_eq_true h) _ hS) (fun h => k_3 (of_decide_eq_false h) _ hS)
theorem bc25_25 {a0 : Nat} {r1 : Option Nat} {r2 : Option Nat} {x3 : Int32} {o4 : Option Value} {i_2 : Nat} (l_1 : X.2.1 1 a0) (e_3 : x3 = nI i_2) (c_4 : i_2 < 120) (l_5 : ∀ j, r2 = some j → X.2.1 8 j) (k_6 : ¬ (T.2 23 a0 i_2) = r2 → cA ext X d 25 41 [some (cv X 1 (some a0)), some (cv X 8 r1), some (cv X 8 r2), some (.int x3), some (cv X 8 (T.2 23 a0 i_2))] [] T Q) (k_7 : (T.2 23 a0 i_2) = r2 → cA ext X d 25 39 [some (cv X 1 (some a0)), some (cv X 8 r1), some (cv X 8 r2), some (.int x3), some (cv X 8 (T.2 23 a0 i_2))] [] T Q) : cA ext X d 25 25 [some (cv X 1 (some a0)), some (cv X 8 r1), some (cv X 8 r2), some (.int x3), o4] [] T Q := by
  intro S hS
  refine aw_ald j25_25 rfl (cv_isR _ _ _) ?_
  refine aw_get j25_26 (hS.kd l_1) (hS.f 0 rfl l_1) ?_
  refine aw_ild j25_29 rfl ?_
  refine aw_xld (n := 120) j25_30 (hS.kd (hS.fl (s := 1) 0 rfl l_1)) e_3 c_4 (by decide) (hS.r i_2 rfl (hS.fl (s := 1) 0 rfl l_1)) ?_
  refine aw_ast j25_31 (cv_isR _ _ _) (Nat.le_of_ble_eq_true rfl) ?_
  refine aw_ald j25_33 rfl (cv_isR _ _ _) ?_
  refine aw_ald j25_35 rfl (cv_isR _ _ _) ?_
  have hij := hS.inj (hS.rl i_2 rfl (hS.fl (s := 1) 0 rfl l_1)) l_5
  exact aw_ac (r1 := ((T.2 23 a0 i_2)).map (X.1 8)) (r2 := (r2).map (X.1 8)) j25_36 (fun h => k_6 (fun z => absurd (h.mp (hij.mpr z)) (by decide)) _ hS) (fun h => k_7 (hij.mp (Decidable.of_not_not (fun z => h (by rw [eq_false z]; exact (eq_false (by decide)).symm)))) _ hS)
theorem bc25_39 {r0 : Option Nat} {r1 : Option Nat} {r2 : Option Nat} {x3 : Int32} {r4 : Option Nat}  (k_1 : ∀ S, cr X T S → Q (some (.int (1 : Int32))) S) : cA ext X d 25 39 [some (cv X 1 r0), some (cv X 8 r1), some (cv X 8 r2), some (.int x3), some (cv X 8 r4)] [] T Q := by
  intro S hS
  refine aw_con j25_39 ?_
  exact aw_ret j25_40 (by rw [rt25]; exact rfl) (k_1 _ hS)
theorem bc25_41 {a0 : Nat} {r1 : Option Nat} {r2 : Option Nat} {x3 : Int32} {r4 : Option Nat} {P_2 : cT → Prop} (l_1 : X.2.1 1 a0) (m_5 : cCv ext X d 28 [cv X 1 (some a0), cv X 8 r4] T P_2) (k_6 : ∀ T_3, P_2 T_3 → cA ext X (d + 1) 25 47 [some (cv X 1 (some a0)), some (cv X 8 r1), some (cv X 8 r2), some (.int x3), some (cv X 8 r4)] [] T_3 Q) : cA ext X (d + 1) 25 41 [some (cv X 1 (some a0)), some (cv X 8 r1), some (cv X 8 r2), some (.int x3), some (cv X 8 r4)] [] T Q := by
  intro S hS
  refine aw_ald j25_41 rfl (cv_isR _ _ _) ?_
  refine aw_ald j25_42 rfl (cv_isR _ _ _) ?_
  refine aw_callv (as := [cv X 1 (some a0), cv X 8 r4]) j25_44 rfl rfl (Nat.le_of_ble_eq_true rfl) cy28.1 cy28.2 (cs_cons rfl (cs_cons (cv_cat _ _ _) cs_nil)) (decide_eq_true (hS.kd l_1)) (m_5 _ hS) (fun S1 h1 => ?_)
  obtain ⟨W1, h1, h2⟩ := h1
  exact k_6 W1 h2 S1 h1
theorem bc25_47 {r0 : Option Nat} {r1 : Option Nat} {r2 : Option Nat} {x3 : Int32} {r4 : Option Nat}  (k_1 : cA ext X d 25 11 [some (cv X 1 r0), some (cv X 8 r1), some (cv X 8 r2), some (.int (x3 + 1)), some (cv X 8 r4)] [] T Q) : cA ext X d 25 47 [some (cv X 1 r0), some (cv X 8 r1), some (cv X 8 r2), some (.int x3), some (cv X 8 r4)] [] T Q := by
  intro S hS
  refine aw_inc j25_47 rfl ?_
  exact aw_goto j25_50 (k_1 _ hS)
theorem bc25_53 {r0 : Option Nat} {r1 : Option Nat} {r2 : Option Nat} {x3 : Int32} {o4 : Option Value}  (k_1 : ∀ S, cr X T S → Q (some (.int (0 : Int32))) S) : cA ext X d 25 53 [some (cv X 1 r0), some (cv X 8 r1), some (cv X 8 r2), some (.int x3), o4] [] T Q := by
  intro S hS
  refine aw_con j25_53 ?_
  exact aw_ret j25_54 (by rw [rt25]; exact rfl) (k_1 _ hS)
/-! Search_forget -/
theorem bc26_0 {r0 : Option Nat} {o1 : Option Value}  (k_1 : cA ext X d 26 2 [some (cv X 1 r0), some (.int (0 : Int32))] [] T Q) : cA ext X d 26 0 [some (cv X 1 r0), o1] [] T Q := by
  intro S hS
  refine aw_con j26_0 ?_
  refine aw_ist j26_1 (Nat.le_of_ble_eq_true rfl) ?_
  exact k_1 _ hS
theorem bc26_2 {a0 : Nat} {x1 : Int32} (l_1 : X.2.1 1 a0) (k_2 : ((nI 120) ≤ x1) → cA ext X d 26 24 [some (cv X 1 (some a0)), some (.int x1)] [] T Q) (k_3 : (¬ ((nI 120) ≤ x1)) → cA ext X d 26 11 [some (cv X 1 (some a0)), some (.int x1)] [] T Q) : cA ext X d 26 2 [some (cv X 1 (some a0)), some (.int x1)] [] T Q := by
  intro S hS
  refine aw_ild j26_2 rfl ?_
  refine aw_ald j26_3 rfl (cv_isR _ _ _) ?_
  refine aw_get j26_4 (hS.kd l_1) (hS.f 1 rfl l_1) ?_
  refine aw_len j26_7 (hS.kd (hS.fl (s := 1) 1 rfl l_1)) ?_
  exact aw_ic j26_8 (fun h => k_2 (of_decide_eq_true h) _ hS) (fun h => k_3 (of_decide_eq_false h) _ hS)
theorem bc26_11 {a0 : Nat} {x1 : Int32} {i_2 : Nat} (l_1 : X.2.1 1 a0) (e_3 : x1 = nI i_2) (c_4 : i_2 < 120) (k_5 : cA ext X d 26 2 [some (cv X 1 (some a0)), some (.int (x1 + 1))] [] (iset T 24 a0 i_2 ((0 : Int32) &&& 1)) Q) : cA ext X d 26 11 [some (cv X 1 (some a0)), some (.int x1)] [] T Q := by
  intro S hS
  refine aw_ald j26_11 rfl (cv_isR _ _ _) ?_
  refine aw_get j26_12 (hS.kd l_1) (hS.f 1 rfl l_1) ?_
  refine aw_ild j26_15 rfl ?_
  refine aw_con j26_16 ?_
  refine aw_xst (n := 120) j26_17 (hS.kd (hS.fl (s := 1) 1 rfl l_1)) e_3 c_4 (by decide) ?_
  have hS := hS.seti (s := 24) i_2 ((0 : Int32) &&& 1) rfl rfl (hS.fl (s := 1) 1 rfl l_1)
  refine aw_inc j26_18 rfl ?_
  exact aw_goto j26_21 (k_5 _ hS)
theorem bc26_24 {a0 : Nat} {x1 : Int32} (l_1 : X.2.1 1 a0) (k_2 : ∀ S, cr X (iset T 1 a0 2 (0 : Int32)) S → Q none S) : cA ext X d 26 24 [some (cv X 1 (some a0)), some (.int x1)] [] T Q := by
  intro S hS
  refine aw_ald j26_24 rfl (cv_isR _ _ _) ?_
  refine aw_con j26_25 ?_
  refine aw_put j26_26 (hS.kd l_1) rfl ?_
  have hS := hS.seti (s := 1) 2 (0 : Int32) rfl rfl l_1
  exact aw_vret j26_29 rt26 (k_2 _ hS)
/-! Search_add -/
theorem bc27_0 {r0 : Option Nat} {r1 : Option Nat}  (k_2 : r1 = none → cA ext X d 27 23 [some (cv X 1 r0), some (cv X 8 r1)] [] T Q) (k_3 : ∀ c_1, r1 = some c_1 → cA ext X d 27 4 [some (cv X 1 r0), some (cv X 8 r1)] [] T Q) : cA ext X d 27 0 [some (cv X 1 r0), some (cv X 8 r1)] [] T Q := by
  intro S hS
  refine aw_ald j27_0 rfl (cv_isR _ _ _) ?_
  exact aw_null (r := (r1).map (X.1 8)) j27_1 (fun h => k_2 (cv_none h) _ hS) (fun c h => by obtain ⟨c, hc⟩ := cv_some h; exact k_3 c hc _ hS)
theorem bc27_4 {r0 : Option Nat} {a1 : Nat} (l_1 : X.2.1 8 a1) (k_2 : ((T.1 8 a1 0) < 0) → cA ext X d 27 23 [some (cv X 1 r0), some (cv X 8 (some a1))] [] T Q) (k_3 : (¬ ((T.1 8 a1 0) < 0)) → cA ext X d 27 11 [some (cv X 1 r0), some (cv X 8 (some a1))] [] T Q) : cA ext X d 27 4 [some (cv X 1 r0), some (cv X 8 (some a1))] [] T Q := by
  intro S hS
  refine aw_ald j27_4 rfl (cv_isR _ _ _) ?_
  refine aw_get j27_5 (hS.kd l_1) (hS.i 0 rfl rfl l_1) ?_
  exact aw_if j27_8 (fun h => k_2 (of_decide_eq_true h) _ hS) (fun h => k_3 (of_decide_eq_false h) _ hS)
theorem bc27_11 {a0 : Nat} {a1 : Nat} (l_1 : X.2.1 1 a0) (l_2 : X.2.1 8 a1) (k_3 : ((T.1 8 a1 0) < (nI 120)) → cA ext X d 27 24 [some (cv X 1 (some a0)), some (cv X 8 (some a1))] [] T Q) (k_4 : (¬ ((T.1 8 a1 0) < (nI 120))) → cA ext X d 27 23 [some (cv X 1 (some a0)), some (cv X 8 (some a1))] [] T Q) : cA ext X d 27 11 [some (cv X 1 (some a0)), some (cv X 8 (some a1))] [] T Q := by
  intro S hS
  refine aw_ald j27_11 rfl (cv_isR _ _ _) ?_
  refine aw_get j27_12 (hS.kd l_2) (hS.i 0 rfl rfl l_2) ?_
  refine aw_ald j27_15 rfl (cv_isR _ _ _) ?_
  refine aw_get j27_16 (hS.kd l_1) (hS.f 1 rfl l_1) ?_
  refine aw_len j27_19 (hS.kd (hS.fl (s := 1) 1 rfl l_1)) ?_
  exact aw_ic j27_20 (fun h => k_3 (of_decide_eq_true h) _ hS) (fun h => k_4 (of_decide_eq_false h) _ hS)
theorem bc27_23 {r0 : Option Nat} {r1 : Option Nat}  (k_1 : ∀ S, cr X T S → Q none S) : cA ext X d 27 23 [some (cv X 1 r0), some (cv X 8 r1)] [] T Q := by
  intro S hS
  exact aw_vret j27_23 rt27 (k_1 _ hS)
theorem bc27_24 {a0 : Nat} {a1 : Nat} {i_3 : Nat} (l_1 : X.2.1 1 a0) (l_2 : X.2.1 8 a1) (e_4 : (T.1 8 a1 0) = nI i_3) (c_5 : i_3 < 120) (k_6 : (¬ (T.1 24 a0 i_3) = 0) → cA ext X d 27 48 [some (cv X 1 (some a0)), some (cv X 8 (some a1))] [] T Q) (k_7 : ((T.1 24 a0 i_3) = 0) → cA ext X d 27 36 [some (cv X 1 (some a0)), some (cv X 8 (some a1))] [] T Q) : cA ext X d 27 24 [some (cv X 1 (some a0)), some (cv X 8 (some a1))] [] T Q := by
  intro S hS
  refine aw_ald j27_24 rfl (cv_isR _ _ _) ?_
  refine aw_get j27_25 (hS.kd l_1) (hS.f 1 rfl l_1) ?_
  refine aw_ald j27_28 rfl (cv_isR _ _ _) ?_
  refine aw_get j27_29 (hS.kd l_2) (hS.i 0 rfl rfl l_2) ?_
  refine aw_xld (n := 120) j27_32 (hS.kd (hS.fl (s := 1) 1 rfl l_1)) e_4 c_5 (by decide) (hS.i i_3 rfl rfl (hS.fl (s := 1) 1 rfl l_1)) ?_
  exact aw_if j27_33 (fun h => k_6 (of_decide_eq_true h) _ hS) (fun h => k_7 (Decidable.of_not_not (of_decide_eq_false h)) _ hS)
theorem bc27_36 {a0 : Nat} {r1 : Option Nat} (l_1 : X.2.1 1 a0) (k_2 : ((T.1 1 a0 2) < (nI 120)) → cA ext X d 27 49 [some (cv X 1 (some a0)), some (cv X 8 r1)] [] T Q) (k_3 : (¬ ((T.1 1 a0 2) < (nI 120))) → cA ext X d 27 48 [some (cv X 1 (some a0)), some (cv X 8 r1)] [] T Q) : cA ext X d 27 36 [some (cv X 1 (some a0)), some (cv X 8 r1)] [] T Q := by
  intro S hS
  refine aw_ald j27_36 rfl (cv_isR _ _ _) ?_
  refine aw_get j27_37 (hS.kd l_1) (hS.i 2 rfl rfl l_1) ?_
  refine aw_ald j27_40 rfl (cv_isR _ _ _) ?_
  refine aw_get j27_41 (hS.kd l_1) (hS.f 0 rfl l_1) ?_
  refine aw_len j27_44 (hS.kd (hS.fl (s := 1) 0 rfl l_1)) ?_
  exact aw_ic j27_45 (fun h => k_2 (of_decide_eq_true h) _ hS) (fun h => k_3 (of_decide_eq_false h) _ hS)
theorem bc27_48 {r0 : Option Nat} {r1 : Option Nat}  (k_1 : ∀ S, cr X T S → Q none S) : cA ext X d 27 48 [some (cv X 1 r0), some (cv X 8 r1)] [] T Q := by
  intro S hS
  exact aw_vret j27_48 rt27 (k_1 _ hS)
theorem bc27_49 {a0 : Nat} {a1 : Nat} {i_3 : Nat} {i_6 : Nat} (l_1 : X.2.1 1 a0) (l_2 : X.2.1 8 a1) (e_4 : (T.1 8 a1 0) = nI i_3) (c_5 : i_3 < 120) (e_7 : ((iset T 24 a0 i_3 ((1 : Int32) &&& 1)).1 1 a0 2) = nI i_6) (c_8 : i_6 < 120) (k_9 : ∀ S, cr X (iset (oset (iset T 24 a0 i_3 ((1 : Int32) &&& 1)) 23 a0 i_6 (some a1)) 1 a0 2 (((oset (iset T 24 a0 i_3 ((1 : Int32) &&& 1)) 23 a0 i_6 (some a1)).1 1 a0 2) + (1 : Int32))) S → Q none S) : cA ext X d 27 49 [some (cv X 1 (some a0)), some (cv X 8 (some a1))] [] T Q := by
  intro S hS
  refine aw_ald j27_49 rfl (cv_isR _ _ _) ?_
  refine aw_get j27_50 (hS.kd l_1) (hS.f 1 rfl l_1) ?_
  refine aw_ald j27_53 rfl (cv_isR _ _ _) ?_
  refine aw_get j27_54 (hS.kd l_2) (hS.i 0 rfl rfl l_2) ?_
  refine aw_con j27_57 ?_
  refine aw_xst (n := 120) j27_58 (hS.kd (hS.fl (s := 1) 1 rfl l_1)) e_4 c_5 (by decide) ?_
  have hS := hS.seti (s := 24) i_3 ((1 : Int32) &&& 1) rfl rfl (hS.fl (s := 1) 1 rfl l_1)
  refine aw_ald j27_59 rfl (cv_isR _ _ _) ?_
  refine aw_get j27_60 (hS.kd l_1) (hS.f 0 rfl l_1) ?_
  refine aw_ald j27_63 rfl (cv_isR _ _ _) ?_
  refine aw_get j27_64 (hS.kd l_1) (hS.i 2 rfl rfl l_1) ?_
  refine aw_ald j27_67 rfl (cv_isR _ _ _) ?_
  refine aw_ast2 (n := 120) (r := ((some a1)).map (X.1 8)) j27_68 (hS.kd (hS.fl (s := 1) 0 rfl l_1)) e_7 c_8 (by decide) (hS.tv (fun j hj => by cases hj; exact l_2)) ?_
  have hS := hS.setr (s := 23) i_6 (some a1) rfl rfl (hS.fl (s := 1) 0 rfl l_1) (fun j hj => by cases hj; exact l_2)
  refine aw_ald j27_69 rfl (cv_isR _ _ _) ?_
  refine aw_dup j27_70 rfl ?_
  refine aw_get j27_71 (hS.kd l_1) (hS.i 2 rfl rfl l_1) ?_
  refine aw_con j27_74 ?_
  refine aw_bin (z := (((oset (iset T 24 a0 i_3 ((1 : Int32) &&& 1)) 23 a0 i_6 (some a1)).1 1 a0 2) + (1 : Int32))) j27_75 rfl ?_
  refine aw_put j27_76 (hS.kd l_1) rfl ?_
  have hS := hS.seti (s := 1) 2 (((oset (iset T 24 a0 i_3 ((1 : Int32) &&& 1)) 23 a0 i_6 (some a1)).1 1 a0 2) + (1 : Int32)) rfl rfl l_1
  exact aw_vret j27_79 rt27 (k_9 _ hS)
/-! Search_addBehind -/
theorem bc28_0 {r0 : Option Nat} {r1 : Option Nat} {o2 : Option Value} {o3 : Option Value}  (k_2 : r1 = none → cA ext X d 28 4 [some (cv X 1 r0), some (cv X 8 r1), o2, o3] [] T Q) (k_3 : ∀ c_1, r1 = some c_1 → cA ext X d 28 5 [some (cv X 1 r0), some (cv X 8 r1), o2, o3] [] T Q) : cA ext X d 28 0 [some (cv X 1 r0), some (cv X 8 r1), o2, o3] [] T Q := by
  intro S hS
  refine aw_ald j28_0 rfl (cv_isR _ _ _) ?_
  exact aw_nonn (r := (r1).map (X.1 8)) j28_1 (fun h => k_2 (cv_none h) _ hS) (fun c h => by obtain ⟨c, hc⟩ := cv_some h; exact k_3 c hc _ hS)
theorem bc28_4 {r0 : Option Nat} {r1 : Option Nat} {o2 : Option Value} {o3 : Option Value}  (k_1 : ∀ S, cr X T S → Q none S) : cA ext X d 28 4 [some (cv X 1 r0), some (cv X 8 r1), o2, o3] [] T Q := by
  intro S hS
  exact aw_vret j28_4 rt28 (k_1 _ hS)
theorem bc28_5 {a0 : Nat} {a1 : Nat} {o2 : Option Value} {o3 : Option Value} {P_3 : cT → Prop} (l_1 : X.2.1 1 a0) (l_2 : X.2.1 8 a1) (m_6 : cCv ext X d 27 [cv X 1 (some a0), cv X 8 (T.2 8 a1 9)] T P_3) (k_7 : ∀ T_4, P_3 T_4 → cA ext X (d + 1) 28 13 [some (cv X 1 (some a0)), some (cv X 8 (some a1)), o2, o3] [] T_4 Q) : cA ext X (d + 1) 28 5 [some (cv X 1 (some a0)), some (cv X 8 (some a1)), o2, o3] [] T Q := by
  intro S hS
  refine aw_ald j28_5 rfl (cv_isR _ _ _) ?_
  refine aw_ald j28_6 rfl (cv_isR _ _ _) ?_
  refine aw_get j28_7 (hS.kd l_2) (hS.r 9 rfl l_2) ?_
  refine aw_callv (as := [cv X 1 (some a0), cv X 8 (T.2 8 a1 9)]) j28_10 rfl rfl (Nat.le_of_ble_eq_true rfl) cy27.1 cy27.2 (cs_cons rfl (cs_cons (cv_cat _ _ _) cs_nil)) (decide_eq_true (hS.kd l_1)) (m_6 _ hS) (fun S1 h1 => ?_)
  obtain ⟨W1, h1, h2⟩ := h1
  exact k_7 W1 h2 S1 h1
theorem bc28_13 {r0 : Option Nat} {a1 : Nat} {o2 : Option Value} {o3 : Option Value} (l_1 : X.2.1 8 a1) (k_2 : cA ext X d 28 20 [some (cv X 1 r0), some (cv X 8 (some a1)), some (cv X 8 (T.2 8 a1 7)), some (.int (0 : Int32))] [] T Q) : cA ext X d 28 13 [some (cv X 1 r0), some (cv X 8 (some a1)), o2, o3] [] T Q := by
  intro S hS
  refine aw_ald j28_13 rfl (cv_isR _ _ _) ?_
  refine aw_get j28_14 (hS.kd l_1) (hS.r 7 rfl l_1) ?_
  refine aw_ast j28_17 (cv_isR _ _ _) (Nat.le_of_ble_eq_true rfl) ?_
  refine aw_con j28_18 ?_
  refine aw_ist j28_19 (Nat.le_of_ble_eq_true rfl) ?_
  exact k_2 _ hS
theorem bc28_20 {r0 : Option Nat} {r1 : Option Nat} {r2 : Option Nat} {x3 : Int32}  (k_1 : ((120 : Int32) ≤ x3) → cA ext X d 28 46 [some (cv X 1 r0), some (cv X 8 r1), some (cv X 8 r2), some (.int x3)] [] T Q) (k_2 : (¬ ((120 : Int32) ≤ x3)) → cA ext X d 28 26 [some (cv X 1 r0), some (cv X 8 r1), some (cv X 8 r2), some (.int x3)] [] T Q) : cA ext X d 28 20 [some (cv X 1 r0), some (cv X 8 r1), some (cv X 8 r2), some (.int x3)] [] T Q := by
  intro S hS
  refine aw_ild j28_20 rfl ?_
  refine aw_con j28_21 ?_
  exact aw_ic j28_23 (fun h => k_1 (of_decide_eq_true h) _ hS) (fun h => k_2 (of_decide_eq_false h) _ hS)
theorem bc28_26 {r0 : Option Nat} {r1 : Option Nat} {r2 : Option Nat} {x3 : Int32}  (k_2 : r2 = none → cA ext X d 28 46 [some (cv X 1 r0), some (cv X 8 r1), some (cv X 8 r2), some (.int x3)] [] T Q) (k_3 : ∀ c_1, r2 = some c_1 → cA ext X d 28 30 [some (cv X 1 r0), some (cv X 8 r1), some (cv X 8 r2), some (.int x3)] [] T Q) : cA ext X d 28 26 [some (cv X 1 r0), some (cv X 8 r1), some (cv X 8 r2), some (.int x3)] [] T Q := by
  intro S hS
  refine aw_ald j28_26 rfl (cv_isR _ _ _) ?_
  exact aw_null (r := (r2).map (X.1 8)) j28_27 (fun h => k_2 (cv_none h) _ hS) (fun c h => by obtain ⟨c, hc⟩ := cv_some h; exact k_3 c hc _ hS)
theorem bc28_30 {a0 : Nat} {r1 : Option Nat} {r2 : Option Nat} {x3 : Int32} {P_2 : cT → Prop} (l_1 : X.2.1 1 a0) (m_5 : cCv ext X d 27 [cv X 1 (some a0), cv X 8 r2] T P_2) (k_6 : ∀ T_3, P_2 T_3 → cA ext X (d + 1) 28 35 [some (cv X 1 (some a0)), some (cv X 8 r1), some (cv X 8 r2), some (.int x3)] [] T_3 Q) : cA ext X (d + 1) 28 30 [some (cv X 1 (some a0)), some (cv X 8 r1), some (cv X 8 r2), some (.int x3)] [] T Q := by
  intro S hS
  refine aw_ald j28_30 rfl (cv_isR _ _ _) ?_
  refine aw_ald j28_31 rfl (cv_isR _ _ _) ?_
  refine aw_callv (as := [cv X 1 (some a0), cv X 8 r2]) j28_32 rfl rfl (Nat.le_of_ble_eq_true rfl) cy27.1 cy27.2 (cs_cons rfl (cs_cons (cv_cat _ _ _) cs_nil)) (decide_eq_true (hS.kd l_1)) (m_5 _ hS) (fun S1 h1 => ?_)
  obtain ⟨W1, h1, h2⟩ := h1
  exact k_6 W1 h2 S1 h1
theorem bc28_35 {r0 : Option Nat} {r1 : Option Nat} {a2 : Nat} {x3 : Int32} (l_1 : X.2.1 8 a2) (k_2 : cA ext X d 28 20 [some (cv X 1 r0), some (cv X 8 r1), some (cv X 8 (T.2 8 a2 8)), some (.int (x3 + 1))] [] T Q) : cA ext X d 28 35 [some (cv X 1 r0), some (cv X 8 r1), some (cv X 8 (some a2)), some (.int x3)] [] T Q := by
  intro S hS
  refine aw_ald j28_35 rfl (cv_isR _ _ _) ?_
  refine aw_get j28_36 (hS.kd l_1) (hS.r 8 rfl l_1) ?_
  refine aw_ast j28_39 (cv_isR _ _ _) (Nat.le_of_ble_eq_true rfl) ?_
  refine aw_inc j28_40 rfl ?_
  exact aw_goto j28_43 (k_2 _ hS)
theorem bc28_46 {r0 : Option Nat} {r1 : Option Nat} {r2 : Option Nat} {x3 : Int32}  (k_1 : ∀ S, cr X T S → Q none S) : cA ext X d 28 46 [some (cv X 1 r0), some (cv X 8 r1), some (cv X 8 r2), some (.int x3)] [] T Q := by
  intro S hS
  exact aw_vret j28_46 rt28 (k_1 _ hS)
/-! Reading_goThrough -/
theorem bc30_0 {a0 : Nat} {r1 : Option Nat} {o2 : Option Value} {o3 : Option Value} {P_2 : cT → Prop} (l_1 : X.2.1 2 a0) (m_5 : cCv ext X d 96 [cv X 27 (some a0), .int (0 : Int32)] T P_2) (k_6 : ∀ T_3, P_2 T_3 → cA ext X (d + 1) 30 8 [some (cv X 2 (some a0)), some (cv X 8 r1), o2, o3] [] T_3 Q) : cA ext X (d + 1) 30 0 [some (cv X 2 (some a0)), some (cv X 8 r1), o2, o3] [] T Q := by
  intro S hS
  refine aw_ald j30_0 rfl (cv_isR _ _ _) ?_
  refine aw_get j30_1 (hS.kd l_1) (hS.f 3 rfl l_1) ?_
  refine aw_con j30_4 ?_
  refine aw_callv (as := [cv X 27 (some a0), .int (0 : Int32)]) j30_5 rfl rfl (Nat.le_of_ble_eq_true rfl) cy96.1 cy96.2 (cs_cons rfl (cs_cons rfl cs_nil)) rfl (m_5 _ hS) (fun S1 h1 => ?_)
  obtain ⟨W1, h1, h2⟩ := h1
  exact k_6 W1 h2 S1 h1
theorem bc30_8 {a0 : Nat} {a1 : Nat} {o2 : Option Value} {o3 : Option Value} {P_3 : Option Nat → cT → Prop} (l_1 : X.2.1 2 a0) (l_2 : X.2.1 8 a1) (m_6 : cCr ext X 8 d 55 [cv X 8 (some a1), cv X 8 (some a1)] (iset (iset T 2 a0 2 (0 : Int32)) 2 a0 5 (0 : Int32)) P_3) (k_7 : ∀ v_5 T_4, P_3 v_5 T_4 → cA ext X (d + 1) 30 23 [some (cv X 2 (some a0)), some (cv X 8 (some a1)), o2, o3] [cv X 8 v_5] T_4 Q) : cA ext X (d + 1) 30 8 [some (cv X 2 (some a0)), some (cv X 8 (some a1)), o2, o3] [] T Q := by
  intro S hS
  refine aw_ald j30_8 rfl (cv_isR _ _ _) ?_
  refine aw_con j30_9 ?_
  refine aw_put j30_10 (hS.kd l_1) rfl ?_
  have hS := hS.seti (s := 2) 2 (0 : Int32) rfl rfl l_1
  refine aw_ald j30_13 rfl (cv_isR _ _ _) ?_
  refine aw_con j30_14 ?_
  refine aw_put j30_15 (hS.kd l_1) rfl ?_
  have hS := hS.seti (s := 2) 5 (0 : Int32) rfl rfl l_1
  refine aw_ald j30_18 rfl (cv_isR _ _ _) ?_
  refine aw_ald j30_19 rfl (cv_isR _ _ _) ?_
  refine aw_callr (as := [cv X 8 (some a1), cv X 8 (some a1)]) j30_20 rfl rfl (Nat.le_of_ble_eq_true rfl) cy55.1 cy55.2 (cs_cons rfl (cs_cons rfl cs_nil)) (decide_eq_true (hS.kd l_2)) (m_6 _ hS) (fun v1 S1 h1 => ?_)
  obtain ⟨o1, W1, he, h1, h2⟩ := h1
  subst he
  exact k_7 o1 W1 h2 S1 h1
theorem bc30_23 {r0 : Option Nat} {r1 : Option Nat} {o2 : Option Value} {o3 : Option Value} {rk0 : Option Nat}  (k_1 : cA ext X d 30 26 [some (cv X 2 r0), some (cv X 8 r1), some (cv X 8 rk0), some (.int (0 : Int32))] [] T Q) : cA ext X d 30 23 [some (cv X 2 r0), some (cv X 8 r1), o2, o3] [cv X 8 rk0] T Q := by
  intro S hS
  refine aw_ast j30_23 (cv_isR _ _ _) (Nat.le_of_ble_eq_true rfl) ?_
  refine aw_con j30_24 ?_
  refine aw_ist j30_25 (Nat.le_of_ble_eq_true rfl) ?_
  exact k_1 _ hS
theorem bc30_26 {r0 : Option Nat} {r1 : Option Nat} {r2 : Option Nat} {x3 : Int32}  (k_1 : ((1000 : Int32) ≤ x3) → cA ext X d 30 70 [some (cv X 2 r0), some (cv X 8 r1), some (cv X 8 r2), some (.int x3)] [] T Q) (k_2 : (¬ ((1000 : Int32) ≤ x3)) → cA ext X d 30 33 [some (cv X 2 r0), some (cv X 8 r1), some (cv X 8 r2), some (.int x3)] [] T Q) : cA ext X d 30 26 [some (cv X 2 r0), some (cv X 8 r1), some (cv X 8 r2), some (.int x3)] [] T Q := by
  intro S hS
  refine aw_ild j30_26 rfl ?_
  refine aw_con j30_27 ?_
  exact aw_ic j30_30 (fun h => k_1 (of_decide_eq_true h) _ hS) (fun h => k_2 (of_decide_eq_false h) _ hS)
theorem bc30_33 {r0 : Option Nat} {r1 : Option Nat} {r2 : Option Nat} {x3 : Int32}  (k_2 : r2 = none → cA ext X d 30 70 [some (cv X 2 r0), some (cv X 8 r1), some (cv X 8 r2), some (.int x3)] [] T Q) (k_3 : ∀ c_1, r2 = some c_1 → cA ext X d 30 37 [some (cv X 2 r0), some (cv X 8 r1), some (cv X 8 r2), some (.int x3)] [] T Q) : cA ext X d 30 33 [some (cv X 2 r0), some (cv X 8 r1), some (cv X 8 r2), some (.int x3)] [] T Q := by
  intro S hS
  refine aw_ald j30_33 rfl (cv_isR _ _ _) ?_
  exact aw_null (r := (r2).map (X.1 8)) j30_34 (fun h => k_2 (cv_none h) _ hS) (fun c h => by obtain ⟨c, hc⟩ := cv_some h; exact k_3 c hc _ hS)
theorem bc30_37 {a0 : Nat} {r1 : Option Nat} {r2 : Option Nat} {x3 : Int32} {P_2 : cT → Prop} (l_1 : X.2.1 2 a0) (m_5 : cCv ext X d 31 [cv X 2 (some a0), cv X 8 r2] T P_2) (k_6 : ∀ T_3, P_2 T_3 → cA ext X (d + 1) 30 42 [some (cv X 2 (some a0)), some (cv X 8 r1), some (cv X 8 r2), some (.int x3)] [] T_3 Q) : cA ext X (d + 1) 30 37 [some (cv X 2 (some a0)), some (cv X 8 r1), some (cv X 8 r2), some (.int x3)] [] T Q := by
  intro S hS
  refine aw_ald j30_37 rfl (cv_isR _ _ _) ?_
  refine aw_ald j30_38 rfl (cv_isR _ _ _) ?_
  refine aw_callv (as := [cv X 2 (some a0), cv X 8 r2]) j30_39 rfl rfl (Nat.le_of_ble_eq_true rfl) cy31.1 cy31.2 (cs_cons rfl (cs_cons (cv_cat _ _ _) cs_nil)) (decide_eq_true (hS.kd l_1)) (m_5 _ hS) (fun S1 h1 => ?_)
  obtain ⟨W1, h1, h2⟩ := h1
  exact k_6 W1 h2 S1 h1
theorem bc30_42 {r0 : Option Nat} {r1 : Option Nat} {a2 : Nat} {x3 : Int32} (l_1 : X.2.1 8 a2) (k_3 : (T.2 8 a2 9) = none → cA ext X d 30 57 [some (cv X 2 r0), some (cv X 8 r1), some (cv X 8 (some a2)), some (.int x3)] [] T Q) (k_4 : ∀ c_2, (T.2 8 a2 9) = some c_2 → cA ext X d 30 49 [some (cv X 2 r0), some (cv X 8 r1), some (cv X 8 (some a2)), some (.int x3)] [] T Q) : cA ext X d 30 42 [some (cv X 2 r0), some (cv X 8 r1), some (cv X 8 (some a2)), some (.int x3)] [] T Q := by
  intro S hS
  refine aw_ald j30_42 rfl (cv_isR _ _ _) ?_
  refine aw_get j30_43 (hS.kd l_1) (hS.r 9 rfl l_1) ?_
  exact aw_null (r := ((T.2 8 a2 9)).map (X.1 8)) j30_46 (fun h => k_3 (cv_none h) _ hS) (fun c h => by obtain ⟨c, hc⟩ := cv_some h; exact k_4 c hc _ hS)
theorem bc30_49 {a0 : Nat} {r1 : Option Nat} {r2 : Option Nat} {x3 : Int32} {P_2 : Option Nat → cT → Prop} (l_1 : X.2.1 2 a0) (m_5 : cCr ext X 8 d 32 [cv X 2 (some a0), cv X 8 r2] T P_2) (k_6 : ∀ v_4 T_3, P_2 v_4 T_3 → cA ext X (d + 1) 30 54 [some (cv X 2 (some a0)), some (cv X 8 r1), some (cv X 8 r2), some (.int x3)] [cv X 8 v_4] T_3 Q) : cA ext X (d + 1) 30 49 [some (cv X 2 (some a0)), some (cv X 8 r1), some (cv X 8 r2), some (.int x3)] [] T Q := by
  intro S hS
  refine aw_ald j30_49 rfl (cv_isR _ _ _) ?_
  refine aw_ald j30_50 rfl (cv_isR _ _ _) ?_
  refine aw_callr (as := [cv X 2 (some a0), cv X 8 r2]) j30_51 rfl rfl (Nat.le_of_ble_eq_true rfl) cy32.1 cy32.2 (cs_cons rfl (cs_cons (cv_cat _ _ _) cs_nil)) (decide_eq_true (hS.kd l_1)) (m_5 _ hS) (fun v1 S1 h1 => ?_)
  obtain ⟨o1, W1, he, h1, h2⟩ := h1
  subst he
  exact k_6 o1 W1 h2 S1 h1
theorem bc30_54 {r0 : Option Nat} {r1 : Option Nat} {r2 : Option Nat} {x3 : Int32} {rk0 : Option Nat}  (k_1 : cA ext X d 30 63 [some (cv X 2 r0), some (cv X 8 r1), some (cv X 8 r2), some (.int x3)] [cv X 8 rk0] T Q) : cA ext X d 30 54 [some (cv X 2 r0), some (cv X 8 r1), some (cv X 8 r2), some (.int x3)] [cv X 8 rk0] T Q := by
  intro S hS
  exact aw_goto j30_54 (k_1 _ hS)
theorem bc30_57 {a0 : Nat} {r1 : Option Nat} {r2 : Option Nat} {x3 : Int32} {P_2 : Option Nat → cT → Prop} (l_1 : X.2.1 2 a0) (m_5 : cCr ext X 8 d 33 [cv X 2 (some a0), cv X 8 r2, cv X 8 r1] T P_2) (k_6 : ∀ v_4 T_3, P_2 v_4 T_3 → cA ext X (d + 1) 30 63 [some (cv X 2 (some a0)), some (cv X 8 r1), some (cv X 8 r2), some (.int x3)] [cv X 8 v_4] T_3 Q) : cA ext X (d + 1) 30 57 [some (cv X 2 (some a0)), some (cv X 8 r1), some (cv X 8 r2), some (.int x3)] [] T Q := by
  intro S hS
  refine aw_ald j30_57 rfl (cv_isR _ _ _) ?_
  refine aw_ald j30_58 rfl (cv_isR _ _ _) ?_
  refine aw_ald j30_59 rfl (cv_isR _ _ _) ?_
  refine aw_callr (as := [cv X 2 (some a0), cv X 8 r2, cv X 8 r1]) j30_60 rfl rfl (Nat.le_of_ble_eq_true rfl) cy33.1 cy33.2 (cs_cons rfl (cs_cons (cv_cat _ _ _) (cs_cons (cv_cat _ _ _) cs_nil))) (decide_eq_true (hS.kd l_1)) (m_5 _ hS) (fun v1 S1 h1 => ?_)
  obtain ⟨o1, W1, he, h1, h2⟩ := h1
  subst he
  exact k_6 o1 W1 h2 S1 h1
theorem bc30_63 {r0 : Option Nat} {r1 : Option Nat} {r2 : Option Nat} {x3 : Int32} {rk0 : Option Nat}  (k_1 : cA ext X d 30 26 [some (cv X 2 r0), some (cv X 8 r1), some (cv X 8 rk0), some (.int (x3 + 1))] [] T Q) : cA ext X d 30 63 [some (cv X 2 r0), some (cv X 8 r1), some (cv X 8 r2), some (.int x3)] [cv X 8 rk0] T Q := by
  intro S hS
  refine aw_ast j30_63 (cv_isR _ _ _) (Nat.le_of_ble_eq_true rfl) ?_
  refine aw_inc j30_64 rfl ?_
  exact aw_goto j30_67 (k_1 _ hS)
theorem bc30_70 {r0 : Option Nat} {r1 : Option Nat} {r2 : Option Nat} {x3 : Int32}  (k_1 : ∀ S, cr X T S → Q none S) : cA ext X d 30 70 [some (cv X 2 r0), some (cv X 8 r1), some (cv X 8 r2), some (.int x3)] [] T Q := by
  intro S hS
  exact aw_vret j30_70 rt30 (k_1 _ hS)
/-! Reading_meet -/
theorem bc31_0 {a0 : Nat} {r1 : Option Nat} (l_1 : X.2.1 2 a0) (k_2 : ((nI 1000) ≤ (T.1 2 a0 2)) → cA ext X d 31 31 [some (cv X 2 (some a0)), some (cv X 8 r1)] [] T Q) (k_3 : (¬ ((nI 1000) ≤ (T.1 2 a0 2))) → cA ext X d 31 12 [some (cv X 2 (some a0)), some (cv X 8 r1)] [] T Q) : cA ext X d 31 0 [some (cv X 2 (some a0)), some (cv X 8 r1)] [] T Q := by
  intro S hS
  refine aw_ald j31_0 rfl (cv_isR _ _ _) ?_
  refine aw_get j31_1 (hS.kd l_1) (hS.i 2 rfl rfl l_1) ?_
  refine aw_ald j31_4 rfl (cv_isR _ _ _) ?_
  refine aw_get j31_5 (hS.kd l_1) (hS.f 0 rfl l_1) ?_
  refine aw_len j31_8 (hS.kd (hS.fl (s := 2) 0 rfl l_1)) ?_
  exact aw_ic j31_9 (fun h => k_2 (of_decide_eq_true h) _ hS) (fun h => k_3 (of_decide_eq_false h) _ hS)
theorem bc31_12 {r0 : Option Nat} {a1 : Nat} (l_1 : X.2.1 8 a1) (k_2 : ((T.1 8 a1 0) < 0) → cA ext X d 31 31 [some (cv X 2 r0), some (cv X 8 (some a1))] [] T Q) (k_3 : (¬ ((T.1 8 a1 0) < 0)) → cA ext X d 31 19 [some (cv X 2 r0), some (cv X 8 (some a1))] [] T Q) : cA ext X d 31 12 [some (cv X 2 r0), some (cv X 8 (some a1))] [] T Q := by
  intro S hS
  refine aw_ald j31_12 rfl (cv_isR _ _ _) ?_
  refine aw_get j31_13 (hS.kd l_1) (hS.i 0 rfl rfl l_1) ?_
  exact aw_if j31_16 (fun h => k_2 (of_decide_eq_true h) _ hS) (fun h => k_3 (of_decide_eq_false h) _ hS)
theorem bc31_19 {a0 : Nat} {a1 : Nat} (l_1 : X.2.1 2 a0) (l_2 : X.2.1 8 a1) (k_3 : ((T.1 8 a1 0) < (nI 120)) → cA ext X d 31 32 [some (cv X 2 (some a0)), some (cv X 8 (some a1))] [] T Q) (k_4 : (¬ ((T.1 8 a1 0) < (nI 120))) → cA ext X d 31 31 [some (cv X 2 (some a0)), some (cv X 8 (some a1))] [] T Q) : cA ext X d 31 19 [some (cv X 2 (some a0)), some (cv X 8 (some a1))] [] T Q := by
  intro S hS
  refine aw_ald j31_19 rfl (cv_isR _ _ _) ?_
  refine aw_get j31_20 (hS.kd l_2) (hS.i 0 rfl rfl l_2) ?_
  refine aw_ald j31_23 rfl (cv_isR _ _ _) ?_
  refine aw_get j31_24 (hS.kd l_1) (hS.f 3 rfl l_1) ?_
  refine aw_len j31_27 (hS.kd (hS.fl (s := 2) 3 rfl l_1)) ?_
  exact aw_ic j31_28 (fun h => k_3 (of_decide_eq_true h) _ hS) (fun h => k_4 (of_decide_eq_false h) _ hS)
theorem bc31_31 {r0 : Option Nat} {r1 : Option Nat}  (k_1 : ∀ S, cr X T S → Q none S) : cA ext X d 31 31 [some (cv X 2 r0), some (cv X 8 r1)] [] T Q := by
  intro S hS
  exact aw_vret j31_31 rt31 (k_1 _ hS)
theorem bc31_32 {a0 : Nat} {r1 : Option Nat} {i_2 : Nat} (l_1 : X.2.1 2 a0) (e_3 : (T.1 2 a0 2) = nI i_2) (c_4 : i_2 < 1000) (l_5 : ∀ j, r1 = some j → X.2.1 8 j) (k_6 : (((oset T 25 a0 i_2 r1).1 2 a0 5) ≤ 0) → cA ext X d 31 66 [some (cv X 2 (some a0)), some (cv X 8 r1)] [.int ((oset T 25 a0 i_2 r1).1 2 a0 2), cv X 26 (some a0)] (oset T 25 a0 i_2 r1) Q) (k_7 : (¬ (((oset T 25 a0 i_2 r1).1 2 a0 5) ≤ 0)) → cA ext X d 31 57 [some (cv X 2 (some a0)), some (cv X 8 r1)] [.int ((oset T 25 a0 i_2 r1).1 2 a0 2), cv X 26 (some a0)] (oset T 25 a0 i_2 r1) Q) : cA ext X d 31 32 [some (cv X 2 (some a0)), some (cv X 8 r1)] [] T Q := by
  intro S hS
  refine aw_ald j31_32 rfl (cv_isR _ _ _) ?_
  refine aw_get j31_33 (hS.kd l_1) (hS.f 0 rfl l_1) ?_
  refine aw_ald j31_36 rfl (cv_isR _ _ _) ?_
  refine aw_get j31_37 (hS.kd l_1) (hS.i 2 rfl rfl l_1) ?_
  refine aw_ald j31_40 rfl (cv_isR _ _ _) ?_
  refine aw_ast2 (n := 1000) (r := (r1).map (X.1 8)) j31_41 (hS.kd (hS.fl (s := 2) 0 rfl l_1)) e_3 c_4 (by decide) (hS.tv l_5) ?_
  have hS := hS.setr (s := 25) i_2 r1 rfl rfl (hS.fl (s := 2) 0 rfl l_1) l_5
  refine aw_ald j31_42 rfl (cv_isR _ _ _) ?_
  refine aw_get j31_43 (hS.kd l_1) (hS.f 1 rfl l_1) ?_
  refine aw_ald j31_46 rfl (cv_isR _ _ _) ?_
  refine aw_get j31_47 (hS.kd l_1) (hS.i 2 rfl rfl l_1) ?_
  refine aw_ald j31_50 rfl (cv_isR _ _ _) ?_
  refine aw_get j31_51 (hS.kd l_1) (hS.i 5 rfl rfl l_1) ?_
  exact aw_if j31_54 (fun h => k_6 (of_decide_eq_true h) _ hS) (fun h => k_7 (of_decide_eq_false h) _ hS)
theorem bc31_57 {a0 : Nat} {r1 : Option Nat} {rk0 : Option Nat} {xk1 : Int32} (l_1 : X.2.1 2 a0) (k_2 : cA ext X d 31 67 [some (cv X 2 (some a0)), some (cv X 8 r1)] [cv X 8 (T.2 28 a0 0), .int xk1, cv X 26 rk0] T Q) : cA ext X d 31 57 [some (cv X 2 (some a0)), some (cv X 8 r1)] [.int xk1, cv X 26 rk0] T Q := by
  intro S hS
  refine aw_ald j31_57 rfl (cv_isR _ _ _) ?_
  refine aw_get j31_58 (hS.kd l_1) (hS.f 4 rfl l_1) ?_
  refine aw_con j31_61 ?_
  refine aw_xld (n := 120) j31_62 (hS.kd (hS.fl (s := 2) 4 rfl l_1)) (by decide) (by decide) (by decide) (hS.r 0 rfl (hS.fl (s := 2) 4 rfl l_1)) ?_
  exact aw_goto j31_63 (k_2 _ hS)
theorem bc31_66 {r0 : Option Nat} {r1 : Option Nat} {rk0 : Option Nat} {xk1 : Int32}  (k_1 : cA ext X d 31 67 [some (cv X 2 r0), some (cv X 8 r1)] [cv X 8 r1, .int xk1, cv X 26 rk0] T Q) : cA ext X d 31 66 [some (cv X 2 r0), some (cv X 8 r1)] [.int xk1, cv X 26 rk0] T Q := by
  intro S hS
  refine aw_ald j31_66 rfl (cv_isR _ _ _) ?_
  exact k_1 _ hS
theorem bc31_67 {a0 : Nat} {a1 : Nat} {ak0 : Nat} {xk1 : Int32} {rk2 : Option Nat} {i_4 : Nat} {i_8 : Nat} (l_1 : X.2.1 2 a0) (l_2 : X.2.1 8 a1) (l_3 : X.2.1 26 ak0) (e_5 : xk1 = nI i_4) (c_6 : i_4 < 1000) (l_7 : ∀ j, rk2 = some j → X.2.1 8 j) (e_9 : ((iset (oset T 26 ak0 i_4 rk2) 2 a0 2 (((oset T 26 ak0 i_4 rk2).1 2 a0 2) + (1 : Int32))).1 8 a1 0) = nI i_8) (c_10 : i_8 < 120) (k_11 : ∀ S, cr X (iset (iset (oset T 26 ak0 i_4 rk2) 2 a0 2 (((oset T 26 ak0 i_4 rk2).1 2 a0 2) + (1 : Int32))) 27 a0 i_8 (((iset (oset T 26 ak0 i_4 rk2) 2 a0 2 (((oset T 26 ak0 i_4 rk2).1 2 a0 2) + (1 : Int32))).1 27 a0 i_8) + (1 : Int32))) S → Q none S) : cA ext X d 31 67 [some (cv X 2 (some a0)), some (cv X 8 (some a1))] [cv X 8 rk2, .int xk1, cv X 26 (some ak0)] T Q := by
  intro S hS
  refine aw_ast2 (n := 1000) (r := (rk2).map (X.1 8)) j31_67 (hS.kd l_3) e_5 c_6 (by decide) (hS.tv l_7) ?_
  have hS := hS.setr (s := 26) i_4 rk2 rfl rfl l_3 l_7
  refine aw_ald j31_68 rfl (cv_isR _ _ _) ?_
  refine aw_dup j31_69 rfl ?_
  refine aw_get j31_70 (hS.kd l_1) (hS.i 2 rfl rfl l_1) ?_
  refine aw_con j31_73 ?_
  refine aw_bin (z := (((oset T 26 ak0 i_4 rk2).1 2 a0 2) + (1 : Int32))) j31_74 rfl ?_
  refine aw_put j31_75 (hS.kd l_1) rfl ?_
  have hS := hS.seti (s := 2) 2 (((oset T 26 ak0 i_4 rk2).1 2 a0 2) + (1 : Int32)) rfl rfl l_1
  refine aw_ald j31_78 rfl (cv_isR _ _ _) ?_
  refine aw_get j31_79 (hS.kd l_1) (hS.f 3 rfl l_1) ?_
  refine aw_ald j31_82 rfl (cv_isR _ _ _) ?_
  refine aw_get j31_83 (hS.kd l_2) (hS.i 0 rfl rfl l_2) ?_
  refine aw_dup2 j31_86 rfl rfl ?_
  refine aw_xld (n := 120) j31_87 (hS.kd (hS.fl (s := 2) 3 rfl l_1)) e_9 c_10 (by decide) (hS.i i_8 rfl rfl (hS.fl (s := 2) 3 rfl l_1)) ?_
  refine aw_con j31_88 ?_
  refine aw_bin (z := (((iset (oset T 26 ak0 i_4 rk2) 2 a0 2 (((oset T 26 ak0 i_4 rk2).1 2 a0 2) + (1 : Int32))).1 27 a0 i_8) + (1 : Int32))) j31_89 rfl ?_
  refine aw_xst (n := 120) j31_90 (hS.kd (hS.fl (s := 2) 3 rfl l_1)) e_9 c_10 (by decide) ?_
  have hS := hS.seti (s := 27) i_8 (((iset (oset T 26 ak0 i_4 rk2) 2 a0 2 (((oset T 26 ak0 i_4 rk2).1 2 a0 2) + (1 : Int32))).1 27 a0 i_8) + (1 : Int32)) rfl rfl (hS.fl (s := 2) 3 rfl l_1)
  exact aw_vret j31_91 rt31 (k_11 _ hS)
/-! Reading_enter -/
theorem bc32_0 {a0 : Nat} {r1 : Option Nat} (l_1 : X.2.1 2 a0) (k_2 : ((T.1 2 a0 5) < (nI 120)) → cA ext X d 32 14 [some (cv X 2 (some a0)), some (cv X 8 r1)] [] T Q) (k_3 : (¬ ((T.1 2 a0 5) < (nI 120))) → cA ext X d 32 12 [some (cv X 2 (some a0)), some (cv X 8 r1)] [] T Q) : cA ext X d 32 0 [some (cv X 2 (some a0)), some (cv X 8 r1)] [] T Q := by
  intro S hS
  refine aw_ald j32_0 rfl (cv_isR _ _ _) ?_
  refine aw_get j32_1 (hS.kd l_1) (hS.i 5 rfl rfl l_1) ?_
  refine aw_ald j32_4 rfl (cv_isR _ _ _) ?_
  refine aw_get j32_5 (hS.kd l_1) (hS.f 4 rfl l_1) ?_
  refine aw_len j32_8 (hS.kd (hS.fl (s := 2) 4 rfl l_1)) ?_
  exact aw_ic j32_9 (fun h => k_2 (of_decide_eq_true h) _ hS) (fun h => k_3 (of_decide_eq_false h) _ hS)
theorem bc32_12 {r0 : Option Nat} {r1 : Option Nat}  (k_1 : ∀ S, cr X T S → Q (some (cv X 8 none)) S) : cA ext X d 32 12 [some (cv X 2 r0), some (cv X 8 r1)] [] T Q := by
  intro S hS
  refine aw_nul j32_12 ?_
  exact aw_ret j32_13 (by rw [rt32]; exact rfl) (k_1 _ hS)
theorem bc32_14 {a0 : Nat} {a1 : Nat} {i_3 : Nat} (l_1 : X.2.1 2 a0) (l_2 : X.2.1 8 a1) (e_4 : (T.1 2 a0 5) = nI i_3) (c_5 : i_3 < 120) (k_6 : ∀ S, cr X (iset (oset T 28 a0 i_3 (some a1)) 2 a0 5 (((oset T 28 a0 i_3 (some a1)).1 2 a0 5) + (1 : Int32))) S → Q (some (cv X 8 ((iset (oset T 28 a0 i_3 (some a1)) 2 a0 5 (((oset T 28 a0 i_3 (some a1)).1 2 a0 5) + (1 : Int32))).2 8 a1 9))) S) : cA ext X d 32 14 [some (cv X 2 (some a0)), some (cv X 8 (some a1))] [] T Q := by
  intro S hS
  refine aw_ald j32_14 rfl (cv_isR _ _ _) ?_
  refine aw_get j32_15 (hS.kd l_1) (hS.f 4 rfl l_1) ?_
  refine aw_ald j32_18 rfl (cv_isR _ _ _) ?_
  refine aw_get j32_19 (hS.kd l_1) (hS.i 5 rfl rfl l_1) ?_
  refine aw_ald j32_22 rfl (cv_isR _ _ _) ?_
  refine aw_ast2 (n := 120) (r := ((some a1)).map (X.1 8)) j32_23 (hS.kd (hS.fl (s := 2) 4 rfl l_1)) e_4 c_5 (by decide) (hS.tv (fun j hj => by cases hj; exact l_2)) ?_
  have hS := hS.setr (s := 28) i_3 (some a1) rfl rfl (hS.fl (s := 2) 4 rfl l_1) (fun j hj => by cases hj; exact l_2)
  refine aw_ald j32_24 rfl (cv_isR _ _ _) ?_
  refine aw_dup j32_25 rfl ?_
  refine aw_get j32_26 (hS.kd l_1) (hS.i 5 rfl rfl l_1) ?_
  refine aw_con j32_29 ?_
  refine aw_bin (z := (((oset T 28 a0 i_3 (some a1)).1 2 a0 5) + (1 : Int32))) j32_30 rfl ?_
  refine aw_put j32_31 (hS.kd l_1) rfl ?_
  have hS := hS.seti (s := 2) 5 (((oset T 28 a0 i_3 (some a1)).1 2 a0 5) + (1 : Int32)) rfl rfl l_1
  refine aw_ald j32_34 rfl (cv_isR _ _ _) ?_
  refine aw_get j32_35 (hS.kd l_2) (hS.r 9 rfl l_2) ?_
  exact aw_ret j32_38 (by rw [rt32]; exact (cv_fo _ _ _ _)) (k_6 _ hS)
/-! Reading_behind -/
theorem bc33_0 {a0 : Nat} {r1 : Option Nat} {r2 : Option Nat} {o3 : Option Value} {o4 : Option Value} {o5 : Option Value} {P_2 : Option Nat → cT → Prop} (l_1 : X.2.1 2 a0) (m_5 : cCr ext X 8 d 34 [cv X 2 (some a0), cv X 8 r2] T P_2) (k_6 : ∀ v_4 T_3, P_2 v_4 T_3 → cA ext X (d + 1) 33 6 [some (cv X 2 (some a0)), some (cv X 8 r1), some (cv X 8 r2), o3, o4, o5] [cv X 8 v_4, cv X 8 r1] T_3 Q) : cA ext X (d + 1) 33 0 [some (cv X 2 (some a0)), some (cv X 8 r1), some (cv X 8 r2), o3, o4, o5] [] T Q := by
  intro S hS
  refine aw_ald j33_0 rfl (cv_isR _ _ _) ?_
  refine aw_ald j33_1 rfl (cv_isR _ _ _) ?_
  refine aw_ald j33_2 rfl (cv_isR _ _ _) ?_
  refine aw_callr (as := [cv X 2 (some a0), cv X 8 r2]) j33_3 rfl rfl (Nat.le_of_ble_eq_true rfl) cy34.1 cy34.2 (cs_cons rfl (cs_cons (cv_cat _ _ _) cs_nil)) (decide_eq_true (hS.kd l_1)) (m_5 _ hS) (fun v1 S1 h1 => ?_)
  obtain ⟨o1, W1, he, h1, h2⟩ := h1
  subst he
  exact k_6 o1 W1 h2 S1 h1
theorem bc33_6 {r0 : Option Nat} {r1 : Option Nat} {r2 : Option Nat} {o3 : Option Value} {o4 : Option Value} {o5 : Option Value} {ak0 : Nat} {rk1 : Option Nat} {P_2 : Option Nat → cT → Prop} (l_1 : X.2.1 8 ak0) (m_5 : cCr ext X 8 d 55 [cv X 8 (some ak0), cv X 8 rk1] T P_2) (k_6 : ∀ v_4 T_3, P_2 v_4 T_3 → cA ext X (d + 1) 33 9 [some (cv X 2 r0), some (cv X 8 r1), some (cv X 8 r2), o3, o4, o5] [cv X 8 v_4] T_3 Q) : cA ext X (d + 1) 33 6 [some (cv X 2 r0), some (cv X 8 r1), some (cv X 8 r2), o3, o4, o5] [cv X 8 rk1, cv X 8 (some ak0)] T Q := by
  intro S hS
  refine aw_callr (as := [cv X 8 (some ak0), cv X 8 rk1]) j33_6 rfl rfl (Nat.le_of_ble_eq_true rfl) cy55.1 cy55.2 (cs_cons rfl (cs_cons (cv_cat _ _ _) cs_nil)) (decide_eq_true (hS.kd l_1)) (m_5 _ hS) (fun v1 S1 h1 => ?_)
  obtain ⟨o1, W1, he, h1, h2⟩ := h1
  subst he
  exact k_6 o1 W1 h2 S1 h1
theorem bc33_9 {r0 : Option Nat} {r1 : Option Nat} {r2 : Option Nat} {o3 : Option Value} {o4 : Option Value} {o5 : Option Value} {rk0 : Option Nat}  (k_1 : cA ext X d 33 13 [some (cv X 2 r0), some (cv X 8 r1), some (cv X 8 r2), some (cv X 8 rk0), some (.int (0 : Int32)), o5] [] T Q) : cA ext X d 33 9 [some (cv X 2 r0), some (cv X 8 r1), some (cv X 8 r2), o3, o4, o5] [cv X 8 rk0] T Q := by
  intro S hS
  refine aw_ast j33_9 (cv_isR _ _ _) (Nat.le_of_ble_eq_true rfl) ?_
  refine aw_con j33_10 ?_
  refine aw_ist j33_11 (Nat.le_of_ble_eq_true rfl) ?_
  exact k_1 _ hS
theorem bc33_13 {r0 : Option Nat} {r1 : Option Nat} {r2 : Option Nat} {r3 : Option Nat} {x4 : Int32} {o5 : Option Value}  (k_1 : ((120 : Int32) ≤ x4) → cA ext X d 33 78 [some (cv X 2 r0), some (cv X 8 r1), some (cv X 8 r2), some (cv X 8 r3), some (.int x4), o5] [] T Q) (k_2 : (¬ ((120 : Int32) ≤ x4)) → cA ext X d 33 20 [some (cv X 2 r0), some (cv X 8 r1), some (cv X 8 r2), some (cv X 8 r3), some (.int x4), o5] [] T Q) : cA ext X d 33 13 [some (cv X 2 r0), some (cv X 8 r1), some (cv X 8 r2), some (cv X 8 r3), some (.int x4), o5] [] T Q := by
  intro S hS
  refine aw_ild j33_13 rfl ?_
  refine aw_con j33_15 ?_
  exact aw_ic j33_17 (fun h => k_1 (of_decide_eq_true h) _ hS) (fun h => k_2 (of_decide_eq_false h) _ hS)
theorem bc33_20 {r0 : Option Nat} {r1 : Option Nat} {r2 : Option Nat} {r3 : Option Nat} {x4 : Int32} {o5 : Option Value}  (k_2 : r3 = none → cA ext X d 33 24 [some (cv X 2 r0), some (cv X 8 r1), some (cv X 8 r2), some (cv X 8 r3), some (.int x4), o5] [] T Q) (k_3 : ∀ c_1, r3 = some c_1 → cA ext X d 33 78 [some (cv X 2 r0), some (cv X 8 r1), some (cv X 8 r2), some (cv X 8 r3), some (.int x4), o5] [] T Q) : cA ext X d 33 20 [some (cv X 2 r0), some (cv X 8 r1), some (cv X 8 r2), some (cv X 8 r3), some (.int x4), o5] [] T Q := by
  intro S hS
  refine aw_ald j33_20 rfl (cv_isR _ _ _) ?_
  exact aw_nonn (r := (r3).map (X.1 8)) j33_21 (fun h => k_2 (cv_none h) _ hS) (fun c h => by obtain ⟨c, hc⟩ := cv_some h; exact k_3 c hc _ hS)
theorem bc33_24 {a0 : Nat} {r1 : Option Nat} {r2 : Option Nat} {r3 : Option Nat} {x4 : Int32} {o5 : Option Value} (l_1 : X.2.1 2 a0) (k_2 : ((T.1 2 a0 5) ≤ 0) → cA ext X d 33 78 [some (cv X 2 (some a0)), some (cv X 8 r1), some (cv X 8 r2), some (cv X 8 r3), some (.int x4), o5] [] T Q) (k_3 : (¬ ((T.1 2 a0 5) ≤ 0)) → cA ext X d 33 31 [some (cv X 2 (some a0)), some (cv X 8 r1), some (cv X 8 r2), some (cv X 8 r3), some (.int x4), o5] [] T Q) : cA ext X d 33 24 [some (cv X 2 (some a0)), some (cv X 8 r1), some (cv X 8 r2), some (cv X 8 r3), some (.int x4), o5] [] T Q := by
  intro S hS
  refine aw_ald j33_24 rfl (cv_isR _ _ _) ?_
  refine aw_get j33_25 (hS.kd l_1) (hS.i 5 rfl rfl l_1) ?_
  exact aw_if j33_28 (fun h => k_2 (of_decide_eq_true h) _ hS) (fun h => k_3 (of_decide_eq_false h) _ hS)
theorem bc33_31 {a0 : Nat} {r1 : Option Nat} {r2 : Option Nat} {r3 : Option Nat} {x4 : Int32} {o5 : Option Value} {i_2 : Nat} (l_1 : X.2.1 2 a0) (e_3 : ((iset T 2 a0 5 ((T.1 2 a0 5) - (1 : Int32))).1 2 a0 5) = nI i_2) (c_4 : i_2 < 120) (k_6 : ((iset T 2 a0 5 ((T.1 2 a0 5) - (1 : Int32))).2 28 a0 i_2) = none → cA ext X d 33 57 [some (cv X 2 (some a0)), some (cv X 8 r1), some (cv X 8 r2), some (cv X 8 r3), some (.int x4), some (cv X 8 ((iset T 2 a0 5 ((T.1 2 a0 5) - (1 : Int32))).2 28 a0 i_2))] [] (iset T 2 a0 5 ((T.1 2 a0 5) - (1 : Int32))) Q) (k_7 : ∀ c_5, ((iset T 2 a0 5 ((T.1 2 a0 5) - (1 : Int32))).2 28 a0 i_2) = some c_5 → cA ext X d 33 61 [some (cv X 2 (some a0)), some (cv X 8 r1), some (cv X 8 r2), some (cv X 8 r3), some (.int x4), some (cv X 8 ((iset T 2 a0 5 ((T.1 2 a0 5) - (1 : Int32))).2 28 a0 i_2))] [] (iset T 2 a0 5 ((T.1 2 a0 5) - (1 : Int32))) Q) : cA ext X d 33 31 [some (cv X 2 (some a0)), some (cv X 8 r1), some (cv X 8 r2), some (cv X 8 r3), some (.int x4), o5] [] T Q := by
  intro S hS
  refine aw_ald j33_31 rfl (cv_isR _ _ _) ?_
  refine aw_dup j33_32 rfl ?_
  refine aw_get j33_33 (hS.kd l_1) (hS.i 5 rfl rfl l_1) ?_
  refine aw_con j33_36 ?_
  refine aw_bin (z := ((T.1 2 a0 5) - (1 : Int32))) j33_37 rfl ?_
  refine aw_put j33_38 (hS.kd l_1) rfl ?_
  have hS := hS.seti (s := 2) 5 ((T.1 2 a0 5) - (1 : Int32)) rfl rfl l_1
  refine aw_ald j33_41 rfl (cv_isR _ _ _) ?_
  refine aw_get j33_42 (hS.kd l_1) (hS.f 4 rfl l_1) ?_
  refine aw_ald j33_45 rfl (cv_isR _ _ _) ?_
  refine aw_get j33_46 (hS.kd l_1) (hS.i 5 rfl rfl l_1) ?_
  refine aw_xld (n := 120) j33_49 (hS.kd (hS.fl (s := 2) 4 rfl l_1)) e_3 c_4 (by decide) (hS.r i_2 rfl (hS.fl (s := 2) 4 rfl l_1)) ?_
  refine aw_ast j33_50 (cv_isR _ _ _) (Nat.le_of_ble_eq_true rfl) ?_
  refine aw_ald j33_52 rfl (cv_isR _ _ _) ?_
  exact aw_nonn (r := (((iset T 2 a0 5 ((T.1 2 a0 5) - (1 : Int32))).2 28 a0 i_2)).map (X.1 8)) j33_54 (fun h => k_6 (cv_none h) _ hS) (fun c h => by obtain ⟨c, hc⟩ := cv_some h; exact k_7 c hc _ hS)
theorem bc33_57 {r0 : Option Nat} {r1 : Option Nat} {r2 : Option Nat} {r3 : Option Nat} {x4 : Int32} {r5 : Option Nat}  (k_1 : cA ext X d 33 71 [some (cv X 2 r0), some (cv X 8 r1), some (cv X 8 r2), some (cv X 8 r3), some (.int x4), some (cv X 8 r5)] [cv X 8 none] T Q) : cA ext X d 33 57 [some (cv X 2 r0), some (cv X 8 r1), some (cv X 8 r2), some (cv X 8 r3), some (.int x4), some (cv X 8 r5)] [] T Q := by
  intro S hS
  refine aw_nul j33_57 ?_
  exact aw_goto j33_58 (k_1 _ hS)
theorem bc33_61 {a0 : Nat} {r1 : Option Nat} {r2 : Option Nat} {r3 : Option Nat} {x4 : Int32} {r5 : Option Nat} {P_2 : Option Nat → cT → Prop} (l_1 : X.2.1 2 a0) (m_5 : cCr ext X 8 d 34 [cv X 2 (some a0), cv X 8 r2] T P_2) (k_6 : ∀ v_4 T_3, P_2 v_4 T_3 → cA ext X (d + 1) 33 68 [some (cv X 2 (some a0)), some (cv X 8 r1), some (cv X 8 r2), some (cv X 8 r3), some (.int x4), some (cv X 8 r5)] [cv X 8 v_4, cv X 8 r5] T_3 Q) : cA ext X (d + 1) 33 61 [some (cv X 2 (some a0)), some (cv X 8 r1), some (cv X 8 r2), some (cv X 8 r3), some (.int x4), some (cv X 8 r5)] [] T Q := by
  intro S hS
  refine aw_ald j33_61 rfl (cv_isR _ _ _) ?_
  refine aw_ald j33_63 rfl (cv_isR _ _ _) ?_
  refine aw_ald j33_64 rfl (cv_isR _ _ _) ?_
  refine aw_callr (as := [cv X 2 (some a0), cv X 8 r2]) j33_65 rfl rfl (Nat.le_of_ble_eq_true rfl) cy34.1 cy34.2 (cs_cons rfl (cs_cons (cv_cat _ _ _) cs_nil)) (decide_eq_true (hS.kd l_1)) (m_5 _ hS) (fun v1 S1 h1 => ?_)
  obtain ⟨o1, W1, he, h1, h2⟩ := h1
  subst he
  exact k_6 o1 W1 h2 S1 h1
theorem bc33_68 {r0 : Option Nat} {r1 : Option Nat} {r2 : Option Nat} {r3 : Option Nat} {x4 : Int32} {r5 : Option Nat} {ak0 : Nat} {rk1 : Option Nat} {P_2 : Option Nat → cT → Prop} (l_1 : X.2.1 8 ak0) (m_5 : cCr ext X 8 d 55 [cv X 8 (some ak0), cv X 8 rk1] T P_2) (k_6 : ∀ v_4 T_3, P_2 v_4 T_3 → cA ext X (d + 1) 33 71 [some (cv X 2 r0), some (cv X 8 r1), some (cv X 8 r2), some (cv X 8 r3), some (.int x4), some (cv X 8 r5)] [cv X 8 v_4] T_3 Q) : cA ext X (d + 1) 33 68 [some (cv X 2 r0), some (cv X 8 r1), some (cv X 8 r2), some (cv X 8 r3), some (.int x4), some (cv X 8 r5)] [cv X 8 rk1, cv X 8 (some ak0)] T Q := by
  intro S hS
  refine aw_callr (as := [cv X 8 (some ak0), cv X 8 rk1]) j33_68 rfl rfl (Nat.le_of_ble_eq_true rfl) cy55.1 cy55.2 (cs_cons rfl (cs_cons (cv_cat _ _ _) cs_nil)) (decide_eq_true (hS.kd l_1)) (m_5 _ hS) (fun v1 S1 h1 => ?_)
  obtain ⟨o1, W1, he, h1, h2⟩ := h1
  subst he
  exact k_6 o1 W1 h2 S1 h1
theorem bc33_71 {r0 : Option Nat} {r1 : Option Nat} {r2 : Option Nat} {r3 : Option Nat} {x4 : Int32} {r5 : Option Nat} {rk0 : Option Nat}  (k_1 : cA ext X d 33 13 [some (cv X 2 r0), some (cv X 8 r1), some (cv X 8 r2), some (cv X 8 rk0), some (.int (x4 + 1)), some (cv X 8 r5)] [] T Q) : cA ext X d 33 71 [some (cv X 2 r0), some (cv X 8 r1), some (cv X 8 r2), some (cv X 8 r3), some (.int x4), some (cv X 8 r5)] [cv X 8 rk0] T Q := by
  intro S hS
  refine aw_ast j33_71 (cv_isR _ _ _) (Nat.le_of_ble_eq_true rfl) ?_
  refine aw_inc j33_72 rfl ?_
  exact aw_goto j33_75 (k_1 _ hS)
theorem bc33_78 {r0 : Option Nat} {r1 : Option Nat} {r2 : Option Nat} {r3 : Option Nat} {x4 : Int32} {o5 : Option Value}  (k_1 : ∀ S, cr X T S → Q (some (cv X 8 r3)) S) : cA ext X d 33 78 [some (cv X 2 r0), some (cv X 8 r1), some (cv X 8 r2), some (cv X 8 r3), some (.int x4), o5] [] T Q := by
  intro S hS
  refine aw_ald j33_78 rfl (cv_isR _ _ _) ?_
  exact aw_ret j33_79 (by rw [rt33]; exact (cv_fo _ _ _ _)) (k_1 _ hS)
/-! Reading_innermost -/
theorem bc34_0 {a0 : Nat} {r1 : Option Nat} {o2 : Option Value} (l_1 : X.2.1 2 a0) (k_2 : ((T.1 2 a0 5) ≤ 0) → cA ext X d 34 19 [some (cv X 2 (some a0)), some (cv X 8 r1), o2] [] T Q) (k_3 : (¬ ((T.1 2 a0 5) ≤ 0)) → cA ext X d 34 7 [some (cv X 2 (some a0)), some (cv X 8 r1), o2] [] T Q) : cA ext X d 34 0 [some (cv X 2 (some a0)), some (cv X 8 r1), o2] [] T Q := by
  intro S hS
  refine aw_ald j34_0 rfl (cv_isR _ _ _) ?_
  refine aw_get j34_1 (hS.kd l_1) (hS.i 5 rfl rfl l_1) ?_
  exact aw_if j34_4 (fun h => k_2 (of_decide_eq_true h) _ hS) (fun h => k_3 (of_decide_eq_false h) _ hS)
theorem bc34_7 {a0 : Nat} {r1 : Option Nat} {o2 : Option Value} (l_1 : X.2.1 2 a0) (k_2 : ((T.1 2 a0 5) ≤ (nI 120)) → cA ext X d 34 21 [some (cv X 2 (some a0)), some (cv X 8 r1), o2] [] T Q) (k_3 : (¬ ((T.1 2 a0 5) ≤ (nI 120))) → cA ext X d 34 19 [some (cv X 2 (some a0)), some (cv X 8 r1), o2] [] T Q) : cA ext X d 34 7 [some (cv X 2 (some a0)), some (cv X 8 r1), o2] [] T Q := by
  intro S hS
  refine aw_ald j34_7 rfl (cv_isR _ _ _) ?_
  refine aw_get j34_8 (hS.kd l_1) (hS.i 5 rfl rfl l_1) ?_
  refine aw_ald j34_11 rfl (cv_isR _ _ _) ?_
  refine aw_get j34_12 (hS.kd l_1) (hS.f 4 rfl l_1) ?_
  refine aw_len j34_15 (hS.kd (hS.fl (s := 2) 4 rfl l_1)) ?_
  exact aw_ic j34_16 (fun h => k_2 (of_decide_eq_true h) _ hS) (fun h => k_3 (of_decide_eq_false h) _ hS)
theorem bc34_19 {r0 : Option Nat} {r1 : Option Nat} {o2 : Option Value}  (k_1 : ∀ S, cr X T S → Q (some (cv X 8 r1)) S) : cA ext X d 34 19 [some (cv X 2 r0), some (cv X 8 r1), o2] [] T Q := by
  intro S hS
  refine aw_ald j34_19 rfl (cv_isR _ _ _) ?_
  exact aw_ret j34_20 (by rw [rt34]; exact (cv_fo _ _ _ _)) (k_1 _ hS)
theorem bc34_21 {a0 : Nat} {r1 : Option Nat} {o2 : Option Value} {i_2 : Nat} (l_1 : X.2.1 2 a0) (e_3 : ((T.1 2 a0 5) - (1 : Int32)) = nI i_2) (c_4 : i_2 < 120) (k_6 : (T.2 28 a0 i_2) = none → cA ext X d 34 37 [some (cv X 2 (some a0)), some (cv X 8 r1), some (cv X 8 (T.2 28 a0 i_2))] [] T Q) (k_7 : ∀ c_5, (T.2 28 a0 i_2) = some c_5 → cA ext X d 34 41 [some (cv X 2 (some a0)), some (cv X 8 r1), some (cv X 8 (T.2 28 a0 i_2))] [] T Q) : cA ext X d 34 21 [some (cv X 2 (some a0)), some (cv X 8 r1), o2] [] T Q := by
  intro S hS
  refine aw_ald j34_21 rfl (cv_isR _ _ _) ?_
  refine aw_get j34_22 (hS.kd l_1) (hS.f 4 rfl l_1) ?_
  refine aw_ald j34_25 rfl (cv_isR _ _ _) ?_
  refine aw_get j34_26 (hS.kd l_1) (hS.i 5 rfl rfl l_1) ?_
  refine aw_con j34_29 ?_
  refine aw_bin (z := ((T.1 2 a0 5) - (1 : Int32))) j34_30 rfl ?_
  refine aw_xld (n := 120) j34_31 (hS.kd (hS.fl (s := 2) 4 rfl l_1)) e_3 c_4 (by decide) (hS.r i_2 rfl (hS.fl (s := 2) 4 rfl l_1)) ?_
  refine aw_ast j34_32 (cv_isR _ _ _) (Nat.le_of_ble_eq_true rfl) ?_
  refine aw_ald j34_33 rfl (cv_isR _ _ _) ?_
  exact aw_nonn (r := ((T.2 28 a0 i_2)).map (X.1 8)) j34_34 (fun h => k_6 (cv_none h) _ hS) (fun c h => by obtain ⟨c, hc⟩ := cv_some h; exact k_7 c hc _ hS)
theorem bc34_37 {r0 : Option Nat} {r1 : Option Nat} {r2 : Option Nat}  (k_1 : cA ext X d 34 45 [some (cv X 2 r0), some (cv X 8 r1), some (cv X 8 r2)] [cv X 8 r1] T Q) : cA ext X d 34 37 [some (cv X 2 r0), some (cv X 8 r1), some (cv X 8 r2)] [] T Q := by
  intro S hS
  refine aw_ald j34_37 rfl (cv_isR _ _ _) ?_
  exact aw_goto j34_38 (k_1 _ hS)
theorem bc34_41 {r0 : Option Nat} {r1 : Option Nat} {a2 : Nat} (l_1 : X.2.1 8 a2) (k_2 : cA ext X d 34 45 [some (cv X 2 r0), some (cv X 8 r1), some (cv X 8 (some a2))] [cv X 8 (T.2 8 a2 9)] T Q) : cA ext X d 34 41 [some (cv X 2 r0), some (cv X 8 r1), some (cv X 8 (some a2))] [] T Q := by
  intro S hS
  refine aw_ald j34_41 rfl (cv_isR _ _ _) ?_
  refine aw_get j34_42 (hS.kd l_1) (hS.r 9 rfl l_1) ?_
  exact k_2 _ hS
theorem bc34_45 {r0 : Option Nat} {r1 : Option Nat} {r2 : Option Nat} {rk0 : Option Nat}  (k_1 : ∀ S, cr X T S → Q (some (cv X 8 rk0)) S) : cA ext X d 34 45 [some (cv X 2 r0), some (cv X 8 r1), some (cv X 8 r2)] [cv X 8 rk0] T Q := by
  intro S hS
  exact aw_ret j34_45 (by rw [rt34]; exact (cv_fo _ _ _ _)) (k_1 _ hS)
/-! Steps_keep -/
theorem bc36_0 {a0 : Nat} {r1 : Option Nat} {o2 : Option Value} (l_1 : X.2.1 3 a0) (k_2 : cA ext X d 36 7 [some (cv X 3 (some a0)), some (cv X 2 r1), some (.int (0 : Int32))] [] (iset T 3 a0 2 (0 : Int32)) Q) : cA ext X d 36 0 [some (cv X 3 (some a0)), some (cv X 2 r1), o2] [] T Q := by
  intro S hS
  refine aw_ald j36_0 rfl (cv_isR _ _ _) ?_
  refine aw_con j36_1 ?_
  refine aw_put j36_2 (hS.kd l_1) rfl ?_
  have hS := hS.seti (s := 3) 2 (0 : Int32) rfl rfl l_1
  refine aw_con j36_5 ?_
  refine aw_ist j36_6 (Nat.le_of_ble_eq_true rfl) ?_
  exact k_2 _ hS
theorem bc36_7 {r0 : Option Nat} {a1 : Nat} {x2 : Int32} (l_1 : X.2.1 2 a1) (k_2 : ((T.1 2 a1 2) ≤ x2) → cA ext X d 36 44 [some (cv X 3 r0), some (cv X 2 (some a1)), some (.int x2)] [] T Q) (k_3 : (¬ ((T.1 2 a1 2) ≤ x2)) → cA ext X d 36 15 [some (cv X 3 r0), some (cv X 2 (some a1)), some (.int x2)] [] T Q) : cA ext X d 36 7 [some (cv X 3 r0), some (cv X 2 (some a1)), some (.int x2)] [] T Q := by
  intro S hS
  refine aw_ild j36_7 rfl ?_
  refine aw_ald j36_8 rfl (cv_isR _ _ _) ?_
  refine aw_get j36_9 (hS.kd l_1) (hS.i 2 rfl rfl l_1) ?_
  exact aw_ic j36_12 (fun h => k_2 (of_decide_eq_true h) _ hS) (fun h => k_3 (of_decide_eq_false h) _ hS)
theorem bc36_15 {r0 : Option Nat} {r1 : Option Nat} {x2 : Int32}  (k_1 : ((1000 : Int32) ≤ x2) → cA ext X d 36 44 [some (cv X 3 r0), some (cv X 2 r1), some (.int x2)] [] T Q) (k_2 : (¬ ((1000 : Int32) ≤ x2)) → cA ext X d 36 22 [some (cv X 3 r0), some (cv X 2 r1), some (.int x2)] [] T Q) : cA ext X d 36 15 [some (cv X 3 r0), some (cv X 2 r1), some (.int x2)] [] T Q := by
  intro S hS
  refine aw_ild j36_15 rfl ?_
  refine aw_con j36_16 ?_
  exact aw_ic j36_19 (fun h => k_1 (of_decide_eq_true h) _ hS) (fun h => k_2 (of_decide_eq_false h) _ hS)
theorem bc36_22 {a0 : Nat} {a1 : Nat} {x2 : Int32} {i_3 : Nat} {P_6 : cT → Prop} (l_1 : X.2.1 3 a0) (l_2 : X.2.1 2 a1) (e_4 : x2 = nI i_3) (c_5 : i_3 < 1000) (m_9 : cCv ext X d 37 [cv X 3 (some a0), cv X 8 (T.2 25 a1 i_3), cv X 8 (T.2 26 a1 i_3)] T P_6) (k_10 : ∀ T_7, P_6 T_7 → cA ext X (d + 1) 36 38 [some (cv X 3 (some a0)), some (cv X 2 (some a1)), some (.int x2)] [] T_7 Q) : cA ext X (d + 1) 36 22 [some (cv X 3 (some a0)), some (cv X 2 (some a1)), some (.int x2)] [] T Q := by
  intro S hS
  refine aw_ald j36_22 rfl (cv_isR _ _ _) ?_
  refine aw_ald j36_23 rfl (cv_isR _ _ _) ?_
  refine aw_get j36_24 (hS.kd l_2) (hS.f 0 rfl l_2) ?_
  refine aw_ild j36_27 rfl ?_
  refine aw_xld (n := 1000) j36_28 (hS.kd (hS.fl (s := 2) 0 rfl l_2)) e_4 c_5 (by decide) (hS.r i_3 rfl (hS.fl (s := 2) 0 rfl l_2)) ?_
  refine aw_ald j36_29 rfl (cv_isR _ _ _) ?_
  refine aw_get j36_30 (hS.kd l_2) (hS.f 1 rfl l_2) ?_
  refine aw_ild j36_33 rfl ?_
  refine aw_xld (n := 1000) j36_34 (hS.kd (hS.fl (s := 2) 1 rfl l_2)) e_4 c_5 (by decide) (hS.r i_3 rfl (hS.fl (s := 2) 1 rfl l_2)) ?_
  refine aw_callv (as := [cv X 3 (some a0), cv X 8 (T.2 25 a1 i_3), cv X 8 (T.2 26 a1 i_3)]) j36_35 rfl rfl (Nat.le_of_ble_eq_true rfl) cy37.1 cy37.2 (cs_cons rfl (cs_cons (cv_cat _ _ _) (cs_cons (cv_cat _ _ _) cs_nil))) (decide_eq_true (hS.kd l_1)) (m_9 _ hS) (fun S1 h1 => ?_)
  obtain ⟨W1, h1, h2⟩ := h1
  exact k_10 W1 h2 S1 h1
theorem bc36_38 {r0 : Option Nat} {r1 : Option Nat} {x2 : Int32}  (k_1 : cA ext X d 36 7 [some (cv X 3 r0), some (cv X 2 r1), some (.int (x2 + 1))] [] T Q) : cA ext X d 36 38 [some (cv X 3 r0), some (cv X 2 r1), some (.int x2)] [] T Q := by
  intro S hS
  refine aw_inc j36_38 rfl ?_
  exact aw_goto j36_41 (k_1 _ hS)
theorem bc36_44 {r0 : Option Nat} {r1 : Option Nat} {x2 : Int32}  (k_1 : ∀ S, cr X T S → Q none S) : cA ext X d 36 44 [some (cv X 3 r0), some (cv X 2 r1), some (.int x2)] [] T Q := by
  intro S hS
  exact aw_vret j36_44 rt36 (k_1 _ hS)
/-! Steps_addLinks -/
theorem bc37_0 {r0 : Option Nat} {r1 : Option Nat} {r2 : Option Nat} {o3 : Option Value}  (k_2 : r1 = none → cA ext X d 37 4 [some (cv X 3 r0), some (cv X 8 r1), some (cv X 8 r2), o3] [] T Q) (k_3 : ∀ c_1, r1 = some c_1 → cA ext X d 37 5 [some (cv X 3 r0), some (cv X 8 r1), some (cv X 8 r2), o3] [] T Q) : cA ext X d 37 0 [some (cv X 3 r0), some (cv X 8 r1), some (cv X 8 r2), o3] [] T Q := by
  intro S hS
  refine aw_ald j37_0 rfl (cv_isR _ _ _) ?_
  exact aw_nonn (r := (r1).map (X.1 8)) j37_1 (fun h => k_2 (cv_none h) _ hS) (fun c h => by obtain ⟨c, hc⟩ := cv_some h; exact k_3 c hc _ hS)
theorem bc37_4 {r0 : Option Nat} {r1 : Option Nat} {r2 : Option Nat} {o3 : Option Value}  (k_1 : ∀ S, cr X T S → Q none S) : cA ext X d 37 4 [some (cv X 3 r0), some (cv X 8 r1), some (cv X 8 r2), o3] [] T Q := by
  intro S hS
  exact aw_vret j37_4 rt37 (k_1 _ hS)
theorem bc37_5 {r0 : Option Nat} {r1 : Option Nat} {r2 : Option Nat} {o3 : Option Value}  (k_1 : cA ext X d 37 7 [some (cv X 3 r0), some (cv X 8 r1), some (cv X 8 r2), some (.int (0 : Int32))] [] T Q) : cA ext X d 37 5 [some (cv X 3 r0), some (cv X 8 r1), some (cv X 8 r2), o3] [] T Q := by
  intro S hS
  refine aw_con j37_5 ?_
  refine aw_ist j37_6 (Nat.le_of_ble_eq_true rfl) ?_
  exact k_1 _ hS
theorem bc37_7 {r0 : Option Nat} {a1 : Nat} {r2 : Option Nat} {x3 : Int32} (l_1 : X.2.1 8 a1) (k_2 : ((T.1 8 a1 5) ≤ x3) → cA ext X d 37 77 [some (cv X 3 r0), some (cv X 8 (some a1)), some (cv X 8 r2), some (.int x3)] [] T Q) (k_3 : (¬ ((T.1 8 a1 5) ≤ x3)) → cA ext X d 37 15 [some (cv X 3 r0), some (cv X 8 (some a1)), some (cv X 8 r2), some (.int x3)] [] T Q) : cA ext X d 37 7 [some (cv X 3 r0), some (cv X 8 (some a1)), some (cv X 8 r2), some (.int x3)] [] T Q := by
  intro S hS
  refine aw_ild j37_7 rfl ?_
  refine aw_ald j37_8 rfl (cv_isR _ _ _) ?_
  refine aw_get j37_9 (hS.kd l_1) (hS.i 5 rfl rfl l_1) ?_
  exact aw_ic j37_12 (fun h => k_2 (of_decide_eq_true h) _ hS) (fun h => k_3 (of_decide_eq_false h) _ hS)
theorem bc37_15 {r0 : Option Nat} {a1 : Nat} {r2 : Option Nat} {x3 : Int32} (l_1 : X.2.1 8 a1) (k_2 : ((nI 5) ≤ x3) → cA ext X d 37 77 [some (cv X 3 r0), some (cv X 8 (some a1)), some (cv X 8 r2), some (.int x3)] [] T Q) (k_3 : (¬ ((nI 5) ≤ x3)) → cA ext X d 37 24 [some (cv X 3 r0), some (cv X 8 (some a1)), some (cv X 8 r2), some (.int x3)] [] T Q) : cA ext X d 37 15 [some (cv X 3 r0), some (cv X 8 (some a1)), some (cv X 8 r2), some (.int x3)] [] T Q := by
  intro S hS
  refine aw_ild j37_15 rfl ?_
  refine aw_ald j37_16 rfl (cv_isR _ _ _) ?_
  refine aw_get j37_17 (hS.kd l_1) (hS.f 4 rfl l_1) ?_
  refine aw_len j37_20 (hS.kd (hS.fl (s := 8) 4 rfl l_1)) ?_
  exact aw_ic j37_21 (fun h => k_2 (of_decide_eq_true h) _ hS) (fun h => k_3 (of_decide_eq_false h) _ hS)
theorem bc37_24 {a0 : Nat} {r1 : Option Nat} {r2 : Option Nat} {x3 : Int32} (l_1 : X.2.1 3 a0) (k_2 : ((nI 5000) ≤ (T.1 3 a0 2)) → cA ext X d 37 71 [some (cv X 3 (some a0)), some (cv X 8 r1), some (cv X 8 r2), some (.int x3)] [] T Q) (k_3 : (¬ ((nI 5000) ≤ (T.1 3 a0 2))) → cA ext X d 37 36 [some (cv X 3 (some a0)), some (cv X 8 r1), some (cv X 8 r2), some (.int x3)] [] T Q) : cA ext X d 37 24 [some (cv X 3 (some a0)), some (cv X 8 r1), some (cv X 8 r2), some (.int x3)] [] T Q := by
  intro S hS
  refine aw_ald j37_24 rfl (cv_isR _ _ _) ?_
  refine aw_get j37_25 (hS.kd l_1) (hS.i 2 rfl rfl l_1) ?_
  refine aw_ald j37_28 rfl (cv_isR _ _ _) ?_
  refine aw_get j37_29 (hS.kd l_1) (hS.f 0 rfl l_1) ?_
  refine aw_len j37_32 (hS.kd (hS.fl (s := 3) 0 rfl l_1)) ?_
  exact aw_ic j37_33 (fun h => k_2 (of_decide_eq_true h) _ hS) (fun h => k_3 (of_decide_eq_false h) _ hS)
theorem bc37_36 {a0 : Nat} {a1 : Nat} {r2 : Option Nat} {x3 : Int32} {i_3 : Nat} {i_6 : Nat} {i_9 : Nat} (l_1 : X.2.1 3 a0) (l_2 : X.2.1 8 a1) (e_4 : x3 = nI i_3) (c_5 : i_3 < 5) (e_7 : (T.1 3 a0 2) = nI i_6) (c_8 : i_6 < 5000) (e_10 : ((oset T 29 a0 i_6 (T.2 34 a1 i_3)).1 3 a0 2) = nI i_9) (c_11 : i_9 < 5000) (l_12 : ∀ j, r2 = some j → X.2.1 8 j) (k_13 : cA ext X d 37 71 [some (cv X 3 (some a0)), some (cv X 8 (some a1)), some (cv X 8 r2), some (.int x3)] [] (iset (oset (oset T 29 a0 i_6 (T.2 34 a1 i_3)) 30 a0 i_9 r2) 3 a0 2 (((oset (oset T 29 a0 i_6 (T.2 34 a1 i_3)) 30 a0 i_9 r2).1 3 a0 2) + (1 : Int32))) Q) : cA ext X d 37 36 [some (cv X 3 (some a0)), some (cv X 8 (some a1)), some (cv X 8 r2), some (.int x3)] [] T Q := by
  intro S hS
  refine aw_ald j37_36 rfl (cv_isR _ _ _) ?_
  refine aw_get j37_37 (hS.kd l_1) (hS.f 0 rfl l_1) ?_
  refine aw_ald j37_40 rfl (cv_isR _ _ _) ?_
  refine aw_get j37_41 (hS.kd l_1) (hS.i 2 rfl rfl l_1) ?_
  refine aw_ald j37_44 rfl (cv_isR _ _ _) ?_
  refine aw_get j37_45 (hS.kd l_2) (hS.f 4 rfl l_2) ?_
  refine aw_ild j37_48 rfl ?_
  refine aw_xld (n := 5) j37_49 (hS.kd (hS.fl (s := 8) 4 rfl l_2)) e_4 c_5 (by decide) (hS.r i_3 rfl (hS.fl (s := 8) 4 rfl l_2)) ?_
  refine aw_ast2 (n := 5000) (r := ((T.2 34 a1 i_3)).map (X.1 9)) j37_50 (hS.kd (hS.fl (s := 3) 0 rfl l_1)) e_7 c_8 (by decide) (hS.tv (hS.rl i_3 rfl (hS.fl (s := 8) 4 rfl l_2))) ?_
  have hS := hS.setr (s := 29) i_6 (T.2 34 a1 i_3) rfl rfl (hS.fl (s := 3) 0 rfl l_1) (hS.rl i_3 rfl (hS.fl (s := 8) 4 rfl l_2))
  refine aw_ald j37_51 rfl (cv_isR _ _ _) ?_
  refine aw_get j37_52 (hS.kd l_1) (hS.f 1 rfl l_1) ?_
  refine aw_ald j37_55 rfl (cv_isR _ _ _) ?_
  refine aw_get j37_56 (hS.kd l_1) (hS.i 2 rfl rfl l_1) ?_
  refine aw_ald j37_59 rfl (cv_isR _ _ _) ?_
  refine aw_ast2 (n := 5000) (r := (r2).map (X.1 8)) j37_60 (hS.kd (hS.fl (s := 3) 1 rfl l_1)) e_10 c_11 (by decide) (hS.tv l_12) ?_
  have hS := hS.setr (s := 30) i_9 r2 rfl rfl (hS.fl (s := 3) 1 rfl l_1) l_12
  refine aw_ald j37_61 rfl (cv_isR _ _ _) ?_
  refine aw_dup j37_62 rfl ?_
  refine aw_get j37_63 (hS.kd l_1) (hS.i 2 rfl rfl l_1) ?_
  refine aw_con j37_66 ?_
  refine aw_bin (z := (((oset (oset T 29 a0 i_6 (T.2 34 a1 i_3)) 30 a0 i_9 r2).1 3 a0 2) + (1 : Int32))) j37_67 rfl ?_
  refine aw_put j37_68 (hS.kd l_1) rfl ?_
  have hS := hS.seti (s := 3) 2 (((oset (oset T 29 a0 i_6 (T.2 34 a1 i_3)) 30 a0 i_9 r2).1 3 a0 2) + (1 : Int32)) rfl rfl l_1
  exact k_13 _ hS
theorem bc37_71 {r0 : Option Nat} {r1 : Option Nat} {r2 : Option Nat} {x3 : Int32}  (k_1 : cA ext X d 37 7 [some (cv X 3 r0), some (cv X 8 r1), some (cv X 8 r2), some (.int (x3 + 1))] [] T Q) : cA ext X d 37 71 [some (cv X 3 r0), some (cv X 8 r1), some (cv X 8 r2), some (.int x3)] [] T Q := by
  intro S hS
  refine aw_inc j37_71 rfl ?_
  exact aw_goto j37_74 (k_1 _ hS)
theorem bc37_77 {r0 : Option Nat} {r1 : Option Nat} {r2 : Option Nat} {x3 : Int32}  (k_1 : ∀ S, cr X T S → Q none S) : cA ext X d 37 77 [some (cv X 3 r0), some (cv X 8 r1), some (cv X 8 r2), some (.int x3)] [] T Q := by
  intro S hS
  exact aw_vret j37_77 rt37 (k_1 _ hS)
/-! Steps_tell -/
theorem bc38_0 {r0 : Option Nat} {x1 : Int32} {x2 : Int32} {o3 : Option Value} {o4 : Option Value}  (k_1 : (x1 < 0) → cA ext X d 38 12 [some (cv X 3 r0), some (.int x1), some (.int x2), o3, o4] [] T Q) (k_2 : (¬ (x1 < 0)) → cA ext X d 38 4 [some (cv X 3 r0), some (.int x1), some (.int x2), o3, o4] [] T Q) : cA ext X d 38 0 [some (cv X 3 r0), some (.int x1), some (.int x2), o3, o4] [] T Q := by
  intro S hS
  refine aw_ild j38_0 rfl ?_
  exact aw_if j38_1 (fun h => k_1 (of_decide_eq_true h) _ hS) (fun h => k_2 (of_decide_eq_false h) _ hS)
theorem bc38_4 {a0 : Nat} {x1 : Int32} {x2 : Int32} {o3 : Option Value} {o4 : Option Value} (l_1 : X.2.1 3 a0) (k_2 : (x1 < (T.1 3 a0 2)) → cA ext X d 38 14 [some (cv X 3 (some a0)), some (.int x1), some (.int x2), o3, o4] [] T Q) (k_3 : (¬ (x1 < (T.1 3 a0 2))) → cA ext X d 38 12 [some (cv X 3 (some a0)), some (.int x1), some (.int x2), o3, o4] [] T Q) : cA ext X d 38 4 [some (cv X 3 (some a0)), some (.int x1), some (.int x2), o3, o4] [] T Q := by
  intro S hS
  refine aw_ild j38_4 rfl ?_
  refine aw_ald j38_5 rfl (cv_isR _ _ _) ?_
  refine aw_get j38_6 (hS.kd l_1) (hS.i 2 rfl rfl l_1) ?_
  exact aw_ic j38_9 (fun h => k_2 (of_decide_eq_true h) _ hS) (fun h => k_3 (of_decide_eq_false h) _ hS)
theorem bc38_12 {r0 : Option Nat} {x1 : Int32} {x2 : Int32} {o3 : Option Value} {o4 : Option Value}  (k_1 : ∀ S, cr X T S → Q (some (.int (-1 : Int32))) S) : cA ext X d 38 12 [some (cv X 3 r0), some (.int x1), some (.int x2), o3, o4] [] T Q := by
  intro S hS
  refine aw_con j38_12 ?_
  exact aw_ret j38_13 (by rw [rt38]; exact rfl) (k_1 _ hS)
theorem bc38_14 {a0 : Nat} {x1 : Int32} {x2 : Int32} {o3 : Option Value} {o4 : Option Value} {i_2 : Nat} (l_1 : X.2.1 3 a0) (e_3 : x1 = nI i_2) (c_4 : i_2 < 5000) (k_6 : (T.2 29 a0 i_2) = none → cA ext X d 38 38 [some (cv X 3 (some a0)), some (.int x1), some (.int x2), some (cv X 9 (T.2 29 a0 i_2)), some (cv X 8 (T.2 30 a0 i_2))] [] T Q) (k_7 : ∀ c_5, (T.2 29 a0 i_2) = some c_5 → cA ext X d 38 33 [some (cv X 3 (some a0)), some (.int x1), some (.int x2), some (cv X 9 (T.2 29 a0 i_2)), some (cv X 8 (T.2 30 a0 i_2))] [] T Q) : cA ext X d 38 14 [some (cv X 3 (some a0)), some (.int x1), some (.int x2), o3, o4] [] T Q := by
  intro S hS
  refine aw_ald j38_14 rfl (cv_isR _ _ _) ?_
  refine aw_get j38_15 (hS.kd l_1) (hS.f 0 rfl l_1) ?_
  refine aw_ild j38_18 rfl ?_
  refine aw_xld (n := 5000) j38_19 (hS.kd (hS.fl (s := 3) 0 rfl l_1)) e_3 c_4 (by decide) (hS.r i_2 rfl (hS.fl (s := 3) 0 rfl l_1)) ?_
  refine aw_ast j38_20 (cv_isR _ _ _) (Nat.le_of_ble_eq_true rfl) ?_
  refine aw_ald j38_21 rfl (cv_isR _ _ _) ?_
  refine aw_get j38_22 (hS.kd l_1) (hS.f 1 rfl l_1) ?_
  refine aw_ild j38_25 rfl ?_
  refine aw_xld (n := 5000) j38_26 (hS.kd (hS.fl (s := 3) 1 rfl l_1)) e_3 c_4 (by decide) (hS.r i_2 rfl (hS.fl (s := 3) 1 rfl l_1)) ?_
  refine aw_ast j38_27 (cv_isR _ _ _) (Nat.le_of_ble_eq_true rfl) ?_
  refine aw_ald j38_29 rfl (cv_isR _ _ _) ?_
  exact aw_null (r := ((T.2 29 a0 i_2)).map (X.1 9)) j38_30 (fun h => k_6 (cv_none h) _ hS) (fun c h => by obtain ⟨c, hc⟩ := cv_some h; exact k_7 c hc _ hS)
theorem bc38_33 {r0 : Option Nat} {x1 : Int32} {x2 : Int32} {r3 : Option Nat} {r4 : Option Nat}  (k_2 : r4 = none → cA ext X d 38 38 [some (cv X 3 r0), some (.int x1), some (.int x2), some (cv X 9 r3), some (cv X 8 r4)] [] T Q) (k_3 : ∀ c_1, r4 = some c_1 → cA ext X d 38 40 [some (cv X 3 r0), some (.int x1), some (.int x2), some (cv X 9 r3), some (cv X 8 r4)] [] T Q) : cA ext X d 38 33 [some (cv X 3 r0), some (.int x1), some (.int x2), some (cv X 9 r3), some (cv X 8 r4)] [] T Q := by
  intro S hS
  refine aw_ald j38_33 rfl (cv_isR _ _ _) ?_
  exact aw_nonn (r := (r4).map (X.1 8)) j38_35 (fun h => k_2 (cv_none h) _ hS) (fun c h => by obtain ⟨c, hc⟩ := cv_some h; exact k_3 c hc _ hS)
theorem bc38_38 {r0 : Option Nat} {x1 : Int32} {x2 : Int32} {r3 : Option Nat} {r4 : Option Nat}  (k_1 : ∀ S, cr X T S → Q (some (.int (-1 : Int32))) S) : cA ext X d 38 38 [some (cv X 3 r0), some (.int x1), some (.int x2), some (cv X 9 r3), some (cv X 8 r4)] [] T Q := by
  intro S hS
  refine aw_con j38_38 ?_
  exact aw_ret j38_39 (by rw [rt38]; exact rfl) (k_1 _ hS)
theorem bc38_40 {r0 : Option Nat} {x1 : Int32} {x2 : Int32} {r3 : Option Nat} {r4 : Option Nat}  (k_1 : cA ext X d 38 (if x2.toInt < (0 : Int32).toInt then 108 else List.getD [76, 84, 92, 97, 102] (x2.toInt - (0 : Int32).toInt).toNat 108) [some (cv X 3 r0), some (.int x1), some (.int x2), some (cv X 9 r3), some (cv X 8 r4)] [] T Q) : cA ext X d 38 40 [some (cv X 3 r0), some (.int x1), some (.int x2), some (cv X 9 r3), some (cv X 8 r4)] [] T Q := by
  intro S hS
  refine aw_ild j38_40 rfl ?_
  exact aw_tsw j38_41 (k_1 _ hS)
theorem bc38_76 {r0 : Option Nat} {x1 : Int32} {x2 : Int32} {a3 : Nat} {r4 : Option Nat} {b_2 : Nat} (l_1 : X.2.1 9 a3) (f_3 : T.2 9 a3 0 = some b_2) (k_4 : ∀ S, cr X T S → Q (some (.int (T.1 8 b_2 0))) S) : cA ext X d 38 76 [some (cv X 3 r0), some (.int x1), some (.int x2), some (cv X 9 (some a3)), some (cv X 8 r4)] [] T Q := by
  intro S hS
  refine aw_ald j38_76 rfl (cv_isR _ _ _) ?_
  refine aw_get j38_77 (hS.kd l_1) (hS.rr 0 rfl l_1 f_3) ?_
  refine aw_get j38_80 (hS.kd (hS.rl 0 rfl l_1 _ f_3)) (hS.i 0 rfl rfl (hS.rl 0 rfl l_1 _ f_3)) ?_
  exact aw_ret j38_83 (by rw [rt38]; exact rfl) (k_4 _ hS)
theorem bc38_84 {r0 : Option Nat} {x1 : Int32} {x2 : Int32} {a3 : Nat} {r4 : Option Nat} {b_2 : Nat} (l_1 : X.2.1 9 a3) (f_3 : T.2 9 a3 1 = some b_2) (k_4 : ∀ S, cr X T S → Q (some (.int (T.1 6 b_2 0))) S) : cA ext X d 38 84 [some (cv X 3 r0), some (.int x1), some (.int x2), some (cv X 9 (some a3)), some (cv X 8 r4)] [] T Q := by
  intro S hS
  refine aw_ald j38_84 rfl (cv_isR _ _ _) ?_
  refine aw_get j38_85 (hS.kd l_1) (hS.rr 1 rfl l_1 f_3) ?_
  refine aw_get j38_88 (hS.kd (hS.rl 1 rfl l_1 _ f_3)) (hS.i 0 rfl rfl (hS.rl 1 rfl l_1 _ f_3)) ?_
  exact aw_ret j38_91 (by rw [rt38]; exact rfl) (k_4 _ hS)
theorem bc38_92 {r0 : Option Nat} {x1 : Int32} {x2 : Int32} {a3 : Nat} {r4 : Option Nat} (l_1 : X.2.1 9 a3) (k_2 : ∀ S, cr X T S → Q (some (.int (T.1 9 a3 2))) S) : cA ext X d 38 92 [some (cv X 3 r0), some (.int x1), some (.int x2), some (cv X 9 (some a3)), some (cv X 8 r4)] [] T Q := by
  intro S hS
  refine aw_ald j38_92 rfl (cv_isR _ _ _) ?_
  refine aw_get j38_93 (hS.kd l_1) (hS.i 2 rfl rfl l_1) ?_
  exact aw_ret j38_96 (by rw [rt38]; exact rfl) (k_2 _ hS)
theorem bc38_97 {r0 : Option Nat} {x1 : Int32} {x2 : Int32} {a3 : Nat} {r4 : Option Nat} (l_1 : X.2.1 9 a3) (k_2 : ∀ S, cr X T S → Q (some (.int (T.1 9 a3 3))) S) : cA ext X d 38 97 [some (cv X 3 r0), some (.int x1), some (.int x2), some (cv X 9 (some a3)), some (cv X 8 r4)] [] T Q := by
  intro S hS
  refine aw_ald j38_97 rfl (cv_isR _ _ _) ?_
  refine aw_get j38_98 (hS.kd l_1) (hS.i 3 rfl rfl l_1) ?_
  exact aw_ret j38_101 (by rw [rt38]; exact rfl) (k_2 _ hS)
theorem bc38_102 {r0 : Option Nat} {x1 : Int32} {x2 : Int32} {r3 : Option Nat} {a4 : Nat} (l_1 : X.2.1 8 a4) (k_2 : ∀ S, cr X T S → Q (some (.int (T.1 8 a4 0))) S) : cA ext X d 38 102 [some (cv X 3 r0), some (.int x1), some (.int x2), some (cv X 9 r3), some (cv X 8 (some a4))] [] T Q := by
  intro S hS
  refine aw_ald j38_102 rfl (cv_isR _ _ _) ?_
  refine aw_get j38_104 (hS.kd l_1) (hS.i 0 rfl rfl l_1) ?_
  exact aw_ret j38_107 (by rw [rt38]; exact rfl) (k_2 _ hS)
theorem bc38_108 {r0 : Option Nat} {x1 : Int32} {x2 : Int32} {r3 : Option Nat} {r4 : Option Nat}  (k_1 : ∀ S, cr X T S → Q (some (.int (-1 : Int32))) S) : cA ext X d 38 108 [some (cv X 3 r0), some (.int x1), some (.int x2), some (cv X 9 r3), some (cv X 8 r4)] [] T Q := by
  intro S hS
  refine aw_con j38_108 ?_
  exact aw_ret j38_109 (by rw [rt38]; exact rfl) (k_1 _ hS)
/-! Faults_add -/
theorem bc40_0 {a0 : Nat} {x1 : Int32} {x2 : Int32} (l_1 : X.2.1 4 a0) (k_2 : ((nI 300) ≤ (T.1 4 a0 2)) → cA ext X d 40 54 [some (cv X 4 (some a0)), some (.int x1), some (.int x2)] [] T Q) (k_3 : (¬ ((nI 300) ≤ (T.1 4 a0 2))) → cA ext X d 40 12 [some (cv X 4 (some a0)), some (.int x1), some (.int x2)] [] T Q) : cA ext X d 40 0 [some (cv X 4 (some a0)), some (.int x1), some (.int x2)] [] T Q := by
  intro S hS
  refine aw_ald j40_0 rfl (cv_isR _ _ _) ?_
  refine aw_get j40_1 (hS.kd l_1) (hS.i 2 rfl rfl l_1) ?_
  refine aw_ald j40_4 rfl (cv_isR _ _ _) ?_
  refine aw_get j40_5 (hS.kd l_1) (hS.f 0 rfl l_1) ?_
  refine aw_len j40_8 (hS.kd (hS.fl (s := 4) 0 rfl l_1)) ?_
  exact aw_ic j40_9 (fun h => k_2 (of_decide_eq_true h) _ hS) (fun h => k_3 (of_decide_eq_false h) _ hS)
theorem bc40_12 {a0 : Nat} {x1 : Int32} {x2 : Int32} (l_1 : X.2.1 4 a0) (k_2 : ((nI 300) ≤ (T.1 4 a0 2)) → cA ext X d 40 54 [some (cv X 4 (some a0)), some (.int x1), some (.int x2)] [] T Q) (k_3 : (¬ ((nI 300) ≤ (T.1 4 a0 2))) → cA ext X d 40 24 [some (cv X 4 (some a0)), some (.int x1), some (.int x2)] [] T Q) : cA ext X d 40 12 [some (cv X 4 (some a0)), some (.int x1), some (.int x2)] [] T Q := by
  intro S hS
  refine aw_ald j40_12 rfl (cv_isR _ _ _) ?_
  refine aw_get j40_13 (hS.kd l_1) (hS.i 2 rfl rfl l_1) ?_
  refine aw_ald j40_16 rfl (cv_isR _ _ _) ?_
  refine aw_get j40_17 (hS.kd l_1) (hS.f 1 rfl l_1) ?_
  refine aw_len j40_20 (hS.kd (hS.fl (s := 4) 1 rfl l_1)) ?_
  exact aw_ic j40_21 (fun h => k_2 (of_decide_eq_true h) _ hS) (fun h => k_3 (of_decide_eq_false h) _ hS)
theorem bc40_24 {a0 : Nat} {x1 : Int32} {x2 : Int32} {i_2 : Nat} {i_5 : Nat} (l_1 : X.2.1 4 a0) (e_3 : (T.1 4 a0 2) = nI i_2) (c_4 : i_2 < 300) (e_6 : ((iset T 31 a0 i_2 x1).1 4 a0 2) = nI i_5) (c_7 : i_5 < 300) (k_8 : cA ext X d 40 54 [some (cv X 4 (some a0)), some (.int x1), some (.int x2)] [] (iset (iset (iset T 31 a0 i_2 x1) 32 a0 i_5 x2) 4 a0 2 (((iset (iset T 31 a0 i_2 x1) 32 a0 i_5 x2).1 4 a0 2) + (1 : Int32))) Q) : cA ext X d 40 24 [some (cv X 4 (some a0)), some (.int x1), some (.int x2)] [] T Q := by
  intro S hS
  refine aw_ald j40_24 rfl (cv_isR _ _ _) ?_
  refine aw_get j40_25 (hS.kd l_1) (hS.f 0 rfl l_1) ?_
  refine aw_ald j40_28 rfl (cv_isR _ _ _) ?_
  refine aw_get j40_29 (hS.kd l_1) (hS.i 2 rfl rfl l_1) ?_
  refine aw_ild j40_32 rfl ?_
  refine aw_xst (n := 300) j40_33 (hS.kd (hS.fl (s := 4) 0 rfl l_1)) e_3 c_4 (by decide) ?_
  have hS := hS.seti (s := 31) i_2 x1 rfl rfl (hS.fl (s := 4) 0 rfl l_1)
  refine aw_ald j40_34 rfl (cv_isR _ _ _) ?_
  refine aw_get j40_35 (hS.kd l_1) (hS.f 1 rfl l_1) ?_
  refine aw_ald j40_38 rfl (cv_isR _ _ _) ?_
  refine aw_get j40_39 (hS.kd l_1) (hS.i 2 rfl rfl l_1) ?_
  refine aw_ild j40_42 rfl ?_
  refine aw_xst (n := 300) j40_43 (hS.kd (hS.fl (s := 4) 1 rfl l_1)) e_6 c_7 (by decide) ?_
  have hS := hS.seti (s := 32) i_5 x2 rfl rfl (hS.fl (s := 4) 1 rfl l_1)
  refine aw_ald j40_44 rfl (cv_isR _ _ _) ?_
  refine aw_dup j40_45 rfl ?_
  refine aw_get j40_46 (hS.kd l_1) (hS.i 2 rfl rfl l_1) ?_
  refine aw_con j40_49 ?_
  refine aw_bin (z := (((iset (iset T 31 a0 i_2 x1) 32 a0 i_5 x2).1 4 a0 2) + (1 : Int32))) j40_50 rfl ?_
  refine aw_put j40_51 (hS.kd l_1) rfl ?_
  have hS := hS.seti (s := 4) 2 (((iset (iset T 31 a0 i_2 x1) 32 a0 i_5 x2).1 4 a0 2) + (1 : Int32)) rfl rfl l_1
  exact k_8 _ hS
theorem bc40_54 {r0 : Option Nat} {x1 : Int32} {x2 : Int32}  (k_1 : ∀ S, cr X T S → Q none S) : cA ext X d 40 54 [some (cv X 4 r0), some (.int x1), some (.int x2)] [] T Q := by
  intro S hS
  exact aw_vret j40_54 rt40 (k_1 _ hS)
/-! Signs_putLine -/
theorem bc42_0 {r0 : Option Nat} {a1 : Nat} {o2 : Option Value} {o3 : Option Value} {P_2 : Int32 → cT → Prop} (l_1 : X.2.1 8 a1) (m_5 : cCi ext X d 58 [cv X 8 (some a1)] T P_2) (k_6 : ∀ v_4 T_3, P_2 v_4 T_3 → cA ext X (d + 1) 42 4 [some (cv X 5 r0), some (cv X 8 (some a1)), o2, o3] [.int v_4] T_3 Q) : cA ext X (d + 1) 42 0 [some (cv X 5 r0), some (cv X 8 (some a1)), o2, o3] [] T Q := by
  intro S hS
  refine aw_ald j42_0 rfl (cv_isR _ _ _) ?_
  refine aw_calli (as := [cv X 8 (some a1)]) j42_1 rfl rfl (Nat.le_of_ble_eq_true rfl) cy58.1 cy58.2 (cs_cons rfl cs_nil) (decide_eq_true (hS.kd l_1)) (m_5 _ hS) (fun v1 S1 h1 => ?_)
  obtain ⟨W1, h1, h2⟩ := h1
  exact k_6 v1 W1 h2 S1 h1
theorem bc42_4 {r0 : Option Nat} {r1 : Option Nat} {o2 : Option Value} {o3 : Option Value} {xk0 : Int32}  (k_1 : cA ext X d 42 7 [some (cv X 5 r0), some (cv X 8 r1), some (.int xk0), some (.int (0 : Int32))] [] T Q) : cA ext X d 42 4 [some (cv X 5 r0), some (cv X 8 r1), o2, o3] [.int xk0] T Q := by
  intro S hS
  refine aw_ist j42_4 (Nat.le_of_ble_eq_true rfl) ?_
  refine aw_con j42_5 ?_
  refine aw_ist j42_6 (Nat.le_of_ble_eq_true rfl) ?_
  exact k_1 _ hS
theorem bc42_7 {r0 : Option Nat} {r1 : Option Nat} {x2 : Int32} {x3 : Int32}  (k_1 : (x2 ≤ x3) → cA ext X d 42 24 [some (cv X 5 r0), some (cv X 8 r1), some (.int x2), some (.int x3)] [] T Q) (k_2 : (¬ (x2 ≤ x3)) → cA ext X d 42 12 [some (cv X 5 r0), some (cv X 8 r1), some (.int x2), some (.int x3)] [] T Q) : cA ext X d 42 7 [some (cv X 5 r0), some (cv X 8 r1), some (.int x2), some (.int x3)] [] T Q := by
  intro S hS
  refine aw_ild j42_7 rfl ?_
  refine aw_ild j42_8 rfl ?_
  exact aw_ic j42_9 (fun h => k_1 (of_decide_eq_true h) _ hS) (fun h => k_2 (of_decide_eq_false h) _ hS)
theorem bc42_12 {a0 : Nat} {r1 : Option Nat} {x2 : Int32} {x3 : Int32} {P_2 : cT → Prop} (l_1 : X.2.1 5 a0) (m_5 : cCv ext X d 43 [cv X 5 (some a0), .int (32 : Int32)] T P_2) (k_6 : ∀ T_3, P_2 T_3 → cA ext X (d + 1) 42 18 [some (cv X 5 (some a0)), some (cv X 8 r1), some (.int x2), some (.int x3)] [] T_3 Q) : cA ext X (d + 1) 42 12 [some (cv X 5 (some a0)), some (cv X 8 r1), some (.int x2), some (.int x3)] [] T Q := by
  intro S hS
  refine aw_ald j42_12 rfl (cv_isR _ _ _) ?_
  refine aw_con j42_13 ?_
  refine aw_callv (as := [cv X 5 (some a0), .int (32 : Int32)]) j42_15 rfl rfl (Nat.le_of_ble_eq_true rfl) cy43.1 cy43.2 (cs_cons rfl (cs_cons rfl cs_nil)) (decide_eq_true (hS.kd l_1)) (m_5 _ hS) (fun S1 h1 => ?_)
  obtain ⟨W1, h1, h2⟩ := h1
  exact k_6 W1 h2 S1 h1
theorem bc42_18 {r0 : Option Nat} {r1 : Option Nat} {x2 : Int32} {x3 : Int32}  (k_1 : cA ext X d 42 7 [some (cv X 5 r0), some (cv X 8 r1), some (.int x2), some (.int (x3 + 1))] [] T Q) : cA ext X d 42 18 [some (cv X 5 r0), some (cv X 8 r1), some (.int x2), some (.int x3)] [] T Q := by
  intro S hS
  refine aw_inc j42_18 rfl ?_
  exact aw_goto j42_21 (k_1 _ hS)
theorem bc42_24 {a0 : Nat} {a1 : Nat} {x2 : Int32} {x3 : Int32} {P_3 : cT → Prop} (l_1 : X.2.1 5 a0) (l_2 : X.2.1 8 a1) (m_6 : cCv ext X d 44 [cv X 5 (some a0), .int (T.1 8 a1 3)] T P_3) (k_7 : ∀ T_4, P_3 T_4 → cA ext X (d + 1) 42 32 [some (cv X 5 (some a0)), some (cv X 8 (some a1)), some (.int x2), some (.int x3)] [] T_4 Q) : cA ext X (d + 1) 42 24 [some (cv X 5 (some a0)), some (cv X 8 (some a1)), some (.int x2), some (.int x3)] [] T Q := by
  intro S hS
  refine aw_ald j42_24 rfl (cv_isR _ _ _) ?_
  refine aw_ald j42_25 rfl (cv_isR _ _ _) ?_
  refine aw_get j42_26 (hS.kd l_2) (hS.i 3 rfl rfl l_2) ?_
  refine aw_callv (as := [cv X 5 (some a0), .int (T.1 8 a1 3)]) j42_29 rfl rfl (Nat.le_of_ble_eq_true rfl) cy44.1 cy44.2 (cs_cons rfl (cs_cons rfl cs_nil)) (decide_eq_true (hS.kd l_1)) (m_6 _ hS) (fun S1 h1 => ?_)
  obtain ⟨W1, h1, h2⟩ := h1
  exact k_7 W1 h2 S1 h1
theorem bc42_32 {r0 : Option Nat} {a1 : Nat} {x2 : Int32} {x3 : Int32} (l_1 : X.2.1 8 a1) (k_3 : (T.2 8 a1 9) = none → cA ext X d 42 45 [some (cv X 5 r0), some (cv X 8 (some a1)), some (.int x2), some (.int x3)] [] T Q) (k_4 : ∀ c_2, (T.2 8 a1 9) = some c_2 → cA ext X d 42 39 [some (cv X 5 r0), some (cv X 8 (some a1)), some (.int x2), some (.int x3)] [] T Q) : cA ext X d 42 32 [some (cv X 5 r0), some (cv X 8 (some a1)), some (.int x2), some (.int x3)] [] T Q := by
  intro S hS
  refine aw_ald j42_32 rfl (cv_isR _ _ _) ?_
  refine aw_get j42_33 (hS.kd l_1) (hS.r 9 rfl l_1) ?_
  exact aw_null (r := ((T.2 8 a1 9)).map (X.1 8)) j42_36 (fun h => k_3 (cv_none h) _ hS) (fun c h => by obtain ⟨c, hc⟩ := cv_some h; exact k_4 c hc _ hS)
theorem bc42_39 {a0 : Nat} {r1 : Option Nat} {x2 : Int32} {x3 : Int32} {P_2 : cT → Prop} (l_1 : X.2.1 5 a0) (m_5 : cCv ext X d 43 [cv X 5 (some a0), .int (61 : Int32)] T P_2) (k_6 : ∀ T_3, P_2 T_3 → cA ext X (d + 1) 42 45 [some (cv X 5 (some a0)), some (cv X 8 r1), some (.int x2), some (.int x3)] [] T_3 Q) : cA ext X (d + 1) 42 39 [some (cv X 5 (some a0)), some (cv X 8 r1), some (.int x2), some (.int x3)] [] T Q := by
  intro S hS
  refine aw_ald j42_39 rfl (cv_isR _ _ _) ?_
  refine aw_con j42_40 ?_
  refine aw_callv (as := [cv X 5 (some a0), .int (61 : Int32)]) j42_42 rfl rfl (Nat.le_of_ble_eq_true rfl) cy43.1 cy43.2 (cs_cons rfl (cs_cons rfl cs_nil)) (decide_eq_true (hS.kd l_1)) (m_5 _ hS) (fun S1 h1 => ?_)
  obtain ⟨W1, h1, h2⟩ := h1
  exact k_6 W1 h2 S1 h1
theorem bc42_45 {a0 : Nat} {r1 : Option Nat} {x2 : Int32} {x3 : Int32} {P_2 : cT → Prop} (l_1 : X.2.1 5 a0) (m_5 : cCv ext X d 43 [cv X 5 (some a0), .int (10 : Int32)] T P_2) (k_6 : ∀ T_3, P_2 T_3 → cA ext X (d + 1) 42 51 [some (cv X 5 (some a0)), some (cv X 8 r1), some (.int x2), some (.int x3)] [] T_3 Q) : cA ext X (d + 1) 42 45 [some (cv X 5 (some a0)), some (cv X 8 r1), some (.int x2), some (.int x3)] [] T Q := by
  intro S hS
  refine aw_ald j42_45 rfl (cv_isR _ _ _) ?_
  refine aw_con j42_46 ?_
  refine aw_callv (as := [cv X 5 (some a0), .int (10 : Int32)]) j42_48 rfl rfl (Nat.le_of_ble_eq_true rfl) cy43.1 cy43.2 (cs_cons rfl (cs_cons rfl cs_nil)) (decide_eq_true (hS.kd l_1)) (m_5 _ hS) (fun S1 h1 => ?_)
  obtain ⟨W1, h1, h2⟩ := h1
  exact k_6 W1 h2 S1 h1
theorem bc42_51 {r0 : Option Nat} {r1 : Option Nat} {x2 : Int32} {x3 : Int32}  (k_1 : ∀ S, cr X T S → Q none S) : cA ext X d 42 51 [some (cv X 5 r0), some (cv X 8 r1), some (.int x2), some (.int x3)] [] T Q := by
  intro S hS
  exact aw_vret j42_51 rt42 (k_1 _ hS)
/-! Signs_put -/
theorem bc43_0 {a0 : Nat} {x1 : Int32} (l_1 : X.2.1 5 a0) (k_2 : ((nI 7860) ≤ (T.1 5 a0 1)) → cA ext X d 43 32 [some (cv X 5 (some a0)), some (.int x1)] [] T Q) (k_3 : (¬ ((nI 7860) ≤ (T.1 5 a0 1))) → cA ext X d 43 12 [some (cv X 5 (some a0)), some (.int x1)] [] T Q) : cA ext X d 43 0 [some (cv X 5 (some a0)), some (.int x1)] [] T Q := by
  intro S hS
  refine aw_ald j43_0 rfl (cv_isR _ _ _) ?_
  refine aw_get j43_1 (hS.kd l_1) (hS.i 1 rfl rfl l_1) ?_
  refine aw_ald j43_4 rfl (cv_isR _ _ _) ?_
  refine aw_get j43_5 (hS.kd l_1) (hS.f 0 rfl l_1) ?_
  refine aw_len j43_8 (hS.kd (hS.fl (s := 5) 0 rfl l_1)) ?_
  exact aw_ic j43_9 (fun h => k_2 (of_decide_eq_true h) _ hS) (fun h => k_3 (of_decide_eq_false h) _ hS)
theorem bc43_12 {a0 : Nat} {x1 : Int32} {i_2 : Nat} (l_1 : X.2.1 5 a0) (e_3 : (T.1 5 a0 1) = nI i_2) (c_4 : i_2 < 7860) (k_5 : cA ext X d 43 32 [some (cv X 5 (some a0)), some (.int x1)] [] (iset (iset T 33 a0 i_2 (x1.toUInt32.toUInt16.toUInt32.toInt32)) 5 a0 1 (((iset T 33 a0 i_2 (x1.toUInt32.toUInt16.toUInt32.toInt32)).1 5 a0 1) + (1 : Int32))) Q) : cA ext X d 43 12 [some (cv X 5 (some a0)), some (.int x1)] [] T Q := by
  intro S hS
  refine aw_ald j43_12 rfl (cv_isR _ _ _) ?_
  refine aw_get j43_13 (hS.kd l_1) (hS.f 0 rfl l_1) ?_
  refine aw_ald j43_16 rfl (cv_isR _ _ _) ?_
  refine aw_get j43_17 (hS.kd l_1) (hS.i 1 rfl rfl l_1) ?_
  refine aw_ild j43_20 rfl ?_
  refine aw_xst (n := 7860) j43_21 (hS.kd (hS.fl (s := 5) 0 rfl l_1)) e_3 c_4 (by decide) ?_
  have hS := hS.seti (s := 33) i_2 (x1.toUInt32.toUInt16.toUInt32.toInt32) rfl rfl (hS.fl (s := 5) 0 rfl l_1)
  refine aw_ald j43_22 rfl (cv_isR _ _ _) ?_
  refine aw_dup j43_23 rfl ?_
  refine aw_get j43_24 (hS.kd l_1) (hS.i 1 rfl rfl l_1) ?_
  refine aw_con j43_27 ?_
  refine aw_bin (z := (((iset T 33 a0 i_2 (x1.toUInt32.toUInt16.toUInt32.toInt32)).1 5 a0 1) + (1 : Int32))) j43_28 rfl ?_
  refine aw_put j43_29 (hS.kd l_1) rfl ?_
  have hS := hS.seti (s := 5) 1 (((iset T 33 a0 i_2 (x1.toUInt32.toUInt16.toUInt32.toInt32)).1 5 a0 1) + (1 : Int32)) rfl rfl l_1
  exact k_5 _ hS
theorem bc43_32 {r0 : Option Nat} {x1 : Int32}  (k_1 : ∀ S, cr X T S → Q none S) : cA ext X d 43 32 [some (cv X 5 r0), some (.int x1)] [] T Q := by
  intro S hS
  exact aw_vret j43_32 rt43 (k_1 _ hS)
/-! Signs_putNumber -/
theorem bc44_0 {r0 : Option Nat} {x1 : Int32} {o2 : Option Value}  (k_1 : cA ext X d 44 4 [some (cv X 5 r0), some (.int x1), some (.int (1000 : Int32))] [] T Q) : cA ext X d 44 0 [some (cv X 5 r0), some (.int x1), o2] [] T Q := by
  intro S hS
  refine aw_con j44_0 ?_
  refine aw_ist j44_3 (Nat.le_of_ble_eq_true rfl) ?_
  exact k_1 _ hS
theorem bc44_4 {r0 : Option Nat} {x1 : Int32} {x2 : Int32}  (k_1 : (x2 ≤ 0) → cA ext X d 44 40 [some (cv X 5 r0), some (.int x1), some (.int x2)] [] T Q) (k_2 : (¬ (x2 ≤ 0)) → cA ext X d 44 8 [some (cv X 5 r0), some (.int x1), some (.int x2)] [] T Q) : cA ext X d 44 4 [some (cv X 5 r0), some (.int x1), some (.int x2)] [] T Q := by
  intro S hS
  refine aw_ild j44_4 rfl ?_
  exact aw_if j44_5 (fun h => k_1 (of_decide_eq_true h) _ hS) (fun h => k_2 (of_decide_eq_false h) _ hS)
theorem bc44_8 {r0 : Option Nat} {x1 : Int32} {x2 : Int32}  (k_1 : (x2 ≤ x1) → cA ext X d 44 18 [some (cv X 5 r0), some (.int x1), some (.int x2)] [] T Q) (k_2 : (¬ (x2 ≤ x1)) → cA ext X d 44 13 [some (cv X 5 r0), some (.int x1), some (.int x2)] [] T Q) : cA ext X d 44 8 [some (cv X 5 r0), some (.int x1), some (.int x2)] [] T Q := by
  intro S hS
  refine aw_ild j44_8 rfl ?_
  refine aw_ild j44_9 rfl ?_
  exact aw_ic j44_10 (fun h => k_1 (of_decide_eq_true h) _ hS) (fun h => k_2 (of_decide_eq_false h) _ hS)
theorem bc44_13 {r0 : Option Nat} {x1 : Int32} {x2 : Int32}  (k_1 : (¬ x2 = (1 : Int32)) → cA ext X d 44 32 [some (cv X 5 r0), some (.int x1), some (.int x2)] [] T Q) (k_2 : (x2 = (1 : Int32)) → cA ext X d 44 18 [some (cv X 5 r0), some (.int x1), some (.int x2)] [] T Q) : cA ext X d 44 13 [some (cv X 5 r0), some (.int x1), some (.int x2)] [] T Q := by
  intro S hS
  refine aw_ild j44_13 rfl ?_
  refine aw_con j44_14 ?_
  exact aw_ic j44_15 (fun h => k_1 (of_decide_eq_true h) _ hS) (fun h => k_2 (Decidable.of_not_not (of_decide_eq_false h)) _ hS)
theorem bc44_18 {a0 : Nat} {x1 : Int32} {x2 : Int32} {P_3 : cT → Prop} (l_1 : X.2.1 5 a0) (z_2 : ¬ x2 = 0) (m_6 : cCv ext X d 43 [cv X 5 (some a0), .int (((48 : Int32) + ((x1 / x2) - (x1 / x2) / (10 : Int32) * (10 : Int32))).toUInt32 % 65536).toInt32] T P_3) (k_7 : ∀ T_4, P_3 T_4 → cA ext X (d + 1) 44 32 [some (cv X 5 (some a0)), some (.int x1), some (.int x2)] [] T_4 Q) : cA ext X (d + 1) 44 18 [some (cv X 5 (some a0)), some (.int x1), some (.int x2)] [] T Q := by
  intro S hS
  refine aw_ald j44_18 rfl (cv_isR _ _ _) ?_
  refine aw_con j44_19 ?_
  refine aw_ild j44_21 rfl ?_
  refine aw_ild j44_22 rfl ?_
  refine aw_bin (z := (x1 / x2)) j44_23 (by simp only [av_bin]; exact if_neg z_2) ?_
  refine aw_con j44_24 ?_
  refine aw_bin (z := ((x1 / x2) - (x1 / x2) / (10 : Int32) * (10 : Int32))) j44_26 (by simp only [av_bin]; exact if_neg (by decide)) ?_
  refine aw_bin (z := ((48 : Int32) + ((x1 / x2) - (x1 / x2) / (10 : Int32) * (10 : Int32)))) j44_27 rfl ?_
  refine aw_i2c j44_28 ?_
  refine aw_callv (as := [cv X 5 (some a0), .int (((48 : Int32) + ((x1 / x2) - (x1 / x2) / (10 : Int32) * (10 : Int32))).toUInt32 % 65536).toInt32]) j44_29 rfl rfl (Nat.le_of_ble_eq_true rfl) cy43.1 cy43.2 (cs_cons rfl (cs_cons rfl cs_nil)) (decide_eq_true (hS.kd l_1)) (m_6 _ hS) (fun S1 h1 => ?_)
  obtain ⟨W1, h1, h2⟩ := h1
  exact k_7 W1 h2 S1 h1
theorem bc44_32 {r0 : Option Nat} {x1 : Int32} {x2 : Int32}  (k_1 : cA ext X d 44 4 [some (cv X 5 r0), some (.int x1), some (.int (x2 / (10 : Int32)))] [] T Q) : cA ext X d 44 32 [some (cv X 5 r0), some (.int x1), some (.int x2)] [] T Q := by
  intro S hS
  refine aw_ild j44_32 rfl ?_
  refine aw_con j44_33 ?_
  refine aw_bin (z := (x2 / (10 : Int32))) j44_35 (by simp only [av_bin]; exact if_neg (by decide)) ?_
  refine aw_ist j44_36 (Nat.le_of_ble_eq_true rfl) ?_
  exact aw_goto j44_37 (k_1 _ hS)
theorem bc44_40 {r0 : Option Nat} {x1 : Int32} {x2 : Int32}  (k_1 : ∀ S, cr X T S → Q none S) : cA ext X d 44 40 [some (cv X 5 r0), some (.int x1), some (.int x2)] [] T Q := by
  intro S hS
  exact aw_vret j44_40 rt44 (k_1 _ hS)
end
