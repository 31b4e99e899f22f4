section
variable {ext : av_X} {X : cX} {d : Nat} {T : cT} {Q : Option Value → av_St → Prop}
/-! File_take -/
theorem bc46_0 {a0 : Nat} {r1 : Option Nat} {o2 : Option Value} {o3 : Option Value} {o4 : Option Value} (l_1 : X.2.1 6 a0) (k_2 : cA ext X d 46 10 [some (cv X 6 (some a0)), some (cv X 9 r1), some (cv X 9 none), some (cv X 9 (T.2 6 a0 2)), some (.int (0 : Int32))] [] T Q) : cA ext X d 46 0 [some (cv X 6 (some a0)), some (cv X 9 r1), o2, o3, o4] [] T Q := by
  intro S hS
  refine aw_nul j46_0 ?_
  refine aw_ast j46_1 rfl (Nat.le_of_ble_eq_true rfl) ?_
  refine aw_ald j46_2 rfl (cv_isR _ _ _) ?_
  refine aw_get j46_3 (hS.kd l_1) (hS.r 2 rfl l_1) ?_
  refine aw_ast j46_6 (cv_isR _ _ _) (Nat.le_of_ble_eq_true rfl) ?_
  refine aw_con j46_7 ?_
  refine aw_ist j46_8 (Nat.le_of_ble_eq_true rfl) ?_
  exact k_2 _ hS
theorem bc46_10 {r0 : Option Nat} {r1 : Option Nat} {r2 : Option Nat} {r3 : Option Nat} {x4 : Int32}  (k_1 : ((600 : Int32) ≤ x4) → cA ext X d 46 46 [some (cv X 6 r0), some (cv X 9 r1), some (cv X 9 r2), some (cv X 9 r3), some (.int x4)] [] T Q) (k_2 : (¬ ((600 : Int32) ≤ x4)) → cA ext X d 46 18 [some (cv X 6 r0), some (cv X 9 r1), some (cv X 9 r2), some (cv X 9 r3), some (.int x4)] [] T Q) : cA ext X d 46 10 [some (cv X 6 r0), some (cv X 9 r1), some (cv X 9 r2), some (cv X 9 r3), some (.int x4)] [] T Q := by
  intro S hS
  refine aw_ild j46_10 rfl ?_
  refine aw_con j46_12 ?_
  exact aw_ic j46_15 (fun h => k_1 (of_decide_eq_true h) _ hS) (fun h => k_2 (of_decide_eq_false h) _ hS)
theorem bc46_18 {r0 : Option Nat} {r1 : Option Nat} {r2 : Option Nat} {r3 : Option Nat} {x4 : Int32}  (k_2 : r3 = none → cA ext X d 46 46 [some (cv X 6 r0), some (cv X 9 r1), some (cv X 9 r2), some (cv X 9 r3), some (.int x4)] [] T Q) (k_3 : ∀ c_1, r3 = some c_1 → cA ext X d 46 22 [some (cv X 6 r0), some (cv X 9 r1), some (cv X 9 r2), some (cv X 9 r3), some (.int x4)] [] T Q) : cA ext X d 46 18 [some (cv X 6 r0), some (cv X 9 r1), some (cv X 9 r2), some (cv X 9 r3), some (.int x4)] [] T Q := by
  intro S hS
  refine aw_ald j46_18 rfl (cv_isR _ _ _) ?_
  exact aw_null (r := (r3).map (X.1 9)) j46_19 (fun h => k_2 (cv_none h) _ hS) (fun c h => by obtain ⟨c, hc⟩ := cv_some h; exact k_3 c hc _ hS)
theorem bc46_22 {r0 : Option Nat} {a1 : Nat} {r2 : Option Nat} {a3 : Nat} {x4 : Int32} (l_1 : X.2.1 9 a1) (l_2 : X.2.1 9 a3) (k_3 : ((T.1 9 a1 2) < (T.1 9 a3 2)) → cA ext X d 46 46 [some (cv X 6 r0), some (cv X 9 (some a1)), some (cv X 9 r2), some (cv X 9 (some a3)), some (.int x4)] [] T Q) (k_4 : (¬ ((T.1 9 a1 2) < (T.1 9 a3 2))) → cA ext X d 46 33 [some (cv X 6 r0), some (cv X 9 (some a1)), some (cv X 9 r2), some (cv X 9 (some a3)), some (.int x4)] [] T Q) : cA ext X d 46 22 [some (cv X 6 r0), some (cv X 9 (some a1)), some (cv X 9 r2), some (cv X 9 (some a3)), some (.int x4)] [] T Q := by
  intro S hS
  refine aw_ald j46_22 rfl (cv_isR _ _ _) ?_
  refine aw_get j46_23 (hS.kd l_2) (hS.i 2 rfl rfl l_2) ?_
  refine aw_ald j46_26 rfl (cv_isR _ _ _) ?_
  refine aw_get j46_27 (hS.kd l_1) (hS.i 2 rfl rfl l_1) ?_
  exact aw_ic j46_30 (fun h => k_3 (of_decide_eq_true h) _ hS) (fun h => k_4 (of_decide_eq_false h) _ hS)
theorem bc46_33 {r0 : Option Nat} {r1 : Option Nat} {r2 : Option Nat} {a3 : Nat} {x4 : Int32} (l_1 : X.2.1 9 a3) (k_2 : cA ext X d 46 10 [some (cv X 6 r0), some (cv X 9 r1), some (cv X 9 (some a3)), some (cv X 9 (T.2 9 a3 4)), some (.int (x4 + 1))] [] T Q) : cA ext X d 46 33 [some (cv X 6 r0), some (cv X 9 r1), some (cv X 9 r2), some (cv X 9 (some a3)), some (.int x4)] [] T Q := by
  intro S hS
  refine aw_ald j46_33 rfl (cv_isR _ _ _) ?_
  refine aw_ast j46_34 (cv_isR _ _ _) (Nat.le_of_ble_eq_true rfl) ?_
  refine aw_ald j46_35 rfl (cv_isR _ _ _) ?_
  refine aw_get j46_36 (hS.kd l_1) (hS.r 4 rfl l_1) ?_
  refine aw_ast j46_39 (cv_isR _ _ _) (Nat.le_of_ble_eq_true rfl) ?_
  refine aw_inc j46_40 rfl ?_
  exact aw_goto j46_43 (k_2 _ hS)
theorem bc46_46 {r0 : Option Nat} {a1 : Nat} {r2 : Option Nat} {r3 : Option Nat} {x4 : Int32} (l_1 : X.2.1 9 a1) (l_2 : ∀ j, r3 = some j → X.2.1 9 j) (k_4 : r2 = none → cA ext X d 46 55 [some (cv X 6 r0), some (cv X 9 (some a1)), some (cv X 9 r2), some (cv X 9 r3), some (.int x4)] [] (oset T 9 a1 4 r3) Q) (k_5 : ∀ c_3, r2 = some c_3 → cA ext X d 46 63 [some (cv X 6 r0), some (cv X 9 (some a1)), some (cv X 9 r2), some (cv X 9 r3), some (.int x4)] [] (oset T 9 a1 4 r3) Q) : cA ext X d 46 46 [some (cv X 6 r0), some (cv X 9 (some a1)), some (cv X 9 r2), some (cv X 9 r3), some (.int x4)] [] T Q := by
  intro S hS
  refine aw_ald j46_46 rfl (cv_isR _ _ _) ?_
  refine aw_ald j46_47 rfl (cv_isR _ _ _) ?_
  refine aw_put j46_48 (hS.kd l_1) (cv_fo _ X 9 r3) ?_
  have hS := hS.setr (s := 9) 4 r3 rfl rfl l_1 l_2
  refine aw_ald j46_51 rfl (cv_isR _ _ _) ?_
  exact aw_nonn (r := (r2).map (X.1 9)) j46_52 (fun h => k_4 (cv_none h) _ hS) (fun c h => by obtain ⟨c, hc⟩ := cv_some h; exact k_5 c hc _ hS)
theorem bc46_55 {a0 : Nat} {r1 : Option Nat} {r2 : Option Nat} {r3 : Option Nat} {x4 : Int32} (l_1 : X.2.1 6 a0) (l_2 : ∀ j, r1 = some j → X.2.1 9 j) (k_3 : cA ext X d 46 68 [some (cv X 6 (some a0)), some (cv X 9 r1), some (cv X 9 r2), some (cv X 9 r3), some (.int x4)] [] (oset T 6 a0 2 r1) Q) : cA ext X d 46 55 [some (cv X 6 (some a0)), some (cv X 9 r1), some (cv X 9 r2), some (cv X 9 r3), some (.int x4)] [] T Q := by
  intro S hS
  refine aw_ald j46_55 rfl (cv_isR _ _ _) ?_
  refine aw_ald j46_56 rfl (cv_isR _ _ _) ?_
  refine aw_put j46_57 (hS.kd l_1) (cv_fo _ X 9 r1) ?_
  have hS := hS.setr (s := 6) 2 r1 rfl rfl l_1 l_2
  exact aw_goto j46_60 (k_3 _ hS)
theorem bc46_63 {r0 : Option Nat} {r1 : Option Nat} {a2 : Nat} {r3 : Option Nat} {x4 : Int32} (l_1 : X.2.1 9 a2) (l_2 : ∀ j, r1 = some j → X.2.1 9 j) (k_3 : cA ext X d 46 68 [some (cv X 6 r0), some (cv X 9 r1), some (cv X 9 (some a2)), some (cv X 9 r3), some (.int x4)] [] (oset T 9 a2 4 r1) Q) : cA ext X d 46 63 [some (cv X 6 r0), some (cv X 9 r1), some (cv X 9 (some a2)), some (cv X 9 r3), some (.int x4)] [] T Q := by
  intro S hS
  refine aw_ald j46_63 rfl (cv_isR _ _ _) ?_
  refine aw_ald j46_64 rfl (cv_isR _ _ _) ?_
  refine aw_put j46_65 (hS.kd l_1) (cv_fo _ X 9 r1) ?_
  have hS := hS.setr (s := 9) 4 r1 rfl rfl l_1 l_2
  exact k_3 _ hS
theorem bc46_68 {r0 : Option Nat} {r1 : Option Nat} {r2 : Option Nat} {r3 : Option Nat} {x4 : Int32}  (k_1 : ∀ S, cr X T S → Q none S) : cA ext X d 46 68 [some (cv X 6 r0), some (cv X 9 r1), some (cv X 9 r2), some (cv X 9 r3), some (.int x4)] [] T Q := by
  intro S hS
  exact aw_vret j46_68 rt46 (k_1 _ hS)
/-! File_hasPlaceTwice -/
theorem bc47_0 {a0 : Nat} {r1 : Option Nat} {o2 : Option Value} {o3 : Option Value} {o4 : Option Value} {o5 : Option Value} (l_1 : X.2.1 6 a0) (k_2 : cA ext X d 47 10 [some (cv X 6 (some a0)), some (cv X 27 r1), some (.int (0 : Int32)), some (cv X 9 (T.2 6 a0 2)), some (.int (0 : Int32)), o5] [] T Q) : cA ext X d 47 0 [some (cv X 6 (some a0)), some (cv X 27 r1), o2, o3, o4, o5] [] T Q := by
  intro S hS
  refine aw_con j47_0 ?_
  refine aw_ist j47_1 (Nat.le_of_ble_eq_true rfl) ?_
  refine aw_ald j47_2 rfl (cv_isR _ _ _) ?_
  refine aw_get j47_3 (hS.kd l_1) (hS.r 2 rfl l_1) ?_
  refine aw_ast j47_6 (cv_isR _ _ _) (Nat.le_of_ble_eq_true rfl) ?_
  refine aw_con j47_7 ?_
  refine aw_ist j47_8 (Nat.le_of_ble_eq_true rfl) ?_
  exact k_2 _ hS
theorem bc47_10 {r0 : Option Nat} {r1 : Option Nat} {x2 : Int32} {r3 : Option Nat} {x4 : Int32} {o5 : Option Value}  (k_1 : ((600 : Int32) ≤ x4) → cA ext X d 47 88 [some (cv X 6 r0), some (cv X 27 r1), some (.int x2), some (cv X 9 r3), some (.int x4), o5] [] T Q) (k_2 : (¬ ((600 : Int32) ≤ x4)) → cA ext X d 47 18 [some (cv X 6 r0), some (cv X 27 r1), some (.int x2), some (cv X 9 r3), some (.int x4), o5] [] T Q) : cA ext X d 47 10 [some (cv X 6 r0), some (cv X 27 r1), some (.int x2), some (cv X 9 r3), some (.int x4), o5] [] T Q := by
  intro S hS
  refine aw_ild j47_10 rfl ?_
  refine aw_con j47_12 ?_
  exact aw_ic j47_15 (fun h => k_1 (of_decide_eq_true h) _ hS) (fun h => k_2 (of_decide_eq_false h) _ hS)
theorem bc47_18 {r0 : Option Nat} {r1 : Option Nat} {x2 : Int32} {r3 : Option Nat} {x4 : Int32} {o5 : Option Value}  (k_2 : r3 = none → cA ext X d 47 88 [some (cv X 6 r0), some (cv X 27 r1), some (.int x2), some (cv X 9 r3), some (.int x4), o5] [] T Q) (k_3 : ∀ c_1, r3 = some c_1 → cA ext X d 47 22 [some (cv X 6 r0), some (cv X 27 r1), some (.int x2), some (cv X 9 r3), some (.int x4), o5] [] T Q) : cA ext X d 47 18 [some (cv X 6 r0), some (cv X 27 r1), some (.int x2), some (cv X 9 r3), some (.int x4), o5] [] T Q := by
  intro S hS
  refine aw_ald j47_18 rfl (cv_isR _ _ _) ?_
  exact aw_null (r := (r3).map (X.1 9)) j47_19 (fun h => k_2 (cv_none h) _ hS) (fun c h => by obtain ⟨c, hc⟩ := cv_some h; exact k_3 c hc _ hS)
theorem bc47_22 {a0 : Nat} {r1 : Option Nat} {x2 : Int32} {a3 : Nat} {x4 : Int32} {o5 : Option Value} (l_1 : X.2.1 6 a0) (l_2 : X.2.1 9 a3) (k_3 : ((T.1 6 a0 1) ≤ (T.1 9 a3 2)) → cA ext X d 47 88 [some (cv X 6 (some a0)), some (cv X 27 r1), some (.int x2), some (cv X 9 (some a3)), some (.int x4), o5] [] T Q) (k_4 : (¬ ((T.1 6 a0 1) ≤ (T.1 9 a3 2))) → cA ext X d 47 33 [some (cv X 6 (some a0)), some (cv X 27 r1), some (.int x2), some (cv X 9 (some a3)), some (.int x4), o5] [] T Q) : cA ext X d 47 22 [some (cv X 6 (some a0)), some (cv X 27 r1), some (.int x2), some (cv X 9 (some a3)), some (.int x4), o5] [] T Q := by
  intro S hS
  refine aw_ald j47_22 rfl (cv_isR _ _ _) ?_
  refine aw_get j47_23 (hS.kd l_2) (hS.i 2 rfl rfl l_2) ?_
  refine aw_ald j47_26 rfl (cv_isR _ _ _) ?_
  refine aw_get j47_27 (hS.kd l_1) (hS.i 1 rfl rfl l_1) ?_
  exact aw_ic j47_30 (fun h => k_3 (of_decide_eq_true h) _ hS) (fun h => k_4 (of_decide_eq_false h) _ hS)
theorem bc47_33 {r0 : Option Nat} {r1 : Option Nat} {x2 : Int32} {a3 : Nat} {x4 : Int32} {o5 : Option Value} {P_2 : Int32 → cT → Prop} (l_1 : X.2.1 9 a3) (m_5 : cCi ext X d 61 [cv X 9 (some a3), cv X 27 r1] T P_2) (k_6 : ∀ v_4 T_3, P_2 v_4 T_3 → cA ext X (d + 1) 47 38 [some (cv X 6 r0), some (cv X 27 r1), some (.int x2), some (cv X 9 (some a3)), some (.int x4), o5] [.int v_4] T_3 Q) : cA ext X (d + 1) 47 33 [some (cv X 6 r0), some (cv X 27 r1), some (.int x2), some (cv X 9 (some a3)), some (.int x4), o5] [] T Q := by
  intro S hS
  refine aw_ald j47_33 rfl (cv_isR _ _ _) ?_
  refine aw_ald j47_34 rfl (cv_isR _ _ _) ?_
  refine aw_calli (as := [cv X 9 (some a3), cv X 27 r1]) j47_35 rfl rfl (Nat.le_of_ble_eq_true rfl) cy61.1 cy61.2 (cs_cons rfl (cs_cons (cv_cat _ _ _) cs_nil)) (decide_eq_true (hS.kd l_1)) (m_5 _ hS) (fun v1 S1 h1 => ?_)
  obtain ⟨W1, h1, h2⟩ := h1
  exact k_6 v1 W1 h2 S1 h1
theorem bc47_38 {r0 : Option Nat} {r1 : Option Nat} {x2 : Int32} {r3 : Option Nat} {x4 : Int32} {o5 : Option Value} {xk0 : Int32}  (k_1 : ((1 : Int32) < xk0) → cA ext X d 47 60 [some (cv X 6 r0), some (cv X 27 r1), some (.int x2), some (cv X 9 r3), some (.int x4), some (.int xk0)] [] T Q) (k_2 : (¬ ((1 : Int32) < xk0)) → cA ext X d 47 46 [some (cv X 6 r0), some (cv X 27 r1), some (.int x2), some (cv X 9 r3), some (.int x4), some (.int xk0)] [] T Q) : cA ext X d 47 38 [some (cv X 6 r0), some (cv X 27 r1), some (.int x2), some (cv X 9 r3), some (.int x4), o5] [.int xk0] T Q := by
  intro S hS
  refine aw_ist j47_38 (Nat.le_of_ble_eq_true rfl) ?_
  refine aw_ild j47_40 rfl ?_
  refine aw_con j47_42 ?_
  exact aw_ic j47_43 (fun h => k_1 (of_decide_eq_true h) _ hS) (fun h => k_2 (of_decide_eq_false h) _ hS)
theorem bc47_46 {r0 : Option Nat} {r1 : Option Nat} {x2 : Int32} {r3 : Option Nat} {x4 : Int32} {x5 : Int32}  (k_1 : (¬ x5 = (1 : Int32)) → cA ext X d 47 62 [some (cv X 6 r0), some (cv X 27 r1), some (.int x2), some (cv X 9 r3), some (.int x4), some (.int x5)] [] T Q) (k_2 : (x5 = (1 : Int32)) → cA ext X d 47 52 [some (cv X 6 r0), some (cv X 27 r1), some (.int x2), some (cv X 9 r3), some (.int x4), some (.int x5)] [] T Q) : cA ext X d 47 46 [some (cv X 6 r0), some (cv X 27 r1), some (.int x2), some (cv X 9 r3), some (.int x4), some (.int x5)] [] T Q := by
  intro S hS
  refine aw_ild j47_46 rfl ?_
  refine aw_con j47_48 ?_
  exact aw_ic j47_49 (fun h => k_1 (of_decide_eq_true h) _ hS) (fun h => k_2 (Decidable.of_not_not (of_decide_eq_false h)) _ hS)
theorem bc47_52 {r0 : Option Nat} {r1 : Option Nat} {x2 : Int32} {a3 : Nat} {x4 : Int32} {x5 : Int32} (l_1 : X.2.1 9 a3) (k_2 : (x2 ≤ (T.1 9 a3 2)) → cA ext X d 47 62 [some (cv X 6 r0), some (cv X 27 r1), some (.int x2), some (cv X 9 (some a3)), some (.int x4), some (.int x5)] [] T Q) (k_3 : (¬ (x2 ≤ (T.1 9 a3 2))) → cA ext X d 47 60 [some (cv X 6 r0), some (cv X 27 r1), some (.int x2), some (cv X 9 (some a3)), some (.int x4), some (.int x5)] [] T Q) : cA ext X d 47 52 [some (cv X 6 r0), some (cv X 27 r1), some (.int x2), some (cv X 9 (some a3)), some (.int x4), some (.int x5)] [] T Q := by
  intro S hS
  refine aw_ald j47_52 rfl (cv_isR _ _ _) ?_
  refine aw_get j47_53 (hS.kd l_1) (hS.i 2 rfl rfl l_1) ?_
  refine aw_ild j47_56 rfl ?_
  exact aw_ic j47_57 (fun h => k_2 (of_decide_eq_true h) _ hS) (fun h => k_3 (of_decide_eq_false h) _ hS)
theorem bc47_60 {r0 : Option Nat} {r1 : Option Nat} {x2 : Int32} {r3 : Option Nat} {x4 : Int32} {x5 : Int32}  (k_1 : ∀ S, cr X T S → Q (some (.int (1 : Int32))) S) : cA ext X d 47 60 [some (cv X 6 r0), some (cv X 27 r1), some (.int x2), some (cv X 9 r3), some (.int x4), some (.int x5)] [] T Q := by
  intro S hS
  refine aw_con j47_60 ?_
  exact aw_ret j47_61 (by rw [rt47]; exact rfl) (k_1 _ hS)
theorem bc47_62 {r0 : Option Nat} {r1 : Option Nat} {x2 : Int32} {r3 : Option Nat} {x4 : Int32} {x5 : Int32}  (k_1 : (¬ x5 = (1 : Int32)) → cA ext X d 47 77 [some (cv X 6 r0), some (cv X 27 r1), some (.int x2), some (cv X 9 r3), some (.int x4), some (.int x5)] [] T Q) (k_2 : (x5 = (1 : Int32)) → cA ext X d 47 68 [some (cv X 6 r0), some (cv X 27 r1), some (.int x2), some (cv X 9 r3), some (.int x4), some (.int x5)] [] T Q) : cA ext X d 47 62 [some (cv X 6 r0), some (cv X 27 r1), some (.int x2), some (cv X 9 r3), some (.int x4), some (.int x5)] [] T Q := by
  intro S hS
  refine aw_ild j47_62 rfl ?_
  refine aw_con j47_64 ?_
  exact aw_ic j47_65 (fun h => k_1 (of_decide_eq_true h) _ hS) (fun h => k_2 (Decidable.of_not_not (of_decide_eq_false h)) _ hS)
theorem bc47_68 {r0 : Option Nat} {r1 : Option Nat} {x2 : Int32} {a3 : Nat} {x4 : Int32} {x5 : Int32} {P_2 : Int32 → cT → Prop} (l_1 : X.2.1 9 a3) (m_5 : cCi ext X d 97 [.int x2, .int (T.1 9 a3 3)] T P_2) (k_6 : ∀ v_4 T_3, P_2 v_4 T_3 → cA ext X (d + 1) 47 76 [some (cv X 6 r0), some (cv X 27 r1), some (.int x2), some (cv X 9 (some a3)), some (.int x4), some (.int x5)] [.int v_4] T_3 Q) : cA ext X (d + 1) 47 68 [some (cv X 6 r0), some (cv X 27 r1), some (.int x2), some (cv X 9 (some a3)), some (.int x4), some (.int x5)] [] T Q := by
  intro S hS
  refine aw_ild j47_68 rfl ?_
  refine aw_ald j47_69 rfl (cv_isR _ _ _) ?_
  refine aw_get j47_70 (hS.kd l_1) (hS.i 3 rfl rfl l_1) ?_
  refine aw_calli (as := [.int x2, .int (T.1 9 a3 3)]) j47_73 rfl rfl (Nat.le_of_ble_eq_true rfl) cy97.1 cy97.2 (cs_cons rfl (cs_cons rfl cs_nil)) rfl (m_5 _ hS) (fun v1 S1 h1 => ?_)
  obtain ⟨W1, h1, h2⟩ := h1
  exact k_6 v1 W1 h2 S1 h1
theorem bc47_76 {r0 : Option Nat} {r1 : Option Nat} {x2 : Int32} {r3 : Option Nat} {x4 : Int32} {x5 : Int32} {xk0 : Int32}  (k_1 : cA ext X d 47 77 [some (cv X 6 r0), some (cv X 27 r1), some (.int xk0), some (cv X 9 r3), some (.int x4), some (.int x5)] [] T Q) : cA ext X d 47 76 [some (cv X 6 r0), some (cv X 27 r1), some (.int x2), some (cv X 9 r3), some (.int x4), some (.int x5)] [.int xk0] T Q := by
  intro S hS
  refine aw_ist j47_76 (Nat.le_of_ble_eq_true rfl) ?_
  exact k_1 _ hS
theorem bc47_77 {r0 : Option Nat} {r1 : Option Nat} {x2 : Int32} {a3 : Nat} {x4 : Int32} {x5 : Int32} (l_1 : X.2.1 9 a3) (k_2 : cA ext X d 47 10 [some (cv X 6 r0), some (cv X 27 r1), some (.int x2), some (cv X 9 (T.2 9 a3 4)), some (.int (x4 + 1)), some (.int x5)] [] T Q) : cA ext X d 47 77 [some (cv X 6 r0), some (cv X 27 r1), some (.int x2), some (cv X 9 (some a3)), some (.int x4), some (.int x5)] [] T Q := by
  intro S hS
  refine aw_ald j47_77 rfl (cv_isR _ _ _) ?_
  refine aw_get j47_78 (hS.kd l_1) (hS.r 4 rfl l_1) ?_
  refine aw_ast j47_81 (cv_isR _ _ _) (Nat.le_of_ble_eq_true rfl) ?_
  refine aw_inc j47_82 rfl ?_
  exact aw_goto j47_85 (k_2 _ hS)
theorem bc47_88 {r0 : Option Nat} {r1 : Option Nat} {x2 : Int32} {r3 : Option Nat} {x4 : Int32} {o5 : Option Value}  (k_1 : ∀ S, cr X T S → Q (some (.int (0 : Int32))) S) : cA ext X d 47 88 [some (cv X 6 r0), some (cv X 27 r1), some (.int x2), some (cv X 9 r3), some (.int x4), o5] [] T Q := by
  intro S hS
  refine aw_con j47_88 ?_
  exact aw_ret j47_89 (by rw [rt47]; exact rfl) (k_1 _ hS)
/-! File_hasPlaceInNone -/
theorem bc48_0 {a0 : Nat} {r1 : Option Nat} {o2 : Option Value} {o3 : Option Value} {o4 : Option Value} (l_1 : X.2.1 6 a0) (k_2 : cA ext X d 48 10 [some (cv X 6 (some a0)), some (cv X 27 r1), some (.int (0 : Int32)), some (cv X 9 (T.2 6 a0 2)), some (.int (0 : Int32))] [] T Q) : cA ext X d 48 0 [some (cv X 6 (some a0)), some (cv X 27 r1), o2, o3, o4] [] T Q := by
  intro S hS
  refine aw_con j48_0 ?_
  refine aw_ist j48_1 (Nat.le_of_ble_eq_true rfl) ?_
  refine aw_ald j48_2 rfl (cv_isR _ _ _) ?_
  refine aw_get j48_3 (hS.kd l_1) (hS.r 2 rfl l_1) ?_
  refine aw_ast j48_6 (cv_isR _ _ _) (Nat.le_of_ble_eq_true rfl) ?_
  refine aw_con j48_7 ?_
  refine aw_ist j48_8 (Nat.le_of_ble_eq_true rfl) ?_
  exact k_2 _ hS
theorem bc48_10 {r0 : Option Nat} {r1 : Option Nat} {x2 : Int32} {r3 : Option Nat} {x4 : Int32}  (k_1 : ((600 : Int32) ≤ x4) → cA ext X d 48 58 [some (cv X 6 r0), some (cv X 27 r1), some (.int x2), some (cv X 9 r3), some (.int x4)] [] T Q) (k_2 : (¬ ((600 : Int32) ≤ x4)) → cA ext X d 48 18 [some (cv X 6 r0), some (cv X 27 r1), some (.int x2), some (cv X 9 r3), some (.int x4)] [] T Q) : cA ext X d 48 10 [some (cv X 6 r0), some (cv X 27 r1), some (.int x2), some (cv X 9 r3), some (.int x4)] [] T Q := by
  intro S hS
  refine aw_ild j48_10 rfl ?_
  refine aw_con j48_12 ?_
  exact aw_ic j48_15 (fun h => k_1 (of_decide_eq_true h) _ hS) (fun h => k_2 (of_decide_eq_false h) _ hS)
theorem bc48_18 {r0 : Option Nat} {r1 : Option Nat} {x2 : Int32} {r3 : Option Nat} {x4 : Int32}  (k_2 : r3 = none → cA ext X d 48 58 [some (cv X 6 r0), some (cv X 27 r1), some (.int x2), some (cv X 9 r3), some (.int x4)] [] T Q) (k_3 : ∀ c_1, r3 = some c_1 → cA ext X d 48 22 [some (cv X 6 r0), some (cv X 27 r1), some (.int x2), some (cv X 9 r3), some (.int x4)] [] T Q) : cA ext X d 48 18 [some (cv X 6 r0), some (cv X 27 r1), some (.int x2), some (cv X 9 r3), some (.int x4)] [] T Q := by
  intro S hS
  refine aw_ald j48_18 rfl (cv_isR _ _ _) ?_
  exact aw_null (r := (r3).map (X.1 9)) j48_19 (fun h => k_2 (cv_none h) _ hS) (fun c h => by obtain ⟨c, hc⟩ := cv_some h; exact k_3 c hc _ hS)
theorem bc48_22 {r0 : Option Nat} {r1 : Option Nat} {x2 : Int32} {a3 : Nat} {x4 : Int32} (l_1 : X.2.1 9 a3) (k_2 : (x2 < (T.1 9 a3 2)) → cA ext X d 48 58 [some (cv X 6 r0), some (cv X 27 r1), some (.int x2), some (cv X 9 (some a3)), some (.int x4)] [] T Q) (k_3 : (¬ (x2 < (T.1 9 a3 2))) → cA ext X d 48 30 [some (cv X 6 r0), some (cv X 27 r1), some (.int x2), some (cv X 9 (some a3)), some (.int x4)] [] T Q) : cA ext X d 48 22 [some (cv X 6 r0), some (cv X 27 r1), some (.int x2), some (cv X 9 (some a3)), some (.int x4)] [] T Q := by
  intro S hS
  refine aw_ald j48_22 rfl (cv_isR _ _ _) ?_
  refine aw_get j48_23 (hS.kd l_1) (hS.i 2 rfl rfl l_1) ?_
  refine aw_ild j48_26 rfl ?_
  exact aw_ic j48_27 (fun h => k_2 (of_decide_eq_true h) _ hS) (fun h => k_3 (of_decide_eq_false h) _ hS)
theorem bc48_30 {r0 : Option Nat} {r1 : Option Nat} {x2 : Int32} {a3 : Nat} {x4 : Int32} {P_2 : Int32 → cT → Prop} (l_1 : X.2.1 9 a3) (m_5 : cCi ext X d 61 [cv X 9 (some a3), cv X 27 r1] T P_2) (k_6 : ∀ v_4 T_3, P_2 v_4 T_3 → cA ext X (d + 1) 48 35 [some (cv X 6 r0), some (cv X 27 r1), some (.int x2), some (cv X 9 (some a3)), some (.int x4)] [.int v_4] T_3 Q) : cA ext X (d + 1) 48 30 [some (cv X 6 r0), some (cv X 27 r1), some (.int x2), some (cv X 9 (some a3)), some (.int x4)] [] T Q := by
  intro S hS
  refine aw_ald j48_30 rfl (cv_isR _ _ _) ?_
  refine aw_ald j48_31 rfl (cv_isR _ _ _) ?_
  refine aw_calli (as := [cv X 9 (some a3), cv X 27 r1]) j48_32 rfl rfl (Nat.le_of_ble_eq_true rfl) cy61.1 cy61.2 (cs_cons rfl (cs_cons (cv_cat _ _ _) cs_nil)) (decide_eq_true (hS.kd l_1)) (m_5 _ hS) (fun v1 S1 h1 => ?_)
  obtain ⟨W1, h1, h2⟩ := h1
  exact k_6 v1 W1 h2 S1 h1
theorem bc48_35 {r0 : Option Nat} {r1 : Option Nat} {x2 : Int32} {r3 : Option Nat} {x4 : Int32} {xk0 : Int32}  (k_1 : (xk0 ≤ 0) → cA ext X d 48 47 [some (cv X 6 r0), some (cv X 27 r1), some (.int x2), some (cv X 9 r3), some (.int x4)] [] T Q) (k_2 : (¬ (xk0 ≤ 0)) → cA ext X d 48 38 [some (cv X 6 r0), some (cv X 27 r1), some (.int x2), some (cv X 9 r3), some (.int x4)] [] T Q) : cA ext X d 48 35 [some (cv X 6 r0), some (cv X 27 r1), some (.int x2), some (cv X 9 r3), some (.int x4)] [.int xk0] T Q := by
  intro S hS
  exact aw_if j48_35 (fun h => k_1 (of_decide_eq_true h) _ hS) (fun h => k_2 (of_decide_eq_false h) _ hS)
theorem bc48_38 {r0 : Option Nat} {r1 : Option Nat} {x2 : Int32} {a3 : Nat} {x4 : Int32} {P_2 : Int32 → cT → Prop} (l_1 : X.2.1 9 a3) (m_5 : cCi ext X d 97 [.int x2, .int (T.1 9 a3 3)] T P_2) (k_6 : ∀ v_4 T_3, P_2 v_4 T_3 → cA ext X (d + 1) 48 46 [some (cv X 6 r0), some (cv X 27 r1), some (.int x2), some (cv X 9 (some a3)), some (.int x4)] [.int v_4] T_3 Q) : cA ext X (d + 1) 48 38 [some (cv X 6 r0), some (cv X 27 r1), some (.int x2), some (cv X 9 (some a3)), some (.int x4)] [] T Q := by
  intro S hS
  refine aw_ild j48_38 rfl ?_
  refine aw_ald j48_39 rfl (cv_isR _ _ _) ?_
  refine aw_get j48_40 (hS.kd l_1) (hS.i 3 rfl rfl l_1) ?_
  refine aw_calli (as := [.int x2, .int (T.1 9 a3 3)]) j48_43 rfl rfl (Nat.le_of_ble_eq_true rfl) cy97.1 cy97.2 (cs_cons rfl (cs_cons rfl cs_nil)) rfl (m_5 _ hS) (fun v1 S1 h1 => ?_)
  obtain ⟨W1, h1, h2⟩ := h1
  exact k_6 v1 W1 h2 S1 h1
theorem bc48_46 {r0 : Option Nat} {r1 : Option Nat} {x2 : Int32} {r3 : Option Nat} {x4 : Int32} {xk0 : Int32}  (k_1 : cA ext X d 48 47 [some (cv X 6 r0), some (cv X 27 r1), some (.int xk0), some (cv X 9 r3), some (.int x4)] [] T Q) : cA ext X d 48 46 [some (cv X 6 r0), some (cv X 27 r1), some (.int x2), some (cv X 9 r3), some (.int x4)] [.int xk0] T Q := by
  intro S hS
  refine aw_ist j48_46 (Nat.le_of_ble_eq_true rfl) ?_
  exact k_1 _ hS
theorem bc48_47 {r0 : Option Nat} {r1 : Option Nat} {x2 : Int32} {a3 : Nat} {x4 : Int32} (l_1 : X.2.1 9 a3) (k_2 : cA ext X d 48 10 [some (cv X 6 r0), some (cv X 27 r1), some (.int x2), some (cv X 9 (T.2 9 a3 4)), some (.int (x4 + 1))] [] T Q) : cA ext X d 48 47 [some (cv X 6 r0), some (cv X 27 r1), some (.int x2), some (cv X 9 (some a3)), some (.int x4)] [] T Q := by
  intro S hS
  refine aw_ald j48_47 rfl (cv_isR _ _ _) ?_
  refine aw_get j48_48 (hS.kd l_1) (hS.r 4 rfl l_1) ?_
  refine aw_ast j48_51 (cv_isR _ _ _) (Nat.le_of_ble_eq_true rfl) ?_
  refine aw_inc j48_52 rfl ?_
  exact aw_goto j48_55 (k_2 _ hS)
theorem bc48_58 {a0 : Nat} {r1 : Option Nat} {x2 : Int32} {r3 : Option Nat} {x4 : Int32} (l_1 : X.2.1 6 a0) (k_2 : ((T.1 6 a0 1) ≤ x2) → cA ext X d 48 70 [some (cv X 6 (some a0)), some (cv X 27 r1), some (.int x2), some (cv X 9 r3), some (.int x4)] [] T Q) (k_3 : (¬ ((T.1 6 a0 1) ≤ x2)) → cA ext X d 48 66 [some (cv X 6 (some a0)), some (cv X 27 r1), some (.int x2), some (cv X 9 r3), some (.int x4)] [] T Q) : cA ext X d 48 58 [some (cv X 6 (some a0)), some (cv X 27 r1), some (.int x2), some (cv X 9 r3), some (.int x4)] [] T Q := by
  intro S hS
  refine aw_ild j48_58 rfl ?_
  refine aw_ald j48_59 rfl (cv_isR _ _ _) ?_
  refine aw_get j48_60 (hS.kd l_1) (hS.i 1 rfl rfl l_1) ?_
  exact aw_ic j48_63 (fun h => k_2 (of_decide_eq_true h) _ hS) (fun h => k_3 (of_decide_eq_false h) _ hS)
theorem bc48_66 {r0 : Option Nat} {r1 : Option Nat} {x2 : Int32} {r3 : Option Nat} {x4 : Int32}  (k_1 : cA ext X d 48 71 [some (cv X 6 r0), some (cv X 27 r1), some (.int x2), some (cv X 9 r3), some (.int x4)] [.int (1 : Int32)] T Q) : cA ext X d 48 66 [some (cv X 6 r0), some (cv X 27 r1), some (.int x2), some (cv X 9 r3), some (.int x4)] [] T Q := by
  intro S hS
  refine aw_con j48_66 ?_
  exact aw_goto j48_67 (k_1 _ hS)
theorem bc48_70 {r0 : Option Nat} {r1 : Option Nat} {x2 : Int32} {r3 : Option Nat} {x4 : Int32}  (k_1 : cA ext X d 48 71 [some (cv X 6 r0), some (cv X 27 r1), some (.int x2), some (cv X 9 r3), some (.int x4)] [.int (0 : Int32)] T Q) : cA ext X d 48 70 [some (cv X 6 r0), some (cv X 27 r1), some (.int x2), some (cv X 9 r3), some (.int x4)] [] T Q := by
  intro S hS
  refine aw_con j48_70 ?_
  exact k_1 _ hS
theorem bc48_71 {r0 : Option Nat} {r1 : Option Nat} {x2 : Int32} {r3 : Option Nat} {x4 : Int32} {xk0 : Int32} (o_2 : xk0 = 0 ∨ xk0 = 1) (k_1 : ∀ S, cr X T S → Q (some (.int xk0)) S) : cA ext X d 48 71 [some (cv X 6 r0), some (cv X 27 r1), some (.int x2), some (cv X 9 r3), some (.int x4)] [.int xk0] T Q := by
  intro S hS
  exact aw_ret j48_71 (by rw [rt48]; exact (decide_eq_true o_2)) (k_1 _ hS)
/-! Div_take -/
theorem bc51_0 {a0 : Nat} {r1 : Option Nat} {o2 : Option Value} {o3 : Option Value} {o4 : Option Value} (l_1 : X.2.1 8 a0) (k_2 : cA ext X d 51 10 [some (cv X 8 (some a0)), some (cv X 8 r1), some (cv X 8 none), some (cv X 8 (T.2 8 a0 7)), some (.int (0 : Int32))] [] T Q) : cA ext X d 51 0 [some (cv X 8 (some a0)), some (cv X 8 r1), o2, o3, o4] [] T Q := by
  intro S hS
  refine aw_nul j51_0 ?_
  refine aw_ast j51_1 rfl (Nat.le_of_ble_eq_true rfl) ?_
  refine aw_ald j51_2 rfl (cv_isR _ _ _) ?_
  refine aw_get j51_3 (hS.kd l_1) (hS.r 7 rfl l_1) ?_
  refine aw_ast j51_6 (cv_isR _ _ _) (Nat.le_of_ble_eq_true rfl) ?_
  refine aw_con j51_7 ?_
  refine aw_ist j51_8 (Nat.le_of_ble_eq_true rfl) ?_
  exact k_2 _ hS
theorem bc51_10 {r0 : Option Nat} {r1 : Option Nat} {r2 : Option Nat} {r3 : Option Nat} {x4 : Int32}  (k_1 : ((120 : Int32) ≤ x4) → cA ext X d 51 42 [some (cv X 8 r0), some (cv X 8 r1), some (cv X 8 r2), some (cv X 8 r3), some (.int x4)] [] T Q) (k_2 : (¬ ((120 : Int32) ≤ x4)) → cA ext X d 51 17 [some (cv X 8 r0), some (cv X 8 r1), some (cv X 8 r2), some (cv X 8 r3), some (.int x4)] [] T Q) : cA ext X d 51 10 [some (cv X 8 r0), some (cv X 8 r1), some (cv X 8 r2), some (cv X 8 r3), some (.int x4)] [] T Q := by
  intro S hS
  refine aw_ild j51_10 rfl ?_
  refine aw_con j51_12 ?_
  exact aw_ic j51_14 (fun h => k_1 (of_decide_eq_true h) _ hS) (fun h => k_2 (of_decide_eq_false h) _ hS)
theorem bc51_17 {r0 : Option Nat} {r1 : Option Nat} {r2 : Option Nat} {r3 : Option Nat} {x4 : Int32}  (k_2 : r3 = none → cA ext X d 51 42 [some (cv X 8 r0), some (cv X 8 r1), some (cv X 8 r2), some (cv X 8 r3), some (.int x4)] [] T Q) (k_3 : ∀ c_1, r3 = some c_1 → cA ext X d 51 21 [some (cv X 8 r0), some (cv X 8 r1), some (cv X 8 r2), some (cv X 8 r3), some (.int x4)] [] T Q) : cA ext X d 51 17 [some (cv X 8 r0), some (cv X 8 r1), some (cv X 8 r2), some (cv X 8 r3), some (.int x4)] [] T Q := by
  intro S hS
  refine aw_ald j51_17 rfl (cv_isR _ _ _) ?_
  exact aw_null (r := (r3).map (X.1 8)) j51_18 (fun h => k_2 (cv_none h) _ hS) (fun c h => by obtain ⟨c, hc⟩ := cv_some h; exact k_3 c hc _ hS)
theorem bc51_21 {r0 : Option Nat} {r1 : Option Nat} {r2 : Option Nat} {a3 : Nat} {x4 : Int32} {P_2 : Int32 → cT → Prop} (l_1 : X.2.1 8 a3) (m_5 : cCi ext X d 52 [cv X 8 (some a3), cv X 8 r1] T P_2) (k_6 : ∀ v_4 T_3, P_2 v_4 T_3 → cA ext X (d + 1) 51 26 [some (cv X 8 r0), some (cv X 8 r1), some (cv X 8 r2), some (cv X 8 (some a3)), some (.int x4)] [.int v_4] T_3 Q) : cA ext X (d + 1) 51 21 [some (cv X 8 r0), some (cv X 8 r1), some (cv X 8 r2), some (cv X 8 (some a3)), some (.int x4)] [] T Q := by
  intro S hS
  refine aw_ald j51_21 rfl (cv_isR _ _ _) ?_
  refine aw_ald j51_22 rfl (cv_isR _ _ _) ?_
  refine aw_calli (as := [cv X 8 (some a3), cv X 8 r1]) j51_23 rfl rfl (Nat.le_of_ble_eq_true rfl) cy52.1 cy52.2 (cs_cons rfl (cs_cons (cv_cat _ _ _) cs_nil)) (decide_eq_true (hS.kd l_1)) (m_5 _ hS) (fun v1 S1 h1 => ?_)
  obtain ⟨W1, h1, h2⟩ := h1
  exact k_6 v1 W1 h2 S1 h1
theorem bc51_26 {r0 : Option Nat} {r1 : Option Nat} {r2 : Option Nat} {r3 : Option Nat} {x4 : Int32} {xk0 : Int32}  (k_1 : (xk0 = 0) → cA ext X d 51 42 [some (cv X 8 r0), some (cv X 8 r1), some (cv X 8 r2), some (cv X 8 r3), some (.int x4)] [] T Q) (k_2 : (¬ (xk0 = 0)) → cA ext X d 51 29 [some (cv X 8 r0), some (cv X 8 r1), some (cv X 8 r2), some (cv X 8 r3), some (.int x4)] [] T Q) : cA ext X d 51 26 [some (cv X 8 r0), some (cv X 8 r1), some (cv X 8 r2), some (cv X 8 r3), some (.int x4)] [.int xk0] T Q := by
  intro S hS
  exact aw_if j51_26 (fun h => k_1 (of_decide_eq_true h) _ hS) (fun h => k_2 (of_decide_eq_false h) _ hS)
theorem bc51_29 {r0 : Option Nat} {r1 : Option Nat} {r2 : Option Nat} {a3 : Nat} {x4 : Int32} (l_1 : X.2.1 8 a3) (k_2 : cA ext X d 51 10 [some (cv X 8 r0), some (cv X 8 r1), some (cv X 8 (some a3)), some (cv X 8 (T.2 8 a3 8)), some (.int (x4 + 1))] [] T Q) : cA ext X d 51 29 [some (cv X 8 r0), some (cv X 8 r1), some (cv X 8 r2), some (cv X 8 (some a3)), some (.int x4)] [] T Q := by
  intro S hS
  refine aw_ald j51_29 rfl (cv_isR _ _ _) ?_
  refine aw_ast j51_30 (cv_isR _ _ _) (Nat.le_of_ble_eq_true rfl) ?_
  refine aw_ald j51_31 rfl (cv_isR _ _ _) ?_
  refine aw_get j51_32 (hS.kd l_1) (hS.r 8 rfl l_1) ?_
  refine aw_ast j51_35 (cv_isR _ _ _) (Nat.le_of_ble_eq_true rfl) ?_
  refine aw_inc j51_36 rfl ?_
  exact aw_goto j51_39 (k_2 _ hS)
theorem bc51_42 {r0 : Option Nat} {a1 : Nat} {r2 : Option Nat} {r3 : Option Nat} {x4 : Int32} (l_1 : X.2.1 8 a1) (l_2 : ∀ j, r0 = some j → X.2.1 8 j) (l_3 : ∀ j, r3 = some j → X.2.1 8 j) (k_5 : r2 = none → cA ext X d 51 56 [some (cv X 8 r0), some (cv X 8 (some a1)), some (cv X 8 r2), some (cv X 8 r3), some (.int x4)] [] (oset (oset T 8 a1 6 r0) 8 a1 8 r3) Q) (k_6 : ∀ c_4, r2 = some c_4 → cA ext X d 51 64 [some (cv X 8 r0), some (cv X 8 (some a1)), some (cv X 8 r2), some (cv X 8 r3), some (.int x4)] [] (oset (oset T 8 a1 6 r0) 8 a1 8 r3) Q) : cA ext X d 51 42 [some (cv X 8 r0), some (cv X 8 (some a1)), some (cv X 8 r2), some (cv X 8 r3), some (.int x4)] [] T Q := by
  intro S hS
  refine aw_ald j51_42 rfl (cv_isR _ _ _) ?_
  refine aw_ald j51_43 rfl (cv_isR _ _ _) ?_
  refine aw_put j51_44 (hS.kd l_1) (cv_fo _ X 8 r0) ?_
  have hS := hS.setr (s := 8) 6 r0 rfl rfl l_1 l_2
  refine aw_ald j51_47 rfl (cv_isR _ _ _) ?_
  refine aw_ald j51_48 rfl (cv_isR _ _ _) ?_
  refine aw_put j51_49 (hS.kd l_1) (cv_fo _ X 8 r3) ?_
  have hS := hS.setr (s := 8) 8 r3 rfl rfl l_1 l_3
  refine aw_ald j51_52 rfl (cv_isR _ _ _) ?_
  exact aw_nonn (r := (r2).map (X.1 8)) j51_53 (fun h => k_5 (cv_none h) _ hS) (fun c h => by obtain ⟨c, hc⟩ := cv_some h; exact k_6 c hc _ hS)
theorem bc51_56 {a0 : Nat} {r1 : Option Nat} {r2 : Option Nat} {r3 : Option Nat} {x4 : Int32} (l_1 : X.2.1 8 a0) (l_2 : ∀ j, r1 = some j → X.2.1 8 j) (k_3 : cA ext X d 51 69 [some (cv X 8 (some a0)), some (cv X 8 r1), some (cv X 8 r2), some (cv X 8 r3), some (.int x4)] [] (oset T 8 a0 7 r1) Q) : cA ext X d 51 56 [some (cv X 8 (some a0)), some (cv X 8 r1), some (cv X 8 r2), some (cv X 8 r3), some (.int x4)] [] T Q := by
  intro S hS
  refine aw_ald j51_56 rfl (cv_isR _ _ _) ?_
  refine aw_ald j51_57 rfl (cv_isR _ _ _) ?_
  refine aw_put j51_58 (hS.kd l_1) (cv_fo _ X 8 r1) ?_
  have hS := hS.setr (s := 8) 7 r1 rfl rfl l_1 l_2
  exact aw_goto j51_61 (k_3 _ hS)
theorem bc51_64 {r0 : Option Nat} {r1 : Option Nat} {a2 : Nat} {r3 : Option Nat} {x4 : Int32} (l_1 : X.2.1 8 a2) (l_2 : ∀ j, r1 = some j → X.2.1 8 j) (k_3 : cA ext X d 51 69 [some (cv X 8 r0), some (cv X 8 r1), some (cv X 8 (some a2)), some (cv X 8 r3), some (.int x4)] [] (oset T 8 a2 8 r1) Q) : cA ext X d 51 64 [some (cv X 8 r0), some (cv X 8 r1), some (cv X 8 (some a2)), some (cv X 8 r3), some (.int x4)] [] T Q := by
  intro S hS
  refine aw_ald j51_64 rfl (cv_isR _ _ _) ?_
  refine aw_ald j51_65 rfl (cv_isR _ _ _) ?_
  refine aw_put j51_66 (hS.kd l_1) (cv_fo _ X 8 r1) ?_
  have hS := hS.setr (s := 8) 8 r1 rfl rfl l_1 l_2
  exact k_3 _ hS
theorem bc51_69 {r0 : Option Nat} {r1 : Option Nat} {r2 : Option Nat} {r3 : Option Nat} {x4 : Int32}  (k_1 : ∀ S, cr X T S → Q none S) : cA ext X d 51 69 [some (cv X 8 r0), some (cv X 8 r1), some (cv X 8 r2), some (cv X 8 r3), some (.int x4)] [] T Q := by
  intro S hS
  exact aw_vret j51_69 rt51 (k_1 _ hS)
/-! Div_comesBefore -/
theorem bc52_0 {a0 : Nat} {a1 : Nat} (l_1 : X.2.1 8 a0) (l_2 : X.2.1 8 a1) (k_3 : ((T.1 8 a0 2) = (T.1 8 a1 2)) → cA ext X d 52 30 [some (cv X 8 (some a0)), some (cv X 8 (some a1))] [] T Q) (k_4 : (¬ ((T.1 8 a0 2) = (T.1 8 a1 2))) → cA ext X d 52 11 [some (cv X 8 (some a0)), some (cv X 8 (some a1))] [] T Q) : cA ext X d 52 0 [some (cv X 8 (some a0)), some (cv X 8 (some a1))] [] T Q := by
  intro S hS
  refine aw_ald j52_0 rfl (cv_isR _ _ _) ?_
  refine aw_get j52_1 (hS.kd l_1) (hS.i 2 rfl rfl l_1) ?_
  refine aw_ald j52_4 rfl (cv_isR _ _ _) ?_
  refine aw_get j52_5 (hS.kd l_2) (hS.i 2 rfl rfl l_2) ?_
  exact aw_ic j52_8 (fun h => k_3 (of_decide_eq_true h) _ hS) (fun h => k_4 (of_decide_eq_false h) _ hS)
theorem bc52_11 {a0 : Nat} {a1 : Nat} (l_1 : X.2.1 8 a0) (l_2 : X.2.1 8 a1) (k_3 : ((T.1 8 a1 2) ≤ (T.1 8 a0 2)) → cA ext X d 52 26 [some (cv X 8 (some a0)), some (cv X 8 (some a1))] [] T Q) (k_4 : (¬ ((T.1 8 a1 2) ≤ (T.1 8 a0 2))) → cA ext X d 52 22 [some (cv X 8 (some a0)), some (cv X 8 (some a1))] [] T Q) : cA ext X d 52 11 [some (cv X 8 (some a0)), some (cv X 8 (some a1))] [] T Q := by
  intro S hS
  refine aw_ald j52_11 rfl (cv_isR _ _ _) ?_
  refine aw_get j52_12 (hS.kd l_1) (hS.i 2 rfl rfl l_1) ?_
  refine aw_ald j52_15 rfl (cv_isR _ _ _) ?_
  refine aw_get j52_16 (hS.kd l_2) (hS.i 2 rfl rfl l_2) ?_
  exact aw_ic j52_19 (fun h => k_3 (of_decide_eq_true h) _ hS) (fun h => k_4 (of_decide_eq_false h) _ hS)
theorem bc52_22 {r0 : Option Nat} {r1 : Option Nat}  (k_1 : cA ext X d 52 46 [some (cv X 8 r0), some (cv X 8 r1)] [.int (1 : Int32)] T Q) : cA ext X d 52 22 [some (cv X 8 r0), some (cv X 8 r1)] [] T Q := by
  intro S hS
  refine aw_con j52_22 ?_
  exact aw_goto j52_23 (k_1 _ hS)
theorem bc52_26 {r0 : Option Nat} {r1 : Option Nat}  (k_1 : cA ext X d 52 46 [some (cv X 8 r0), some (cv X 8 r1)] [.int (0 : Int32)] T Q) : cA ext X d 52 26 [some (cv X 8 r0), some (cv X 8 r1)] [] T Q := by
  intro S hS
  refine aw_con j52_26 ?_
  exact aw_goto j52_27 (k_1 _ hS)
theorem bc52_30 {a0 : Nat} {a1 : Nat} (l_1 : X.2.1 8 a0) (l_2 : X.2.1 8 a1) (k_3 : ((T.1 8 a1 0) ≤ (T.1 8 a0 0)) → cA ext X d 52 45 [some (cv X 8 (some a0)), some (cv X 8 (some a1))] [] T Q) (k_4 : (¬ ((T.1 8 a1 0) ≤ (T.1 8 a0 0))) → cA ext X d 52 41 [some (cv X 8 (some a0)), some (cv X 8 (some a1))] [] T Q) : cA ext X d 52 30 [some (cv X 8 (some a0)), some (cv X 8 (some a1))] [] T Q := by
  intro S hS
  refine aw_ald j52_30 rfl (cv_isR _ _ _) ?_
  refine aw_get j52_31 (hS.kd l_1) (hS.i 0 rfl rfl l_1) ?_
  refine aw_ald j52_34 rfl (cv_isR _ _ _) ?_
  refine aw_get j52_35 (hS.kd l_2) (hS.i 0 rfl rfl l_2) ?_
  exact aw_ic j52_38 (fun h => k_3 (of_decide_eq_true h) _ hS) (fun h => k_4 (of_decide_eq_false h) _ hS)
theorem bc52_41 {r0 : Option Nat} {r1 : Option Nat}  (k_1 : cA ext X d 52 46 [some (cv X 8 r0), some (cv X 8 r1)] [.int (1 : Int32)] T Q) : cA ext X d 52 41 [some (cv X 8 r0), some (cv X 8 r1)] [] T Q := by
  intro S hS
  refine aw_con j52_41 ?_
  exact aw_goto j52_42 (k_1 _ hS)
theorem bc52_45 {r0 : Option Nat} {r1 : Option Nat}  (k_1 : cA ext X d 52 46 [some (cv X 8 r0), some (cv X 8 r1)] [.int (0 : Int32)] T Q) : cA ext X d 52 45 [some (cv X 8 r0), some (cv X 8 r1)] [] T Q := by
  intro S hS
  refine aw_con j52_45 ?_
  exact k_1 _ hS
theorem bc52_46 {r0 : Option Nat} {r1 : Option Nat} {xk0 : Int32} (o_2 : xk0 = 0 ∨ xk0 = 1) (k_1 : ∀ S, cr X T S → Q (some (.int xk0)) S) : cA ext X d 52 46 [some (cv X 8 r0), some (cv X 8 r1)] [.int xk0] T Q := by
  intro S hS
  exact aw_ret j52_46 (by rw [rt52]; exact (decide_eq_true o_2)) (k_1 _ hS)
/-! Div_isEmpty -/
theorem bc53_0 {a0 : Nat} (l_1 : X.2.1 8 a0) (k_2 : (¬ (T.1 8 a0 5) = 0) → cA ext X d 53 25 [some (cv X 8 (some a0))] [] T Q) (k_3 : ((T.1 8 a0 5) = 0) → cA ext X d 53 7 [some (cv X 8 (some a0))] [] T Q) : cA ext X d 53 0 [some (cv X 8 (some a0))] [] T Q := by
  intro S hS
  refine aw_ald j53_0 rfl (cv_isR _ _ _) ?_
  refine aw_get j53_1 (hS.kd l_1) (hS.i 5 rfl rfl l_1) ?_
  exact aw_if j53_4 (fun h => k_2 (of_decide_eq_true h) _ hS) (fun h => k_3 (Decidable.of_not_not (of_decide_eq_false h)) _ hS)
theorem bc53_7 {a0 : Nat} (l_1 : X.2.1 8 a0) (k_3 : (T.2 8 a0 7) = none → cA ext X d 53 14 [some (cv X 8 (some a0))] [] T Q) (k_4 : ∀ c_2, (T.2 8 a0 7) = some c_2 → cA ext X d 53 25 [some (cv X 8 (some a0))] [] T Q) : cA ext X d 53 7 [some (cv X 8 (some a0))] [] T Q := by
  intro S hS
  refine aw_ald j53_7 rfl (cv_isR _ _ _) ?_
  refine aw_get j53_8 (hS.kd l_1) (hS.r 7 rfl l_1) ?_
  exact aw_nonn (r := ((T.2 8 a0 7)).map (X.1 8)) j53_11 (fun h => k_3 (cv_none h) _ hS) (fun c h => by obtain ⟨c, hc⟩ := cv_some h; exact k_4 c hc _ hS)
theorem bc53_14 {a0 : Nat} (l_1 : X.2.1 8 a0) (k_3 : (T.2 8 a0 9) = none → cA ext X d 53 21 [some (cv X 8 (some a0))] [] T Q) (k_4 : ∀ c_2, (T.2 8 a0 9) = some c_2 → cA ext X d 53 25 [some (cv X 8 (some a0))] [] T Q) : cA ext X d 53 14 [some (cv X 8 (some a0))] [] T Q := by
  intro S hS
  refine aw_ald j53_14 rfl (cv_isR _ _ _) ?_
  refine aw_get j53_15 (hS.kd l_1) (hS.r 9 rfl l_1) ?_
  exact aw_nonn (r := ((T.2 8 a0 9)).map (X.1 8)) j53_18 (fun h => k_3 (cv_none h) _ hS) (fun c h => by obtain ⟨c, hc⟩ := cv_some h; exact k_4 c hc _ hS)
theorem bc53_21 {r0 : Option Nat}  (k_1 : cA ext X d 53 26 [some (cv X 8 r0)] [.int (1 : Int32)] T Q) : cA ext X d 53 21 [some (cv X 8 r0)] [] T Q := by
  intro S hS
  refine aw_con j53_21 ?_
  exact aw_goto j53_22 (k_1 _ hS)
theorem bc53_25 {r0 : Option Nat}  (k_1 : cA ext X d 53 26 [some (cv X 8 r0)] [.int (0 : Int32)] T Q) : cA ext X d 53 25 [some (cv X 8 r0)] [] T Q := by
  intro S hS
  refine aw_con j53_25 ?_
  exact k_1 _ hS
theorem bc53_26 {r0 : Option Nat} {xk0 : Int32} (o_2 : xk0 = 0 ∨ xk0 = 1) (k_1 : ∀ S, cr X T S → Q (some (.int xk0)) S) : cA ext X d 53 26 [some (cv X 8 r0)] [.int xk0] T Q := by
  intro S hS
  exact aw_ret j53_26 (by rw [rt53]; exact (decide_eq_true o_2)) (k_1 _ hS)
/-! Div_drop -/
theorem bc54_0 {a0 : Nat} {r1 : Option Nat} {o2 : Option Value} {o3 : Option Value} {o4 : Option Value} (l_1 : X.2.1 8 a0) (k_2 : cA ext X d 54 10 [some (cv X 8 (some a0)), some (cv X 8 r1), some (cv X 8 none), some (cv X 8 (T.2 8 a0 7)), some (.int (0 : Int32))] [] T Q) : cA ext X d 54 0 [some (cv X 8 (some a0)), some (cv X 8 r1), o2, o3, o4] [] T Q := by
  intro S hS
  refine aw_nul j54_0 ?_
  refine aw_ast j54_1 rfl (Nat.le_of_ble_eq_true rfl) ?_
  refine aw_ald j54_2 rfl (cv_isR _ _ _) ?_
  refine aw_get j54_3 (hS.kd l_1) (hS.r 7 rfl l_1) ?_
  refine aw_ast j54_6 (cv_isR _ _ _) (Nat.le_of_ble_eq_true rfl) ?_
  refine aw_con j54_7 ?_
  refine aw_ist j54_8 (Nat.le_of_ble_eq_true rfl) ?_
  exact k_2 _ hS
theorem bc54_10 {r0 : Option Nat} {r1 : Option Nat} {r2 : Option Nat} {r3 : Option Nat} {x4 : Int32}  (k_1 : ((120 : Int32) ≤ x4) → cA ext X d 54 39 [some (cv X 8 r0), some (cv X 8 r1), some (cv X 8 r2), some (cv X 8 r3), some (.int x4)] [] T Q) (k_2 : (¬ ((120 : Int32) ≤ x4)) → cA ext X d 54 17 [some (cv X 8 r0), some (cv X 8 r1), some (cv X 8 r2), some (cv X 8 r3), some (.int x4)] [] T Q) : cA ext X d 54 10 [some (cv X 8 r0), some (cv X 8 r1), some (cv X 8 r2), some (cv X 8 r3), some (.int x4)] [] T Q := by
  intro S hS
  refine aw_ild j54_10 rfl ?_
  refine aw_con j54_12 ?_
  exact aw_ic j54_14 (fun h => k_1 (of_decide_eq_true h) _ hS) (fun h => k_2 (of_decide_eq_false h) _ hS)
theorem bc54_17 {r0 : Option Nat} {r1 : Option Nat} {r2 : Option Nat} {r3 : Option Nat} {x4 : Int32}  (k_2 : r3 = none → cA ext X d 54 39 [some (cv X 8 r0), some (cv X 8 r1), some (cv X 8 r2), some (cv X 8 r3), some (.int x4)] [] T Q) (k_3 : ∀ c_1, r3 = some c_1 → cA ext X d 54 21 [some (cv X 8 r0), some (cv X 8 r1), some (cv X 8 r2), some (cv X 8 r3), some (.int x4)] [] T Q) : cA ext X d 54 17 [some (cv X 8 r0), some (cv X 8 r1), some (cv X 8 r2), some (cv X 8 r3), some (.int x4)] [] T Q := by
  intro S hS
  refine aw_ald j54_17 rfl (cv_isR _ _ _) ?_
  exact aw_null (r := (r3).map (X.1 8)) j54_18 (fun h => k_2 (cv_none h) _ hS) (fun c h => by obtain ⟨c, hc⟩ := cv_some h; exact k_3 c hc _ hS)
theorem bc54_21 {r0 : Option Nat} {r1 : Option Nat} {r2 : Option Nat} {r3 : Option Nat} {x4 : Int32} (l_1 : ∀ j, r3 = some j → X.2.1 8 j) (l_2 : ∀ j, r1 = some j → X.2.1 8 j) (k_3 : r3 = r1 → cA ext X d 54 39 [some (cv X 8 r0), some (cv X 8 r1), some (cv X 8 r2), some (cv X 8 r3), some (.int x4)] [] T Q) (k_4 : ¬ r3 = r1 → cA ext X d 54 26 [some (cv X 8 r0), some (cv X 8 r1), some (cv X 8 r2), some (cv X 8 r3), some (.int x4)] [] T Q) : cA ext X d 54 21 [some (cv X 8 r0), some (cv X 8 r1), some (cv X 8 r2), some (cv X 8 r3), some (.int x4)] [] T Q := by
  intro S hS
  refine aw_ald j54_21 rfl (cv_isR _ _ _) ?_
  refine aw_ald j54_22 rfl (cv_isR _ _ _) ?_
  have hij := hS.inj l_1 l_2
  exact aw_ac (r1 := (r3).map (X.1 8)) (r2 := (r1).map (X.1 8)) j54_23 (fun h => k_3 (hij.mp (h.mpr rfl)) _ hS) (fun h => k_4 (fun z => h (propext ⟨fun _ => rfl, fun _ => hij.mpr z⟩)) _ hS)
theorem bc54_26 {r0 : Option Nat} {r1 : Option Nat} {r2 : Option Nat} {a3 : Nat} {x4 : Int32} (l_1 : X.2.1 8 a3) (k_2 : cA ext X d 54 10 [some (cv X 8 r0), some (cv X 8 r1), some (cv X 8 (some a3)), some (cv X 8 (T.2 8 a3 8)), some (.int (x4 + 1))] [] T Q) : cA ext X d 54 26 [some (cv X 8 r0), some (cv X 8 r1), some (cv X 8 r2), some (cv X 8 (some a3)), some (.int x4)] [] T Q := by
  intro S hS
  refine aw_ald j54_26 rfl (cv_isR _ _ _) ?_
  refine aw_ast j54_27 (cv_isR _ _ _) (Nat.le_of_ble_eq_true rfl) ?_
  refine aw_ald j54_28 rfl (cv_isR _ _ _) ?_
  refine aw_get j54_29 (hS.kd l_1) (hS.r 8 rfl l_1) ?_
  refine aw_ast j54_32 (cv_isR _ _ _) (Nat.le_of_ble_eq_true rfl) ?_
  refine aw_inc j54_33 rfl ?_
  exact aw_goto j54_36 (k_2 _ hS)
theorem bc54_39 {r0 : Option Nat} {r1 : Option Nat} {r2 : Option Nat} {r3 : Option Nat} {x4 : Int32}  (k_2 : r2 = none → cA ext X d 54 43 [some (cv X 8 r0), some (cv X 8 r1), some (cv X 8 r2), some (cv X 8 r3), some (.int x4)] [] T Q) (k_3 : ∀ c_1, r2 = some c_1 → cA ext X d 54 54 [some (cv X 8 r0), some (cv X 8 r1), some (cv X 8 r2), some (cv X 8 r3), some (.int x4)] [] T Q) : cA ext X d 54 39 [some (cv X 8 r0), some (cv X 8 r1), some (cv X 8 r2), some (cv X 8 r3), some (.int x4)] [] T Q := by
  intro S hS
  refine aw_ald j54_39 rfl (cv_isR _ _ _) ?_
  exact aw_nonn (r := (r2).map (X.1 8)) j54_40 (fun h => k_2 (cv_none h) _ hS) (fun c h => by obtain ⟨c, hc⟩ := cv_some h; exact k_3 c hc _ hS)
theorem bc54_43 {a0 : Nat} {a1 : Nat} {r2 : Option Nat} {r3 : Option Nat} {x4 : Int32} (l_1 : X.2.1 8 a0) (l_2 : X.2.1 8 a1) (k_3 : cA ext X d 54 62 [some (cv X 8 (some a0)), some (cv X 8 (some a1)), some (cv X 8 r2), some (cv X 8 r3), some (.int x4)] [] (oset T 8 a0 7 (T.2 8 a1 8)) Q) : cA ext X d 54 43 [some (cv X 8 (some a0)), some (cv X 8 (some a1)), some (cv X 8 r2), some (cv X 8 r3), some (.int x4)] [] T Q := by
  intro S hS
  refine aw_ald j54_43 rfl (cv_isR _ _ _) ?_
  refine aw_ald j54_44 rfl (cv_isR _ _ _) ?_
  refine aw_get j54_45 (hS.kd l_2) (hS.r 8 rfl l_2) ?_
  refine aw_put j54_48 (hS.kd l_1) (cv_fo _ X 8 (T.2 8 a1 8)) ?_
  have hS := hS.setr (s := 8) 7 (T.2 8 a1 8) rfl rfl l_1 (hS.rl 8 rfl l_2)
  exact aw_goto j54_51 (k_3 _ hS)
theorem bc54_54 {r0 : Option Nat} {a1 : Nat} {a2 : Nat} {r3 : Option Nat} {x4 : Int32} (l_1 : X.2.1 8 a1) (l_2 : X.2.1 8 a2) (k_3 : cA ext X d 54 62 [some (cv X 8 r0), some (cv X 8 (some a1)), some (cv X 8 (some a2)), some (cv X 8 r3), some (.int x4)] [] (oset T 8 a2 8 (T.2 8 a1 8)) Q) : cA ext X d 54 54 [some (cv X 8 r0), some (cv X 8 (some a1)), some (cv X 8 (some a2)), some (cv X 8 r3), some (.int x4)] [] T Q := by
  intro S hS
  refine aw_ald j54_54 rfl (cv_isR _ _ _) ?_
  refine aw_ald j54_55 rfl (cv_isR _ _ _) ?_
  refine aw_get j54_56 (hS.kd l_1) (hS.r 8 rfl l_1) ?_
  refine aw_put j54_59 (hS.kd l_2) (cv_fo _ X 8 (T.2 8 a1 8)) ?_
  have hS := hS.setr (s := 8) 8 (T.2 8 a1 8) rfl rfl l_2 (hS.rl 8 rfl l_1)
  exact k_3 _ hS
theorem bc54_62 {r0 : Option Nat} {a1 : Nat} {r2 : Option Nat} {r3 : Option Nat} {x4 : Int32} (l_1 : X.2.1 8 a1) (k_2 : ∀ S, cr X (oset (oset T 8 a1 6 none) 8 a1 8 none) S → Q none S) : cA ext X d 54 62 [some (cv X 8 r0), some (cv X 8 (some a1)), some (cv X 8 r2), some (cv X 8 r3), some (.int x4)] [] T Q := by
  intro S hS
  refine aw_ald j54_62 rfl (cv_isR _ _ _) ?_
  refine aw_nul j54_63 ?_
  refine aw_put j54_64 (hS.kd l_1) (cv_fo _ X 8 none) ?_
  have hS := hS.setr (s := 8) 6 none rfl rfl l_1 (fun j hj => by cases hj)
  refine aw_ald j54_67 rfl (cv_isR _ _ _) ?_
  refine aw_nul j54_68 ?_
  refine aw_put j54_69 (hS.kd l_1) (cv_fo _ X 8 none) ?_
  have hS := hS.setr (s := 8) 8 none rfl rfl l_1 (fun j hj => by cases hj)
  exact aw_vret j54_72 rt54 (k_2 _ hS)
/-! Div_next -/
theorem bc55_0 {a0 : Nat} {r1 : Option Nat} {o2 : Option Value} {o3 : Option Value} (l_1 : X.2.1 8 a0) (k_3 : (T.2 8 a0 7) = none → cA ext X d 55 12 [some (cv X 8 (some a0)), some (cv X 8 r1), o2, o3] [] T Q) (k_4 : ∀ c_2, (T.2 8 a0 7) = some c_2 → cA ext X d 55 7 [some (cv X 8 (some a0)), some (cv X 8 r1), o2, o3] [] T Q) : cA ext X d 55 0 [some (cv X 8 (some a0)), some (cv X 8 r1), o2, o3] [] T Q := by
  intro S hS
  refine aw_ald j55_0 rfl (cv_isR _ _ _) ?_
  refine aw_get j55_1 (hS.kd l_1) (hS.r 7 rfl l_1) ?_
  exact aw_null (r := ((T.2 8 a0 7)).map (X.1 8)) j55_4 (fun h => k_3 (cv_none h) _ hS) (fun c h => by obtain ⟨c, hc⟩ := cv_some h; exact k_4 c hc _ hS)
theorem bc55_7 {a0 : Nat} {r1 : Option Nat} {o2 : Option Value} {o3 : Option Value} (l_1 : X.2.1 8 a0) (k_2 : ∀ S, cr X T S → Q (some (cv X 8 (T.2 8 a0 7))) S) : cA ext X d 55 7 [some (cv X 8 (some a0)), some (cv X 8 r1), o2, o3] [] T Q := by
  intro S hS
  refine aw_ald j55_7 rfl (cv_isR _ _ _) ?_
  refine aw_get j55_8 (hS.kd l_1) (hS.r 7 rfl l_1) ?_
  exact aw_ret j55_11 (by rw [rt55]; exact (cv_fo _ _ _ _)) (k_2 _ hS)
theorem bc55_12 {r0 : Option Nat} {r1 : Option Nat} {o2 : Option Value} {o3 : Option Value}  (k_1 : cA ext X d 55 16 [some (cv X 8 r0), some (cv X 8 r1), some (cv X 8 r0), some (.int (0 : Int32))] [] T Q) : cA ext X d 55 12 [some (cv X 8 r0), some (cv X 8 r1), o2, o3] [] T Q := by
  intro S hS
  refine aw_ald j55_12 rfl (cv_isR _ _ _) ?_
  refine aw_ast j55_13 (cv_isR _ _ _) (Nat.le_of_ble_eq_true rfl) ?_
  refine aw_con j55_14 ?_
  refine aw_ist j55_15 (Nat.le_of_ble_eq_true rfl) ?_
  exact k_1 _ hS
theorem bc55_16 {r0 : Option Nat} {r1 : Option Nat} {r2 : Option Nat} {x3 : Int32}  (k_1 : ((120 : Int32) < x3) → cA ext X d 55 54 [some (cv X 8 r0), some (cv X 8 r1), some (cv X 8 r2), some (.int x3)] [] T Q) (k_2 : (¬ ((120 : Int32) < x3)) → cA ext X d 55 22 [some (cv X 8 r0), some (cv X 8 r1), some (cv X 8 r2), some (.int x3)] [] T Q) : cA ext X d 55 16 [some (cv X 8 r0), some (cv X 8 r1), some (cv X 8 r2), some (.int x3)] [] T Q := by
  intro S hS
  refine aw_ild j55_16 rfl ?_
  refine aw_con j55_17 ?_
  exact aw_ic j55_19 (fun h => k_1 (of_decide_eq_true h) _ hS) (fun h => k_2 (of_decide_eq_false h) _ hS)
theorem bc55_22 {r0 : Option Nat} {r1 : Option Nat} {r2 : Option Nat} {x3 : Int32}  (k_2 : r2 = none → cA ext X d 55 54 [some (cv X 8 r0), some (cv X 8 r1), some (cv X 8 r2), some (.int x3)] [] T Q) (k_3 : ∀ c_1, r2 = some c_1 → cA ext X d 55 26 [some (cv X 8 r0), some (cv X 8 r1), some (cv X 8 r2), some (.int x3)] [] T Q) : cA ext X d 55 22 [some (cv X 8 r0), some (cv X 8 r1), some (cv X 8 r2), some (.int x3)] [] T Q := by
  intro S hS
  refine aw_ald j55_22 rfl (cv_isR _ _ _) ?_
  exact aw_null (r := (r2).map (X.1 8)) j55_23 (fun h => k_2 (cv_none h) _ hS) (fun c h => by obtain ⟨c, hc⟩ := cv_some h; exact k_3 c hc _ hS)
theorem bc55_26 {r0 : Option Nat} {r1 : Option Nat} {r2 : Option Nat} {x3 : Int32} (l_1 : ∀ j, r2 = some j → X.2.1 8 j) (l_2 : ∀ j, r1 = some j → X.2.1 8 j) (k_3 : r2 = r1 → cA ext X d 55 54 [some (cv X 8 r0), some (cv X 8 r1), some (cv X 8 r2), some (.int x3)] [] T Q) (k_4 : ¬ r2 = r1 → cA ext X d 55 31 [some (cv X 8 r0), some (cv X 8 r1), some (cv X 8 r2), some (.int x3)] [] T Q) : cA ext X d 55 26 [some (cv X 8 r0), some (cv X 8 r1), some (cv X 8 r2), some (.int x3)] [] T Q := by
  intro S hS
  refine aw_ald j55_26 rfl (cv_isR _ _ _) ?_
  refine aw_ald j55_27 rfl (cv_isR _ _ _) ?_
  have hij := hS.inj l_1 l_2
  exact aw_ac (r1 := (r2).map (X.1 8)) (r2 := (r1).map (X.1 8)) j55_28 (fun h => k_3 (hij.mp (h.mpr rfl)) _ hS) (fun h => k_4 (fun z => h (propext ⟨fun _ => rfl, fun _ => hij.mpr z⟩)) _ hS)
theorem bc55_31 {r0 : Option Nat} {r1 : Option Nat} {a2 : Nat} {x3 : Int32} (l_1 : X.2.1 8 a2) (k_3 : (T.2 8 a2 8) = none → cA ext X d 55 43 [some (cv X 8 r0), some (cv X 8 r1), some (cv X 8 (some a2)), some (.int x3)] [] T Q) (k_4 : ∀ c_2, (T.2 8 a2 8) = some c_2 → cA ext X d 55 38 [some (cv X 8 r0), some (cv X 8 r1), some (cv X 8 (some a2)), some (.int x3)] [] T Q) : cA ext X d 55 31 [some (cv X 8 r0), some (cv X 8 r1), some (cv X 8 (some a2)), some (.int x3)] [] T Q := by
  intro S hS
  refine aw_ald j55_31 rfl (cv_isR _ _ _) ?_
  refine aw_get j55_32 (hS.kd l_1) (hS.r 8 rfl l_1) ?_
  exact aw_null (r := ((T.2 8 a2 8)).map (X.1 8)) j55_35 (fun h => k_3 (cv_none h) _ hS) (fun c h => by obtain ⟨c, hc⟩ := cv_some h; exact k_4 c hc _ hS)
theorem bc55_38 {r0 : Option Nat} {r1 : Option Nat} {a2 : Nat} {x3 : Int32} (l_1 : X.2.1 8 a2) (k_2 : ∀ S, cr X T S → Q (some (cv X 8 (T.2 8 a2 8))) S) : cA ext X d 55 38 [some (cv X 8 r0), some (cv X 8 r1), some (cv X 8 (some a2)), some (.int x3)] [] T Q := by
  intro S hS
  refine aw_ald j55_38 rfl (cv_isR _ _ _) ?_
  refine aw_get j55_39 (hS.kd l_1) (hS.r 8 rfl l_1) ?_
  exact aw_ret j55_42 (by rw [rt55]; exact (cv_fo _ _ _ _)) (k_2 _ hS)
theorem bc55_43 {r0 : Option Nat} {r1 : Option Nat} {a2 : Nat} {x3 : Int32} (l_1 : X.2.1 8 a2) (k_2 : cA ext X d 55 16 [some (cv X 8 r0), some (cv X 8 r1), some (cv X 8 (T.2 8 a2 6)), some (.int (x3 + 1))] [] T Q) : cA ext X d 55 43 [some (cv X 8 r0), some (cv X 8 r1), some (cv X 8 (some a2)), some (.int x3)] [] T Q := by
  intro S hS
  refine aw_ald j55_43 rfl (cv_isR _ _ _) ?_
  refine aw_get j55_44 (hS.kd l_1) (hS.r 6 rfl l_1) ?_
  refine aw_ast j55_47 (cv_isR _ _ _) (Nat.le_of_ble_eq_true rfl) ?_
  refine aw_inc j55_48 rfl ?_
  exact aw_goto j55_51 (k_2 _ hS)
theorem bc55_54 {r0 : Option Nat} {r1 : Option Nat} {r2 : Option Nat} {x3 : Int32}  (k_1 : ∀ S, cr X T S → Q (some (cv X 8 none)) S) : cA ext X d 55 54 [some (cv X 8 r0), some (cv X 8 r1), some (cv X 8 r2), some (.int x3)] [] T Q := by
  intro S hS
  refine aw_nul j55_54 ?_
  exact aw_ret j55_55 (by rw [rt55]; exact rfl) (k_1 _ hS)
/-! Div_hasOrderOfLower -/
theorem bc56_0 {a0 : Nat} {o1 : Option Value} {o2 : Option Value} (l_1 : X.2.1 8 a0) (k_3 : (T.2 8 a0 6) = none → cA ext X d 56 7 [some (cv X 8 (some a0)), o1, o2] [] T Q) (k_4 : ∀ c_2, (T.2 8 a0 6) = some c_2 → cA ext X d 56 11 [some (cv X 8 (some a0)), o1, o2] [] T Q) : cA ext X d 56 0 [some (cv X 8 (some a0)), o1, o2] [] T Q := by
  intro S hS
  refine aw_ald j56_0 rfl (cv_isR _ _ _) ?_
  refine aw_get j56_1 (hS.kd l_1) (hS.r 6 rfl l_1) ?_
  exact aw_nonn (r := ((T.2 8 a0 6)).map (X.1 8)) j56_4 (fun h => k_3 (cv_none h) _ hS) (fun c h => by obtain ⟨c, hc⟩ := cv_some h; exact k_4 c hc _ hS)
theorem bc56_7 {r0 : Option Nat} {o1 : Option Value} {o2 : Option Value}  (k_1 : cA ext X d 56 18 [some (cv X 8 r0), o1, o2] [cv X 8 none] T Q) : cA ext X d 56 7 [some (cv X 8 r0), o1, o2] [] T Q := by
  intro S hS
  refine aw_nul j56_7 ?_
  exact aw_goto j56_8 (k_1 _ hS)
theorem bc56_11 {a0 : Nat} {o1 : Option Value} {o2 : Option Value} {b_2 : Nat} (l_1 : X.2.1 8 a0) (f_3 : T.2 8 a0 6 = some b_2) (k_4 : cA ext X d 56 18 [some (cv X 8 (some a0)), o1, o2] [cv X 8 (T.2 8 b_2 7)] T Q) : cA ext X d 56 11 [some (cv X 8 (some a0)), o1, o2] [] T Q := by
  intro S hS
  refine aw_ald j56_11 rfl (cv_isR _ _ _) ?_
  refine aw_get j56_12 (hS.kd l_1) (hS.rr 6 rfl l_1 f_3) ?_
  refine aw_get j56_15 (hS.kd (hS.rl 6 rfl l_1 _ f_3)) (hS.r 7 rfl (hS.rl 6 rfl l_1 _ f_3)) ?_
  exact k_4 _ hS
theorem bc56_18 {r0 : Option Nat} {o1 : Option Value} {o2 : Option Value} {rk0 : Option Nat}  (k_1 : cA ext X d 56 21 [some (cv X 8 r0), some (cv X 8 rk0), some (.int (0 : Int32))] [] T Q) : cA ext X d 56 18 [some (cv X 8 r0), o1, o2] [cv X 8 rk0] T Q := by
  intro S hS
  refine aw_ast j56_18 (cv_isR _ _ _) (Nat.le_of_ble_eq_true rfl) ?_
  refine aw_con j56_19 ?_
  refine aw_ist j56_20 (Nat.le_of_ble_eq_true rfl) ?_
  exact k_1 _ hS
theorem bc56_21 {r0 : Option Nat} {r1 : Option Nat} {x2 : Int32}  (k_1 : ((120 : Int32) ≤ x2) → cA ext X d 56 66 [some (cv X 8 r0), some (cv X 8 r1), some (.int x2)] [] T Q) (k_2 : (¬ ((120 : Int32) ≤ x2)) → cA ext X d 56 27 [some (cv X 8 r0), some (cv X 8 r1), some (.int x2)] [] T Q) : cA ext X d 56 21 [some (cv X 8 r0), some (cv X 8 r1), some (.int x2)] [] T Q := by
  intro S hS
  refine aw_ild j56_21 rfl ?_
  refine aw_con j56_22 ?_
  exact aw_ic j56_24 (fun h => k_1 (of_decide_eq_true h) _ hS) (fun h => k_2 (of_decide_eq_false h) _ hS)
theorem bc56_27 {r0 : Option Nat} {r1 : Option Nat} {x2 : Int32}  (k_2 : r1 = none → cA ext X d 56 66 [some (cv X 8 r0), some (cv X 8 r1), some (.int x2)] [] T Q) (k_3 : ∀ c_1, r1 = some c_1 → cA ext X d 56 31 [some (cv X 8 r0), some (cv X 8 r1), some (.int x2)] [] T Q) : cA ext X d 56 27 [some (cv X 8 r0), some (cv X 8 r1), some (.int x2)] [] T Q := by
  intro S hS
  refine aw_ald j56_27 rfl (cv_isR _ _ _) ?_
  exact aw_null (r := (r1).map (X.1 8)) j56_28 (fun h => k_2 (cv_none h) _ hS) (fun c h => by obtain ⟨c, hc⟩ := cv_some h; exact k_3 c hc _ hS)
theorem bc56_31 {a0 : Nat} {a1 : Nat} {x2 : Int32} (l_1 : X.2.1 8 a0) (l_2 : X.2.1 8 a1) (k_3 : (¬ (T.1 8 a1 2) = (T.1 8 a0 2)) → cA ext X d 56 55 [some (cv X 8 (some a0)), some (cv X 8 (some a1)), some (.int x2)] [] T Q) (k_4 : ((T.1 8 a1 2) = (T.1 8 a0 2)) → cA ext X d 56 42 [some (cv X 8 (some a0)), some (cv X 8 (some a1)), some (.int x2)] [] T Q) : cA ext X d 56 31 [some (cv X 8 (some a0)), some (cv X 8 (some a1)), some (.int x2)] [] T Q := by
  intro S hS
  refine aw_ald j56_31 rfl (cv_isR _ _ _) ?_
  refine aw_get j56_32 (hS.kd l_2) (hS.i 2 rfl rfl l_2) ?_
  refine aw_ald j56_35 rfl (cv_isR _ _ _) ?_
  refine aw_get j56_36 (hS.kd l_1) (hS.i 2 rfl rfl l_1) ?_
  exact aw_ic j56_39 (fun h => k_3 (of_decide_eq_true h) _ hS) (fun h => k_4 (Decidable.of_not_not (of_decide_eq_false h)) _ hS)
theorem bc56_42 {a0 : Nat} {a1 : Nat} {x2 : Int32} (l_1 : X.2.1 8 a0) (l_2 : X.2.1 8 a1) (k_3 : ((T.1 8 a0 0) ≤ (T.1 8 a1 0)) → cA ext X d 56 55 [some (cv X 8 (some a0)), some (cv X 8 (some a1)), some (.int x2)] [] T Q) (k_4 : (¬ ((T.1 8 a0 0) ≤ (T.1 8 a1 0))) → cA ext X d 56 53 [some (cv X 8 (some a0)), some (cv X 8 (some a1)), some (.int x2)] [] T Q) : cA ext X d 56 42 [some (cv X 8 (some a0)), some (cv X 8 (some a1)), some (.int x2)] [] T Q := by
  intro S hS
  refine aw_ald j56_42 rfl (cv_isR _ _ _) ?_
  refine aw_get j56_43 (hS.kd l_2) (hS.i 0 rfl rfl l_2) ?_
  refine aw_ald j56_46 rfl (cv_isR _ _ _) ?_
  refine aw_get j56_47 (hS.kd l_1) (hS.i 0 rfl rfl l_1) ?_
  exact aw_ic j56_50 (fun h => k_3 (of_decide_eq_true h) _ hS) (fun h => k_4 (of_decide_eq_false h) _ hS)
theorem bc56_53 {r0 : Option Nat} {r1 : Option Nat} {x2 : Int32}  (k_1 : ∀ S, cr X T S → Q (some (.int (1 : Int32))) S) : cA ext X d 56 53 [some (cv X 8 r0), some (cv X 8 r1), some (.int x2)] [] T Q := by
  intro S hS
  refine aw_con j56_53 ?_
  exact aw_ret j56_54 (by rw [rt56]; exact rfl) (k_1 _ hS)
theorem bc56_55 {r0 : Option Nat} {a1 : Nat} {x2 : Int32} (l_1 : X.2.1 8 a1) (k_2 : cA ext X d 56 21 [some (cv X 8 r0), some (cv X 8 (T.2 8 a1 8)), some (.int (x2 + 1))] [] T Q) : cA ext X d 56 55 [some (cv X 8 r0), some (cv X 8 (some a1)), some (.int x2)] [] T Q := by
  intro S hS
  refine aw_ald j56_55 rfl (cv_isR _ _ _) ?_
  refine aw_get j56_56 (hS.kd l_1) (hS.r 8 rfl l_1) ?_
  refine aw_ast j56_59 (cv_isR _ _ _) (Nat.le_of_ble_eq_true rfl) ?_
  refine aw_inc j56_60 rfl ?_
  exact aw_goto j56_63 (k_2 _ hS)
theorem bc56_66 {r0 : Option Nat} {r1 : Option Nat} {x2 : Int32}  (k_1 : ∀ S, cr X T S → Q (some (.int (0 : Int32))) S) : cA ext X d 56 66 [some (cv X 8 r0), some (cv X 8 r1), some (.int x2)] [] T Q := by
  intro S hS
  refine aw_con j56_66 ?_
  exact aw_ret j56_67 (by rw [rt56]; exact rfl) (k_1 _ hS)
/-! Div_linksBeyond -/
theorem bc57_0 {r0 : Option Nat} {o1 : Option Value} {o2 : Option Value}  (k_1 : cA ext X d 57 2 [some (cv X 8 r0), some (.int (0 : Int32)), o2] [] T Q) : cA ext X d 57 0 [some (cv X 8 r0), o1, o2] [] T Q := by
  intro S hS
  refine aw_con j57_0 ?_
  refine aw_ist j57_1 (Nat.le_of_ble_eq_true rfl) ?_
  exact k_1 _ hS
theorem bc57_2 {a0 : Nat} {x1 : Int32} {o2 : Option Value} (l_1 : X.2.1 8 a0) (k_2 : ((T.1 8 a0 5) ≤ x1) → cA ext X d 57 52 [some (cv X 8 (some a0)), some (.int x1), o2] [] T Q) (k_3 : (¬ ((T.1 8 a0 5) ≤ x1)) → cA ext X d 57 10 [some (cv X 8 (some a0)), some (.int x1), o2] [] T Q) : cA ext X d 57 2 [some (cv X 8 (some a0)), some (.int x1), o2] [] T Q := by
  intro S hS
  refine aw_ild j57_2 rfl ?_
  refine aw_ald j57_3 rfl (cv_isR _ _ _) ?_
  refine aw_get j57_4 (hS.kd l_1) (hS.i 5 rfl rfl l_1) ?_
  exact aw_ic j57_7 (fun h => k_2 (of_decide_eq_true h) _ hS) (fun h => k_3 (of_decide_eq_false h) _ hS)
theorem bc57_10 {a0 : Nat} {x1 : Int32} {o2 : Option Value} (l_1 : X.2.1 8 a0) (k_2 : ((nI 5) ≤ x1) → cA ext X d 57 52 [some (cv X 8 (some a0)), some (.int x1), o2] [] T Q) (k_3 : (¬ ((nI 5) ≤ x1)) → cA ext X d 57 19 [some (cv X 8 (some a0)), some (.int x1), o2] [] T Q) : cA ext X d 57 10 [some (cv X 8 (some a0)), some (.int x1), o2] [] T Q := by
  intro S hS
  refine aw_ild j57_10 rfl ?_
  refine aw_ald j57_11 rfl (cv_isR _ _ _) ?_
  refine aw_get j57_12 (hS.kd l_1) (hS.f 4 rfl l_1) ?_
  refine aw_len j57_15 (hS.kd (hS.fl (s := 8) 4 rfl l_1)) ?_
  exact aw_ic j57_16 (fun h => k_2 (of_decide_eq_true h) _ hS) (fun h => k_3 (of_decide_eq_false h) _ hS)
theorem bc57_19 {a0 : Nat} {x1 : Int32} {o2 : Option Value} {i_2 : Nat} (l_1 : X.2.1 8 a0) (e_3 : x1 = nI i_2) (c_4 : i_2 < 5) (k_6 : (T.2 34 a0 i_2) = none → cA ext X d 57 46 [some (cv X 8 (some a0)), some (.int x1), some (cv X 9 (T.2 34 a0 i_2))] [] T Q) (k_7 : ∀ c_5, (T.2 34 a0 i_2) = some c_5 → cA ext X d 57 30 [some (cv X 8 (some a0)), some (.int x1), some (cv X 9 (T.2 34 a0 i_2))] [] T Q) : cA ext X d 57 19 [some (cv X 8 (some a0)), some (.int x1), o2] [] T Q := by
  intro S hS
  refine aw_ald j57_19 rfl (cv_isR _ _ _) ?_
  refine aw_get j57_20 (hS.kd l_1) (hS.f 4 rfl l_1) ?_
  refine aw_ild j57_23 rfl ?_
  refine aw_xld (n := 5) j57_24 (hS.kd (hS.fl (s := 8) 4 rfl l_1)) e_3 c_4 (by decide) (hS.r i_2 rfl (hS.fl (s := 8) 4 rfl l_1)) ?_
  refine aw_ast j57_25 (cv_isR _ _ _) (Nat.le_of_ble_eq_true rfl) ?_
  refine aw_ald j57_26 rfl (cv_isR _ _ _) ?_
  exact aw_null (r := ((T.2 34 a0 i_2)).map (X.1 9)) j57_27 (fun h => k_6 (cv_none h) _ hS) (fun c h => by obtain ⟨c, hc⟩ := cv_some h; exact k_7 c hc _ hS)
theorem bc57_30 {r0 : Option Nat} {x1 : Int32} {a2 : Nat} {b_2 : Nat} (l_1 : X.2.1 9 a2) (f_3 : T.2 9 a2 1 = some b_2) (k_4 : ((T.1 9 a2 3) ≤ (T.1 6 b_2 1)) → cA ext X d 57 46 [some (cv X 8 r0), some (.int x1), some (cv X 9 (some a2))] [] T Q) (k_5 : (¬ ((T.1 9 a2 3) ≤ (T.1 6 b_2 1))) → cA ext X d 57 44 [some (cv X 8 r0), some (.int x1), some (cv X 9 (some a2))] [] T Q) : cA ext X d 57 30 [some (cv X 8 r0), some (.int x1), some (cv X 9 (some a2))] [] T Q := by
  intro S hS
  refine aw_ald j57_30 rfl (cv_isR _ _ _) ?_
  refine aw_get j57_31 (hS.kd l_1) (hS.i 3 rfl rfl l_1) ?_
  refine aw_ald j57_34 rfl (cv_isR _ _ _) ?_
  refine aw_get j57_35 (hS.kd l_1) (hS.rr 1 rfl l_1 f_3) ?_
  refine aw_get j57_38 (hS.kd (hS.rl 1 rfl l_1 _ f_3)) (hS.i 1 rfl rfl (hS.rl 1 rfl l_1 _ f_3)) ?_
  exact aw_ic j57_41 (fun h => k_4 (of_decide_eq_true h) _ hS) (fun h => k_5 (of_decide_eq_false h) _ hS)
theorem bc57_44 {r0 : Option Nat} {x1 : Int32} {r2 : Option Nat}  (k_1 : ∀ S, cr X T S → Q (some (.int (1 : Int32))) S) : cA ext X d 57 44 [some (cv X 8 r0), some (.int x1), some (cv X 9 r2)] [] T Q := by
  intro S hS
  refine aw_con j57_44 ?_
  exact aw_ret j57_45 (by rw [rt57]; exact rfl) (k_1 _ hS)
theorem bc57_46 {r0 : Option Nat} {x1 : Int32} {r2 : Option Nat}  (k_1 : cA ext X d 57 2 [some (cv X 8 r0), some (.int (x1 + 1)), some (cv X 9 r2)] [] T Q) : cA ext X d 57 46 [some (cv X 8 r0), some (.int x1), some (cv X 9 r2)] [] T Q := by
  intro S hS
  refine aw_inc j57_46 rfl ?_
  exact aw_goto j57_49 (k_1 _ hS)
theorem bc57_52 {r0 : Option Nat} {x1 : Int32} {o2 : Option Value}  (k_1 : ∀ S, cr X T S → Q (some (.int (0 : Int32))) S) : cA ext X d 57 52 [some (cv X 8 r0), some (.int x1), o2] [] T Q := by
  intro S hS
  refine aw_con j57_52 ?_
  exact aw_ret j57_53 (by rw [rt57]; exact rfl) (k_1 _ hS)
/-! Div_depth -/
theorem bc58_0 {a0 : Nat} {o1 : Option Value} {o2 : Option Value} {o3 : Option Value} (l_1 : X.2.1 8 a0) (k_2 : cA ext X d 58 9 [some (cv X 8 (some a0)), some (.int (0 : Int32)), some (cv X 8 (T.2 8 a0 6)), some (.int (0 : Int32))] [] T Q) : cA ext X d 58 0 [some (cv X 8 (some a0)), o1, o2, o3] [] T Q := by
  intro S hS
  refine aw_con j58_0 ?_
  refine aw_ist j58_1 (Nat.le_of_ble_eq_true rfl) ?_
  refine aw_ald j58_2 rfl (cv_isR _ _ _) ?_
  refine aw_get j58_3 (hS.kd l_1) (hS.r 6 rfl l_1) ?_
  refine aw_ast j58_6 (cv_isR _ _ _) (Nat.le_of_ble_eq_true rfl) ?_
  refine aw_con j58_7 ?_
  refine aw_ist j58_8 (Nat.le_of_ble_eq_true rfl) ?_
  exact k_2 _ hS
theorem bc58_9 {r0 : Option Nat} {x1 : Int32} {r2 : Option Nat} {x3 : Int32}  (k_1 : ((120 : Int32) ≤ x3) → cA ext X d 58 41 [some (cv X 8 r0), some (.int x1), some (cv X 8 r2), some (.int x3)] [] T Q) (k_2 : (¬ ((120 : Int32) ≤ x3)) → cA ext X d 58 15 [some (cv X 8 r0), some (.int x1), some (cv X 8 r2), some (.int x3)] [] T Q) : cA ext X d 58 9 [some (cv X 8 r0), some (.int x1), some (cv X 8 r2), some (.int x3)] [] T Q := by
  intro S hS
  refine aw_ild j58_9 rfl ?_
  refine aw_con j58_10 ?_
  exact aw_ic j58_12 (fun h => k_1 (of_decide_eq_true h) _ hS) (fun h => k_2 (of_decide_eq_false h) _ hS)
theorem bc58_15 {r0 : Option Nat} {x1 : Int32} {r2 : Option Nat} {x3 : Int32}  (k_2 : r2 = none → cA ext X d 58 41 [some (cv X 8 r0), some (.int x1), some (cv X 8 r2), some (.int x3)] [] T Q) (k_3 : ∀ c_1, r2 = some c_1 → cA ext X d 58 19 [some (cv X 8 r0), some (.int x1), some (cv X 8 r2), some (.int x3)] [] T Q) : cA ext X d 58 15 [some (cv X 8 r0), some (.int x1), some (cv X 8 r2), some (.int x3)] [] T Q := by
  intro S hS
  refine aw_ald j58_15 rfl (cv_isR _ _ _) ?_
  exact aw_null (r := (r2).map (X.1 8)) j58_16 (fun h => k_2 (cv_none h) _ hS) (fun c h => by obtain ⟨c, hc⟩ := cv_some h; exact k_3 c hc _ hS)
theorem bc58_19 {r0 : Option Nat} {x1 : Int32} {a2 : Nat} {x3 : Int32} (l_1 : X.2.1 8 a2) (k_2 : ((T.1 8 a2 0) = (-1 : Int32)) → cA ext X d 58 41 [some (cv X 8 r0), some (.int x1), some (cv X 8 (some a2)), some (.int x3)] [] T Q) (k_3 : (¬ ((T.1 8 a2 0) = (-1 : Int32))) → cA ext X d 58 27 [some (cv X 8 r0), some (.int x1), some (cv X 8 (some a2)), some (.int x3)] [] T Q) : cA ext X d 58 19 [some (cv X 8 r0), some (.int x1), some (cv X 8 (some a2)), some (.int x3)] [] T Q := by
  intro S hS
  refine aw_ald j58_19 rfl (cv_isR _ _ _) ?_
  refine aw_get j58_20 (hS.kd l_1) (hS.i 0 rfl rfl l_1) ?_
  refine aw_con j58_23 ?_
  exact aw_ic j58_24 (fun h => k_2 (of_decide_eq_true h) _ hS) (fun h => k_3 (of_decide_eq_false h) _ hS)
theorem bc58_27 {r0 : Option Nat} {x1 : Int32} {a2 : Nat} {x3 : Int32} (l_1 : X.2.1 8 a2) (k_2 : cA ext X d 58 9 [some (cv X 8 r0), some (.int (x1 + 1)), some (cv X 8 (T.2 8 a2 6)), some (.int (x3 + 1))] [] T Q) : cA ext X d 58 27 [some (cv X 8 r0), some (.int x1), some (cv X 8 (some a2)), some (.int x3)] [] T Q := by
  intro S hS
  refine aw_inc j58_27 rfl ?_
  refine aw_ald j58_30 rfl (cv_isR _ _ _) ?_
  refine aw_get j58_31 (hS.kd l_1) (hS.r 6 rfl l_1) ?_
  refine aw_ast j58_34 (cv_isR _ _ _) (Nat.le_of_ble_eq_true rfl) ?_
  refine aw_inc j58_35 rfl ?_
  exact aw_goto j58_38 (k_2 _ hS)
theorem bc58_41 {r0 : Option Nat} {x1 : Int32} {r2 : Option Nat} {x3 : Int32}  (k_1 : ∀ S, cr X T S → Q (some (.int x1)) S) : cA ext X d 58 41 [some (cv X 8 r0), some (.int x1), some (cv X 8 r2), some (.int x3)] [] T Q := by
  intro S hS
  refine aw_ild j58_41 rfl ?_
  exact aw_ret j58_42 (by rw [rt58]; exact rfl) (k_1 _ hS)
/-! Div_countUnder -/
theorem bc59_0 {a0 : Nat} {o1 : Option Value} {o2 : Option Value} {o3 : Option Value} {P_2 : Option Nat → cT → Prop} (l_1 : X.2.1 8 a0) (m_5 : cCr ext X 8 d 55 [cv X 8 (some a0), cv X 8 (some a0)] T P_2) (k_6 : ∀ v_4 T_3, P_2 v_4 T_3 → cA ext X (d + 1) 59 7 [some (cv X 8 (some a0)), some (.int (0 : Int32)), o2, o3] [cv X 8 v_4] T_3 Q) : cA ext X (d + 1) 59 0 [some (cv X 8 (some a0)), o1, o2, o3] [] T Q := by
  intro S hS
  refine aw_con j59_0 ?_
  refine aw_ist j59_1 (Nat.le_of_ble_eq_true rfl) ?_
  refine aw_ald j59_2 rfl (cv_isR _ _ _) ?_
  refine aw_ald j59_3 rfl (cv_isR _ _ _) ?_
  refine aw_callr (as := [cv X 8 (some a0), cv X 8 (some a0)]) j59_4 rfl rfl (Nat.le_of_ble_eq_true rfl) cy55.1 cy55.2 (cs_cons rfl (cs_cons rfl cs_nil)) (decide_eq_true (hS.kd l_1)) (m_5 _ hS) (fun v1 S1 h1 => ?_)
  obtain ⟨o1, W1, he, h1, h2⟩ := h1
  subst he
  exact k_6 o1 W1 h2 S1 h1
theorem bc59_7 {r0 : Option Nat} {x1 : Int32} {o2 : Option Value} {o3 : Option Value} {rk0 : Option Nat}  (k_1 : cA ext X d 59 10 [some (cv X 8 r0), some (.int x1), some (cv X 8 rk0), some (.int (0 : Int32))] [] T Q) : cA ext X d 59 7 [some (cv X 8 r0), some (.int x1), o2, o3] [cv X 8 rk0] T Q := by
  intro S hS
  refine aw_ast j59_7 (cv_isR _ _ _) (Nat.le_of_ble_eq_true rfl) ?_
  refine aw_con j59_8 ?_
  refine aw_ist j59_9 (Nat.le_of_ble_eq_true rfl) ?_
  exact k_1 _ hS
theorem bc59_10 {r0 : Option Nat} {x1 : Int32} {r2 : Option Nat} {x3 : Int32}  (k_1 : ((120 : Int32) ≤ x3) → cA ext X d 59 35 [some (cv X 8 r0), some (.int x1), some (cv X 8 r2), some (.int x3)] [] T Q) (k_2 : (¬ ((120 : Int32) ≤ x3)) → cA ext X d 59 16 [some (cv X 8 r0), some (.int x1), some (cv X 8 r2), some (.int x3)] [] T Q) : cA ext X d 59 10 [some (cv X 8 r0), some (.int x1), some (cv X 8 r2), some (.int x3)] [] T Q := by
  intro S hS
  refine aw_ild j59_10 rfl ?_
  refine aw_con j59_11 ?_
  exact aw_ic j59_13 (fun h => k_1 (of_decide_eq_true h) _ hS) (fun h => k_2 (of_decide_eq_false h) _ hS)
theorem bc59_16 {r0 : Option Nat} {x1 : Int32} {r2 : Option Nat} {x3 : Int32}  (k_2 : r2 = none → cA ext X d 59 35 [some (cv X 8 r0), some (.int x1), some (cv X 8 r2), some (.int x3)] [] T Q) (k_3 : ∀ c_1, r2 = some c_1 → cA ext X d 59 20 [some (cv X 8 r0), some (.int x1), some (cv X 8 r2), some (.int x3)] [] T Q) : cA ext X d 59 16 [some (cv X 8 r0), some (.int x1), some (cv X 8 r2), some (.int x3)] [] T Q := by
  intro S hS
  refine aw_ald j59_16 rfl (cv_isR _ _ _) ?_
  exact aw_null (r := (r2).map (X.1 8)) j59_17 (fun h => k_2 (cv_none h) _ hS) (fun c h => by obtain ⟨c, hc⟩ := cv_some h; exact k_3 c hc _ hS)
theorem bc59_20 {r0 : Option Nat} {x1 : Int32} {a2 : Nat} {x3 : Int32} {P_2 : Option Nat → cT → Prop} (l_1 : X.2.1 8 a2) (m_5 : cCr ext X 8 d 55 [cv X 8 (some a2), cv X 8 r0] T P_2) (k_6 : ∀ v_4 T_3, P_2 v_4 T_3 → cA ext X (d + 1) 59 28 [some (cv X 8 r0), some (.int (x1 + 1)), some (cv X 8 (some a2)), some (.int x3)] [cv X 8 v_4] T_3 Q) : cA ext X (d + 1) 59 20 [some (cv X 8 r0), some (.int x1), some (cv X 8 (some a2)), some (.int x3)] [] T Q := by
  intro S hS
  refine aw_inc j59_20 rfl ?_
  refine aw_ald j59_23 rfl (cv_isR _ _ _) ?_
  refine aw_ald j59_24 rfl (cv_isR _ _ _) ?_
  refine aw_callr (as := [cv X 8 (some a2), cv X 8 r0]) j59_25 rfl rfl (Nat.le_of_ble_eq_true rfl) cy55.1 cy55.2 (cs_cons rfl (cs_cons (cv_cat _ _ _) cs_nil)) (decide_eq_true (hS.kd l_1)) (m_5 _ hS) (fun v1 S1 h1 => ?_)
  obtain ⟨o1, W1, he, h1, h2⟩ := h1
  subst he
  exact k_6 o1 W1 h2 S1 h1
theorem bc59_28 {r0 : Option Nat} {x1 : Int32} {r2 : Option Nat} {x3 : Int32} {rk0 : Option Nat}  (k_1 : cA ext X d 59 10 [some (cv X 8 r0), some (.int x1), some (cv X 8 rk0), some (.int (x3 + 1))] [] T Q) : cA ext X d 59 28 [some (cv X 8 r0), some (.int x1), some (cv X 8 r2), some (.int x3)] [cv X 8 rk0] T Q := by
  intro S hS
  refine aw_ast j59_28 (cv_isR _ _ _) (Nat.le_of_ble_eq_true rfl) ?_
  refine aw_inc j59_29 rfl ?_
  exact aw_goto j59_32 (k_1 _ hS)
theorem bc59_35 {r0 : Option Nat} {x1 : Int32} {r2 : Option Nat} {x3 : Int32}  (k_1 : ∀ S, cr X T S → Q (some (.int x1)) S) : cA ext X d 59 35 [some (cv X 8 r0), some (.int x1), some (cv X 8 r2), some (.int x3)] [] T Q := by
  intro S hS
  refine aw_ild j59_35 rfl ?_
  exact aw_ret j59_36 (by rw [rt59]; exact rfl) (k_1 _ hS)
/-! Link_timesMet -/
theorem bc61_0 {a0 : Nat} {r1 : Option Nat} {o2 : Option Value} {b_2 : Nat} (l_1 : X.2.1 9 a0) (f_3 : T.2 9 a0 0 = some b_2) (k_4 : ((T.1 8 b_2 0) < 0) → cA ext X d 61 18 [some (cv X 9 (some a0)), some (cv X 27 r1), some (.int (T.1 8 b_2 0))] [] T Q) (k_5 : (¬ ((T.1 8 b_2 0) < 0)) → cA ext X d 61 12 [some (cv X 9 (some a0)), some (cv X 27 r1), some (.int (T.1 8 b_2 0))] [] T Q) : cA ext X d 61 0 [some (cv X 9 (some a0)), some (cv X 27 r1), o2] [] T Q := by
  intro S hS
  refine aw_ald j61_0 rfl (cv_isR _ _ _) ?_
  refine aw_get j61_1 (hS.kd l_1) (hS.rr 0 rfl l_1 f_3) ?_
  refine aw_get j61_4 (hS.kd (hS.rl 0 rfl l_1 _ f_3)) (hS.i 0 rfl rfl (hS.rl 0 rfl l_1 _ f_3)) ?_
  refine aw_ist j61_7 (Nat.le_of_ble_eq_true rfl) ?_
  refine aw_ild j61_8 rfl ?_
  exact aw_if j61_9 (fun h => k_4 (of_decide_eq_true h) _ hS) (fun h => k_5 (of_decide_eq_false h) _ hS)
theorem bc61_12 {r0 : Option Nat} {a1 : Nat} {x2 : Int32} (l_1 : X.2.1 27 a1) (k_2 : (x2 < (nI 120)) → cA ext X d 61 22 [some (cv X 9 r0), some (cv X 27 (some a1)), some (.int x2)] [] T Q) (k_3 : (¬ (x2 < (nI 120))) → cA ext X d 61 18 [some (cv X 9 r0), some (cv X 27 (some a1)), some (.int x2)] [] T Q) : cA ext X d 61 12 [some (cv X 9 r0), some (cv X 27 (some a1)), some (.int x2)] [] T Q := by
  intro S hS
  refine aw_ild j61_12 rfl ?_
  refine aw_ald j61_13 rfl (cv_isR _ _ _) ?_
  refine aw_len j61_14 (hS.kd l_1) ?_
  exact aw_ic j61_15 (fun h => k_2 (of_decide_eq_true h) _ hS) (fun h => k_3 (of_decide_eq_false h) _ hS)
theorem bc61_18 {r0 : Option Nat} {r1 : Option Nat} {x2 : Int32}  (k_1 : cA ext X d 61 25 [some (cv X 9 r0), some (cv X 27 r1), some (.int x2)] [.int (0 : Int32)] T Q) : cA ext X d 61 18 [some (cv X 9 r0), some (cv X 27 r1), some (.int x2)] [] T Q := by
  intro S hS
  refine aw_con j61_18 ?_
  exact aw_goto j61_19 (k_1 _ hS)
theorem bc61_22 {r0 : Option Nat} {a1 : Nat} {x2 : Int32} {i_2 : Nat} (l_1 : X.2.1 27 a1) (e_3 : x2 = nI i_2) (c_4 : i_2 < 120) (k_5 : cA ext X d 61 25 [some (cv X 9 r0), some (cv X 27 (some a1)), some (.int x2)] [.int (T.1 27 a1 i_2)] T Q) : cA ext X d 61 22 [some (cv X 9 r0), some (cv X 27 (some a1)), some (.int x2)] [] T Q := by
  intro S hS
  refine aw_ald j61_22 rfl (cv_isR _ _ _) ?_
  refine aw_ild j61_23 rfl ?_
  refine aw_xld (n := 120) j61_24 (hS.kd l_1) e_3 c_4 (by decide) (hS.i i_2 rfl rfl l_1) ?_
  exact k_5 _ hS
theorem bc61_25 {r0 : Option Nat} {r1 : Option Nat} {x2 : Int32} {xk0 : Int32}  (k_1 : ∀ S, cr X T S → Q (some (.int xk0)) S) : cA ext X d 61 25 [some (cv X 9 r0), some (cv X 27 r1), some (.int x2)] [.int xk0] T Q := by
  intro S hS
  exact aw_ret j61_25 (by rw [rt61]; exact rfl) (k_1 _ hS)
/-! Arrays_fill -/
theorem bc96_0 {a0 : Nat} {x1 : Int32} {o2 : Option Value} {o3 : Option Value} (l_1 : X.2.1 27 a0) (k_2 : cA ext X d 96 5 [some (cv X 27 (some a0)), some (.int x1), some (.int (0 : Int32)), some (.int (nI 120))] [] T Q) : cA ext X d 96 0 [some (cv X 27 (some a0)), some (.int x1), o2, o3] [] T Q := by
  intro S hS
  refine aw_con j96_0 ?_
  refine aw_ist j96_1 (Nat.le_of_ble_eq_true rfl) ?_
  refine aw_ald j96_2 rfl (cv_isR _ _ _) ?_
  refine aw_len j96_3 (hS.kd l_1) ?_
  refine aw_ist j96_4 (Nat.le_of_ble_eq_true rfl) ?_
  exact k_2 _ hS
theorem bc96_5 {r0 : Option Nat} {x1 : Int32} {x2 : Int32} {x3 : Int32}  (k_1 : (x3 ≤ x2) → cA ext X d 96 20 [some (cv X 27 r0), some (.int x1), some (.int x2), some (.int x3)] [] T Q) (k_2 : (¬ (x3 ≤ x2)) → cA ext X d 96 10 [some (cv X 27 r0), some (.int x1), some (.int x2), some (.int x3)] [] T Q) : cA ext X d 96 5 [some (cv X 27 r0), some (.int x1), some (.int x2), some (.int x3)] [] T Q := by
  intro S hS
  refine aw_ild j96_5 rfl ?_
  refine aw_ild j96_6 rfl ?_
  exact aw_ic j96_7 (fun h => k_1 (of_decide_eq_true h) _ hS) (fun h => k_2 (of_decide_eq_false h) _ hS)
theorem bc96_10 {a0 : Nat} {x1 : Int32} {x2 : Int32} {x3 : Int32} {i_2 : Nat} (l_1 : X.2.1 27 a0) (e_3 : x2 = nI i_2) (c_4 : i_2 < 120) (k_5 : cA ext X d 96 5 [some (cv X 27 (some a0)), some (.int x1), some (.int (x2 + 1)), some (.int x3)] [] (iset T 27 a0 i_2 x1) Q) : cA ext X d 96 10 [some (cv X 27 (some a0)), some (.int x1), some (.int x2), some (.int x3)] [] T Q := by
  intro S hS
  refine aw_ald j96_10 rfl (cv_isR _ _ _) ?_
  refine aw_ild j96_11 rfl ?_
  refine aw_ild j96_12 rfl ?_
  refine aw_xst (n := 120) j96_13 (hS.kd l_1) e_3 c_4 (by decide) ?_
  have hS := hS.seti (s := 27) i_2 x1 rfl rfl l_1
  refine aw_inc j96_14 rfl ?_
  exact aw_goto j96_17 (k_5 _ hS)
theorem bc96_20 {r0 : Option Nat} {x1 : Int32} {x2 : Int32} {x3 : Int32}  (k_1 : ∀ S, cr X T S → Q none S) : cA ext X d 96 20 [some (cv X 27 r0), some (.int x1), some (.int x2), some (.int x3)] [] T Q := by
  intro S hS
  exact aw_vret j96_20 rt96 (k_1 _ hS)
/-! Math_max -/
theorem bc97_0 {x0 : Int32} {x1 : Int32}  (k_1 : (x0 < x1) → cA ext X d 97 9 [some (.int x0), some (.int x1)] [] T Q) (k_2 : (¬ (x0 < x1)) → cA ext X d 97 5 [some (.int x0), some (.int x1)] [] T Q) : cA ext X d 97 0 [some (.int x0), some (.int x1)] [] T Q := by
  intro S hS
  refine aw_ild j97_0 rfl ?_
  refine aw_ild j97_1 rfl ?_
  exact aw_ic j97_2 (fun h => k_1 (of_decide_eq_true h) _ hS) (fun h => k_2 (of_decide_eq_false h) _ hS)
theorem bc97_5 {x0 : Int32} {x1 : Int32}  (k_1 : cA ext X d 97 10 [some (.int x0), some (.int x1)] [.int x0] T Q) : cA ext X d 97 5 [some (.int x0), some (.int x1)] [] T Q := by
  intro S hS
  refine aw_ild j97_5 rfl ?_
  exact aw_goto j97_6 (k_1 _ hS)
theorem bc97_9 {x0 : Int32} {x1 : Int32}  (k_1 : cA ext X d 97 10 [some (.int x0), some (.int x1)] [.int x1] T Q) : cA ext X d 97 9 [some (.int x0), some (.int x1)] [] T Q := by
  intro S hS
  refine aw_ild j97_9 rfl ?_
  exact k_1 _ hS
theorem bc97_10 {x0 : Int32} {x1 : Int32} {xk0 : Int32}  (k_1 : ∀ S, cr X T S → Q (some (.int xk0)) S) : cA ext X d 97 10 [some (.int x0), some (.int x1)] [.int xk0] T Q := by
  intro S hS
  exact aw_ret j97_10 (by rw [rt97]; exact rfl) (k_1 _ hS)
end
