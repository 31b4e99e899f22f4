section
variable {ext : av_X} {X : cX} {d : Nat} {T : cT} {Q : Option Value → av_St → Prop}
/-! SM_file -/
theorem bc1_0 {r0 : Option Nat} {x1 : Int32} {o2 : Option Value} {P_1 : Int32 → cT → Prop} (m_4 : cCi ext X d 2 [.int x1] T P_1) (k_5 : ∀ v_3 T_2, P_1 v_3 T_2 → cA ext X (d + 1) 1 4 [some (cv X 0 r0), some (.int x1), o2] [.int v_3] T_2 Q) : cA ext X (d + 1) 1 0 [some (cv X 0 r0), some (.int x1), o2] [] T Q := by
  intro S hS
  refine aw_ild j1_0 rfl ?_
  refine aw_calli (as := [.int x1]) j1_1 rfl rfl (Nat.le_of_ble_eq_true rfl) cy2.1 cy2.2 (cs_cons rfl cs_nil) rfl (m_4 _ hS) (fun v1 S1 h1 => ?_)
  obtain ⟨W1, h1, h2⟩ := h1
  exact k_5 v1 W1 h2 S1 h1
theorem bc1_4 {r0 : Option Nat} {x1 : Int32} {o2 : Option Value} {xk0 : Int32}  (k_1 : (¬ xk0 = 0) → cA ext X d 1 10 [some (cv X 0 r0), some (.int x1), o2] [] T Q) (k_2 : (xk0 = 0) → cA ext X d 1 7 [some (cv X 0 r0), some (.int x1), o2] [] T Q) : cA ext X d 1 4 [some (cv X 0 r0), some (.int x1), o2] [.int xk0] T Q := by
  intro S hS
  exact aw_if j1_4 (fun h => k_1 (of_decide_eq_true h) _ hS) (fun h => k_2 (Decidable.of_not_not (of_decide_eq_false h)) _ hS)
theorem bc1_7 {r0 : Option Nat} {x1 : Int32} {o2 : Option Value}  (k_1 : ∀ S, cr X T S → Q (some (.int (-2 : Int32))) S) : cA ext X d 1 7 [some (cv X 0 r0), some (.int x1), o2] [] T Q := by
  intro S hS
  refine aw_con j1_7 ?_
  exact aw_ret j1_9 (by rw [rt1]; exact rfl) (k_1 _ hS)
theorem bc1_10 {a0 : Nat} {x1 : Int32} {o2 : Option Value} (l_1 : X.2.1 0 a0) (k_2 : ((T.1 0 a0 1) < (30 : Int32)) → cA ext X d 1 22 [some (cv X 0 (some a0)), some (.int x1), o2] [] T Q) (k_3 : (¬ ((T.1 0 a0 1) < (30 : Int32))) → cA ext X d 1 19 [some (cv X 0 (some a0)), some (.int x1), o2] [] T Q) : cA ext X d 1 10 [some (cv X 0 (some a0)), some (.int x1), o2] [] T Q := by
  intro S hS
  refine aw_ald j1_10 rfl (cv_isR _ _ _) ?_
  refine aw_get j1_11 (hS.kd l_1) (hS.i 1 rfl rfl l_1) ?_
  refine aw_con j1_14 ?_
  exact aw_ic j1_16 (fun h => k_2 (of_decide_eq_true h) _ hS) (fun h => k_3 (of_decide_eq_false h) _ hS)
theorem bc1_19 {r0 : Option Nat} {x1 : Int32} {o2 : Option Value}  (k_1 : ∀ S, cr X T S → Q (some (.int (-4 : Int32))) S) : cA ext X d 1 19 [some (cv X 0 r0), some (.int x1), o2] [] T Q := by
  intro S hS
  refine aw_con j1_19 ?_
  exact aw_ret j1_21 (by rw [rt1]; exact rfl) (k_1 _ hS)
theorem bc1_41 {a0 : Nat} {x1 : Int32} {x2 : Int32} {ak0 : Nat} {xk1 : Int32} {rk2 : Option Nat} {i_3 : Nat} (l_1 : X.2.1 0 a0) (l_2 : X.2.1 20 ak0) (e_4 : xk1 = nI i_3) (c_5 : i_3 < 30) (l_6 : ∀ j, rk2 = some j → X.2.1 6 j) (k_7 : ∀ S, cr X (iset (oset T 20 ak0 i_3 rk2) 0 a0 1 (((oset T 20 ak0 i_3 rk2).1 0 a0 1) + (1 : Int32))) S → Q (some (.int x2)) S) : cA ext X d 1 41 [some (cv X 0 (some a0)), some (.int x1), some (.int x2)] [cv X 6 rk2, .int xk1, cv X 20 (some ak0)] T Q := by
  intro S hS
  refine aw_ast2 (n := 30) (r := (rk2).map (X.1 6)) j1_41 (hS.kd l_2) e_4 c_5 (by decide) (hS.tv l_6) ?_
  have hS := hS.setr (s := 20) i_3 rk2 rfl rfl l_2 l_6
  refine aw_ald j1_42 rfl (cv_isR _ _ _) ?_
  refine aw_dup j1_43 rfl ?_
  refine aw_get j1_44 (hS.kd l_1) (hS.i 1 rfl rfl l_1) ?_
  refine aw_con j1_47 ?_
  refine aw_bin (z := (((oset T 20 ak0 i_3 rk2).1 0 a0 1) + (1 : Int32))) j1_48 rfl ?_
  refine aw_put j1_49 (hS.kd l_1) rfl ?_
  have hS := hS.seti (s := 0) 1 (((oset T 20 ak0 i_3 rk2).1 0 a0 1) + (1 : Int32)) rfl rfl l_1
  refine aw_ild j1_52 rfl ?_
  exact aw_ret j1_53 (by rw [rt1]; exact rfl) (k_7 _ hS)
/-! SM_isSize -/
theorem bc2_0 {x0 : Int32}  (k_1 : (x0 < 0) → cA ext X d 2 14 [some (.int x0)] [] T Q) (k_2 : (¬ (x0 < 0)) → cA ext X d 2 4 [some (.int x0)] [] T Q) : cA ext X d 2 0 [some (.int x0)] [] T Q := by
  intro S hS
  refine aw_ild j2_0 rfl ?_
  exact aw_if j2_1 (fun h => k_1 (of_decide_eq_true h) _ hS) (fun h => k_2 (of_decide_eq_false h) _ hS)
theorem bc2_4 {x0 : Int32}  (k_1 : ((100000 : Int32) < x0) → cA ext X d 2 14 [some (.int x0)] [] T Q) (k_2 : (¬ ((100000 : Int32) < x0)) → cA ext X d 2 10 [some (.int x0)] [] T Q) : cA ext X d 2 4 [some (.int x0)] [] T Q := by
  intro S hS
  refine aw_ild j2_4 rfl ?_
  refine aw_con j2_5 ?_
  exact aw_ic j2_7 (fun h => k_1 (of_decide_eq_true h) _ hS) (fun h => k_2 (of_decide_eq_false h) _ hS)
theorem bc2_10 {x0 : Int32}  (k_1 : cA ext X d 2 15 [some (.int x0)] [.int (1 : Int32)] T Q) : cA ext X d 2 10 [some (.int x0)] [] T Q := by
  intro S hS
  refine aw_con j2_10 ?_
  exact aw_goto j2_11 (k_1 _ hS)
theorem bc2_14 {x0 : Int32}  (k_1 : cA ext X d 2 15 [some (.int x0)] [.int (0 : Int32)] T Q) : cA ext X d 2 14 [some (.int x0)] [] T Q := by
  intro S hS
  refine aw_con j2_14 ?_
  exact k_1 _ hS
theorem bc2_15 {x0 : Int32} {xk0 : Int32} (o_2 : xk0 = 0 ∨ xk0 = 1) (k_1 : ∀ S, cr X T S → Q (some (.int xk0)) S) : cA ext X d 2 15 [some (.int x0)] [.int xk0] T Q := by
  intro S hS
  exact aw_ret j2_15 (by rw [rt2]; exact (decide_eq_true o_2)) (k_1 _ hS)
/-! SM_size -/
theorem bc3_0 {a0 : Nat} {x1 : Int32} {x2 : Int32} {o3 : Option Value} {o4 : Option Value} {P_2 : Option Nat → cT → Prop} (l_1 : X.2.1 0 a0) (m_5 : cCr ext X 6 d 4 [cv X 0 (some a0), .int x1] T P_2) (k_6 : ∀ v_4 T_3, P_2 v_4 T_3 → cA ext X (d + 1) 3 5 [some (cv X 0 (some a0)), some (.int x1), some (.int x2), o3, o4] [cv X 6 v_4] T_3 Q) : cA ext X (d + 1) 3 0 [some (cv X 0 (some a0)), some (.int x1), some (.int x2), o3, o4] [] T Q := by
  intro S hS
  refine aw_ald j3_0 rfl (cv_isR _ _ _) ?_
  refine aw_ild j3_1 rfl ?_
  refine aw_callr (as := [cv X 0 (some a0), .int x1]) j3_2 rfl rfl (Nat.le_of_ble_eq_true rfl) cy4.1 cy4.2 (cs_cons rfl (cs_cons rfl cs_nil)) (decide_eq_true (hS.kd l_1)) (m_5 _ hS) (fun v1 S1 h1 => ?_)
  obtain ⟨o1, W1, he, h1, h2⟩ := h1
  subst he
  exact k_6 o1 W1 h2 S1 h1
theorem bc3_5 {r0 : Option Nat} {x1 : Int32} {x2 : Int32} {o3 : Option Value} {o4 : Option Value} {rk0 : Option Nat}  (k_2 : rk0 = none → cA ext X d 3 10 [some (cv X 0 r0), some (.int x1), some (.int x2), some (cv X 6 rk0), o4] [] T Q) (k_3 : ∀ c_1, rk0 = some c_1 → cA ext X d 3 12 [some (cv X 0 r0), some (.int x1), some (.int x2), some (cv X 6 rk0), o4] [] T Q) : cA ext X d 3 5 [some (cv X 0 r0), some (.int x1), some (.int x2), o3, o4] [cv X 6 rk0] T Q := by
  intro S hS
  refine aw_ast j3_5 (cv_isR _ _ _) (Nat.le_of_ble_eq_true rfl) ?_
  refine aw_ald j3_6 rfl (cv_isR _ _ _) ?_
  exact aw_nonn (r := (rk0).map (X.1 6)) j3_7 (fun h => k_2 (cv_none h) _ hS) (fun c h => by obtain ⟨c, hc⟩ := cv_some h; exact k_3 c hc _ hS)
theorem bc3_10 {r0 : Option Nat} {x1 : Int32} {x2 : Int32} {r3 : Option Nat} {o4 : Option Value}  (k_1 : ∀ S, cr X T S → Q (some (.int (-1 : Int32))) S) : cA ext X d 3 10 [some (cv X 0 r0), some (.int x1), some (.int x2), some (cv X 6 r3), o4] [] T Q := by
  intro S hS
  refine aw_con j3_10 ?_
  exact aw_ret j3_11 (by rw [rt3]; exact rfl) (k_1 _ hS)
theorem bc3_12 {r0 : Option Nat} {x1 : Int32} {x2 : Int32} {r3 : Option Nat} {o4 : Option Value} {P_1 : Int32 → cT → Prop} (m_4 : cCi ext X d 2 [.int x2] T P_1) (k_5 : ∀ v_3 T_2, P_1 v_3 T_2 → cA ext X (d + 1) 3 16 [some (cv X 0 r0), some (.int x1), some (.int x2), some (cv X 6 r3), o4] [.int v_3] T_2 Q) : cA ext X (d + 1) 3 12 [some (cv X 0 r0), some (.int x1), some (.int x2), some (cv X 6 r3), o4] [] T Q := by
  intro S hS
  refine aw_ild j3_12 rfl ?_
  refine aw_calli (as := [.int x2]) j3_13 rfl rfl (Nat.le_of_ble_eq_true rfl) cy2.1 cy2.2 (cs_cons rfl cs_nil) rfl (m_4 _ hS) (fun v1 S1 h1 => ?_)
  obtain ⟨W1, h1, h2⟩ := h1
  exact k_5 v1 W1 h2 S1 h1
theorem bc3_16 {r0 : Option Nat} {x1 : Int32} {x2 : Int32} {r3 : Option Nat} {o4 : Option Value} {xk0 : Int32}  (k_1 : (¬ xk0 = 0) → cA ext X d 3 22 [some (cv X 0 r0), some (.int x1), some (.int x2), some (cv X 6 r3), o4] [] T Q) (k_2 : (xk0 = 0) → cA ext X d 3 19 [some (cv X 0 r0), some (.int x1), some (.int x2), some (cv X 6 r3), o4] [] T Q) : cA ext X d 3 16 [some (cv X 0 r0), some (.int x1), some (.int x2), some (cv X 6 r3), o4] [.int xk0] T Q := by
  intro S hS
  exact aw_if j3_16 (fun h => k_1 (of_decide_eq_true h) _ hS) (fun h => k_2 (Decidable.of_not_not (of_decide_eq_false h)) _ hS)
theorem bc3_19 {r0 : Option Nat} {x1 : Int32} {x2 : Int32} {r3 : Option Nat} {o4 : Option Value}  (k_1 : ∀ S, cr X T S → Q (some (.int (-2 : Int32))) S) : cA ext X d 3 19 [some (cv X 0 r0), some (.int x1), some (.int x2), some (cv X 6 r3), o4] [] T Q := by
  intro S hS
  refine aw_con j3_19 ?_
  exact aw_ret j3_21 (by rw [rt3]; exact rfl) (k_1 _ hS)
theorem bc3_22 {r0 : Option Nat} {x1 : Int32} {x2 : Int32} {a3 : Nat} {o4 : Option Value} (l_1 : X.2.1 6 a3) (k_2 : ∀ S, cr X (iset T 6 a3 1 x2) S → Q (some (.int (T.1 6 a3 1))) S) : cA ext X d 3 22 [some (cv X 0 r0), some (.int x1), some (.int x2), some (cv X 6 (some a3)), o4] [] T Q := by
  intro S hS
  refine aw_ald j3_22 rfl (cv_isR _ _ _) ?_
  refine aw_get j3_23 (hS.kd l_1) (hS.i 1 rfl rfl l_1) ?_
  refine aw_ist j3_26 (Nat.le_of_ble_eq_true rfl) ?_
  refine aw_ald j3_28 rfl (cv_isR _ _ _) ?_
  refine aw_ild j3_29 rfl ?_
  refine aw_put j3_30 (hS.kd l_1) rfl ?_
  have hS := hS.seti (s := 6) 1 x2 rfl rfl l_1
  refine aw_ild j3_33 rfl ?_
  exact aw_ret j3_35 (by rw [rt3]; exact rfl) (k_2 _ hS)
/-! SM_findFile -/
theorem bc4_0 {r0 : Option Nat} {x1 : Int32}  (k_1 : (x1 < 0) → cA ext X d 4 12 [some (cv X 0 r0), some (.int x1)] [] T Q) (k_2 : (¬ (x1 < 0)) → cA ext X d 4 4 [some (cv X 0 r0), some (.int x1)] [] T Q) : cA ext X d 4 0 [some (cv X 0 r0), some (.int x1)] [] T Q := by
  intro S hS
  refine aw_ild j4_0 rfl ?_
  exact aw_if j4_1 (fun h => k_1 (of_decide_eq_true h) _ hS) (fun h => k_2 (of_decide_eq_false h) _ hS)
theorem bc4_4 {a0 : Nat} {x1 : Int32} (l_1 : X.2.1 0 a0) (k_2 : (x1 < (T.1 0 a0 1)) → cA ext X d 4 16 [some (cv X 0 (some a0)), some (.int x1)] [] T Q) (k_3 : (¬ (x1 < (T.1 0 a0 1))) → cA ext X d 4 12 [some (cv X 0 (some a0)), some (.int x1)] [] T Q) : cA ext X d 4 4 [some (cv X 0 (some a0)), some (.int x1)] [] T Q := by
  intro S hS
  refine aw_ild j4_4 rfl ?_
  refine aw_ald j4_5 rfl (cv_isR _ _ _) ?_
  refine aw_get j4_6 (hS.kd l_1) (hS.i 1 rfl rfl l_1) ?_
  exact aw_ic j4_9 (fun h => k_2 (of_decide_eq_true h) _ hS) (fun h => k_3 (of_decide_eq_false h) _ hS)
theorem bc4_12 {r0 : Option Nat} {x1 : Int32}  (k_1 : cA ext X d 4 22 [some (cv X 0 r0), some (.int x1)] [cv X 6 none] T Q) : cA ext X d 4 12 [some (cv X 0 r0), some (.int x1)] [] T Q := by
  intro S hS
  refine aw_nul j4_12 ?_
  exact aw_goto j4_13 (k_1 _ hS)
theorem bc4_16 {a0 : Nat} {x1 : Int32} {i_2 : Nat} (l_1 : X.2.1 0 a0) (e_3 : x1 = nI i_2) (c_4 : i_2 < 30) (k_5 : cA ext X d 4 22 [some (cv X 0 (some a0)), some (.int x1)] [cv X 6 (T.2 20 a0 i_2)] T Q) : cA ext X d 4 16 [some (cv X 0 (some a0)), some (.int x1)] [] T Q := by
  intro S hS
  refine aw_ald j4_16 rfl (cv_isR _ _ _) ?_
  refine aw_get j4_17 (hS.kd l_1) (hS.f 0 rfl l_1) ?_
  refine aw_ild j4_20 rfl ?_
  refine aw_xld (n := 30) j4_21 (hS.kd (hS.fl (s := 0) 0 rfl l_1)) e_3 c_4 (by decide) (hS.r i_2 rfl (hS.fl (s := 0) 0 rfl l_1)) ?_
  exact k_5 _ hS
theorem bc4_22 {r0 : Option Nat} {x1 : Int32} {rk0 : Option Nat}  (k_1 : ∀ S, cr X T S → Q (some (cv X 6 rk0)) S) : cA ext X d 4 22 [some (cv X 0 r0), some (.int x1)] [cv X 6 rk0] T Q := by
  intro S hS
  exact aw_ret j4_22 (by rw [rt4]; exact (cv_fo _ _ _ _)) (k_1 _ hS)
/-! SM_map -/
theorem bc5_0 {r0 : Option Nat} {x1 : Int32} {o2 : Option Value}  (k_1 : (x1 = 0) → cA ext X d 5 12 [some (cv X 0 r0), some (.int x1), o2] [] T Q) (k_2 : (¬ (x1 = 0)) → cA ext X d 5 4 [some (cv X 0 r0), some (.int x1), o2] [] T Q) : cA ext X d 5 0 [some (cv X 0 r0), some (.int x1), o2] [] T Q := by
  intro S hS
  refine aw_ild j5_0 rfl ?_
  exact aw_if j5_1 (fun h => k_1 (of_decide_eq_true h) _ hS) (fun h => k_2 (of_decide_eq_false h) _ hS)
theorem bc5_4 {r0 : Option Nat} {x1 : Int32} {o2 : Option Value}  (k_1 : (x1 = (1 : Int32)) → cA ext X d 5 12 [some (cv X 0 r0), some (.int x1), o2] [] T Q) (k_2 : (¬ (x1 = (1 : Int32))) → cA ext X d 5 9 [some (cv X 0 r0), some (.int x1), o2] [] T Q) : cA ext X d 5 4 [some (cv X 0 r0), some (.int x1), o2] [] T Q := by
  intro S hS
  refine aw_ild j5_4 rfl ?_
  refine aw_con j5_5 ?_
  exact aw_ic j5_6 (fun h => k_1 (of_decide_eq_true h) _ hS) (fun h => k_2 (of_decide_eq_false h) _ hS)
theorem bc5_9 {r0 : Option Nat} {x1 : Int32} {o2 : Option Value}  (k_1 : ∀ S, cr X T S → Q (some (.int (-2 : Int32))) S) : cA ext X d 5 9 [some (cv X 0 r0), some (.int x1), o2] [] T Q := by
  intro S hS
  refine aw_con j5_9 ?_
  exact aw_ret j5_11 (by rw [rt5]; exact rfl) (k_1 _ hS)
theorem bc5_12 {a0 : Nat} {x1 : Int32} {o2 : Option Value} (l_1 : X.2.1 0 a0) (k_2 : ((T.1 0 a0 3) < (5 : Int32)) → cA ext X d 5 23 [some (cv X 0 (some a0)), some (.int x1), o2] [] T Q) (k_3 : (¬ ((T.1 0 a0 3) < (5 : Int32))) → cA ext X d 5 20 [some (cv X 0 (some a0)), some (.int x1), o2] [] T Q) : cA ext X d 5 12 [some (cv X 0 (some a0)), some (.int x1), o2] [] T Q := by
  intro S hS
  refine aw_ald j5_12 rfl (cv_isR _ _ _) ?_
  refine aw_get j5_13 (hS.kd l_1) (hS.i 3 rfl rfl l_1) ?_
  refine aw_con j5_16 ?_
  exact aw_ic j5_17 (fun h => k_2 (of_decide_eq_true h) _ hS) (fun h => k_3 (of_decide_eq_false h) _ hS)
theorem bc5_20 {r0 : Option Nat} {x1 : Int32} {o2 : Option Value}  (k_1 : ∀ S, cr X T S → Q (some (.int (-4 : Int32))) S) : cA ext X d 5 20 [some (cv X 0 r0), some (.int x1), o2] [] T Q := by
  intro S hS
  refine aw_con j5_20 ?_
  exact aw_ret j5_22 (by rw [rt5]; exact rfl) (k_1 _ hS)
theorem bc5_42 {a0 : Nat} {x1 : Int32} {x2 : Int32} {ak0 : Nat} {xk1 : Int32} {rk2 : Option Nat} {i_3 : Nat} (l_1 : X.2.1 0 a0) (l_2 : X.2.1 21 ak0) (e_4 : xk1 = nI i_3) (c_5 : i_3 < 5) (l_6 : ∀ j, rk2 = some j → X.2.1 7 j) (k_7 : ∀ S, cr X (iset (oset T 21 ak0 i_3 rk2) 0 a0 3 (((oset T 21 ak0 i_3 rk2).1 0 a0 3) + (1 : Int32))) S → Q (some (.int x2)) S) : cA ext X d 5 42 [some (cv X 0 (some a0)), some (.int x1), some (.int x2)] [cv X 7 rk2, .int xk1, cv X 21 (some ak0)] T Q := by
  intro S hS
  refine aw_ast2 (n := 5) (r := (rk2).map (X.1 7)) j5_42 (hS.kd l_2) e_4 c_5 (by decide) (hS.tv l_6) ?_
  have hS := hS.setr (s := 21) i_3 rk2 rfl rfl l_2 l_6
  refine aw_ald j5_43 rfl (cv_isR _ _ _) ?_
  refine aw_dup j5_44 rfl ?_
  refine aw_get j5_45 (hS.kd l_1) (hS.i 3 rfl rfl l_1) ?_
  refine aw_con j5_48 ?_
  refine aw_bin (z := (((oset T 21 ak0 i_3 rk2).1 0 a0 3) + (1 : Int32))) j5_49 rfl ?_
  refine aw_put j5_50 (hS.kd l_1) rfl ?_
  have hS := hS.seti (s := 0) 3 (((oset T 21 ak0 i_3 rk2).1 0 a0 3) + (1 : Int32)) rfl rfl l_1
  refine aw_ild j5_53 rfl ?_
  exact aw_ret j5_54 (by rw [rt5]; exact rfl) (k_7 _ hS)
/-! SM_division -/
theorem bc6_0 {a0 : Nat} {x1 : Int32} {x2 : Int32} {x3 : Int32} {x4 : Int32} {o5 : Option Value} {o6 : Option Value} {o7 : Option Value} {o8 : Option Value} {P_2 : Option Nat → cT → Prop} (l_1 : X.2.1 0 a0) (m_5 : cCr ext X 7 d 7 [cv X 0 (some a0), .int x1] T P_2) (k_6 : ∀ v_4 T_3, P_2 v_4 T_3 → cA ext X (d + 1) 6 5 [some (cv X 0 (some a0)), some (.int x1), some (.int x2), some (.int x3), some (.int x4), o5, o6, o7, o8] [cv X 7 v_4] T_3 Q) : cA ext X (d + 1) 6 0 [some (cv X 0 (some a0)), some (.int x1), some (.int x2), some (.int x3), some (.int x4), o5, o6, o7, o8] [] T Q := by
  intro S hS
  refine aw_ald j6_0 rfl (cv_isR _ _ _) ?_
  refine aw_ild j6_1 rfl ?_
  refine aw_callr (as := [cv X 0 (some a0), .int x1]) j6_2 rfl rfl (Nat.le_of_ble_eq_true rfl) cy7.1 cy7.2 (cs_cons rfl (cs_cons rfl cs_nil)) (decide_eq_true (hS.kd l_1)) (m_5 _ hS) (fun v1 S1 h1 => ?_)
  obtain ⟨o1, W1, he, h1, h2⟩ := h1
  subst he
  exact k_6 o1 W1 h2 S1 h1
theorem bc6_5 {r0 : Option Nat} {x1 : Int32} {x2 : Int32} {x3 : Int32} {x4 : Int32} {o5 : Option Value} {o6 : Option Value} {o7 : Option Value} {o8 : Option Value} {rk0 : Option Nat}  (k_2 : rk0 = none → cA ext X d 6 12 [some (cv X 0 r0), some (.int x1), some (.int x2), some (.int x3), some (.int x4), some (cv X 7 rk0), o6, o7, o8] [] T Q) (k_3 : ∀ c_1, rk0 = some c_1 → cA ext X d 6 14 [some (cv X 0 r0), some (.int x1), some (.int x2), some (.int x3), some (.int x4), some (cv X 7 rk0), o6, o7, o8] [] T Q) : cA ext X d 6 5 [some (cv X 0 r0), some (.int x1), some (.int x2), some (.int x3), some (.int x4), o5, o6, o7, o8] [cv X 7 rk0] T Q := by
  intro S hS
  refine aw_ast j6_5 (cv_isR _ _ _) (Nat.le_of_ble_eq_true rfl) ?_
  refine aw_ald j6_7 rfl (cv_isR _ _ _) ?_
  exact aw_nonn (r := (rk0).map (X.1 7)) j6_9 (fun h => k_2 (cv_none h) _ hS) (fun c h => by obtain ⟨c, hc⟩ := cv_some h; exact k_3 c hc _ hS)
theorem bc6_12 {r0 : Option Nat} {x1 : Int32} {x2 : Int32} {x3 : Int32} {x4 : Int32} {r5 : Option Nat} {o6 : Option Value} {o7 : Option Value} {o8 : Option Value}  (k_1 : ∀ S, cr X T S → Q (some (.int (-1 : Int32))) S) : cA ext X d 6 12 [some (cv X 0 r0), some (.int x1), some (.int x2), some (.int x3), some (.int x4), some (cv X 7 r5), o6, o7, o8] [] T Q := by
  intro S hS
  refine aw_con j6_12 ?_
  exact aw_ret j6_13 (by rw [rt6]; exact rfl) (k_1 _ hS)
theorem bc6_14 {a0 : Nat} {x1 : Int32} {x2 : Int32} {x3 : Int32} {x4 : Int32} {r5 : Option Nat} {o6 : Option Value} {o7 : Option Value} {o8 : Option Value} {P_2 : Option Nat → cT → Prop} (l_1 : X.2.1 0 a0) (m_5 : cCr ext X 8 d 8 [cv X 0 (some a0), cv X 7 r5, .int x2] T P_2) (k_6 : ∀ v_4 T_3, P_2 v_4 T_3 → cA ext X (d + 1) 6 21 [some (cv X 0 (some a0)), some (.int x1), some (.int x2), some (.int x3), some (.int x4), some (cv X 7 r5), o6, o7, o8] [cv X 8 v_4] T_3 Q) : cA ext X (d + 1) 6 14 [some (cv X 0 (some a0)), some (.int x1), some (.int x2), some (.int x3), some (.int x4), some (cv X 7 r5), o6, o7, o8] [] T Q := by
  intro S hS
  refine aw_ald j6_14 rfl (cv_isR _ _ _) ?_
  refine aw_ald j6_15 rfl (cv_isR _ _ _) ?_
  refine aw_ild j6_17 rfl ?_
  refine aw_callr (as := [cv X 0 (some a0), cv X 7 r5, .int x2]) j6_18 rfl rfl (Nat.le_of_ble_eq_true rfl) cy8.1 cy8.2 (cs_cons rfl (cs_cons (cv_cat _ _ _) (cs_cons rfl cs_nil))) (decide_eq_true (hS.kd l_1)) (m_5 _ hS) (fun v1 S1 h1 => ?_)
  obtain ⟨o1, W1, he, h1, h2⟩ := h1
  subst he
  exact k_6 o1 W1 h2 S1 h1
theorem bc6_21 {r0 : Option Nat} {x1 : Int32} {x2 : Int32} {x3 : Int32} {x4 : Int32} {r5 : Option Nat} {o6 : Option Value} {o7 : Option Value} {o8 : Option Value} {rk0 : Option Nat}  (k_2 : rk0 = none → cA ext X d 6 28 [some (cv X 0 r0), some (.int x1), some (.int x2), some (.int x3), some (.int x4), some (cv X 7 r5), some (cv X 8 rk0), o7, o8] [] T Q) (k_3 : ∀ c_1, rk0 = some c_1 → cA ext X d 6 30 [some (cv X 0 r0), some (.int x1), some (.int x2), some (.int x3), some (.int x4), some (cv X 7 r5), some (cv X 8 rk0), o7, o8] [] T Q) : cA ext X d 6 21 [some (cv X 0 r0), some (.int x1), some (.int x2), some (.int x3), some (.int x4), some (cv X 7 r5), o6, o7, o8] [cv X 8 rk0] T Q := by
  intro S hS
  refine aw_ast j6_21 (cv_isR _ _ _) (Nat.le_of_ble_eq_true rfl) ?_
  refine aw_ald j6_23 rfl (cv_isR _ _ _) ?_
  exact aw_nonn (r := (rk0).map (X.1 8)) j6_25 (fun h => k_2 (cv_none h) _ hS) (fun c h => by obtain ⟨c, hc⟩ := cv_some h; exact k_3 c hc _ hS)
theorem bc6_28 {r0 : Option Nat} {x1 : Int32} {x2 : Int32} {x3 : Int32} {x4 : Int32} {r5 : Option Nat} {r6 : Option Nat} {o7 : Option Value} {o8 : Option Value}  (k_1 : ∀ S, cr X T S → Q (some (.int (-1 : Int32))) S) : cA ext X d 6 28 [some (cv X 0 r0), some (.int x1), some (.int x2), some (.int x3), some (.int x4), some (cv X 7 r5), some (cv X 8 r6), o7, o8] [] T Q := by
  intro S hS
  refine aw_con j6_28 ?_
  exact aw_ret j6_29 (by rw [rt6]; exact rfl) (k_1 _ hS)
theorem bc6_30 {r0 : Option Nat} {x1 : Int32} {x2 : Int32} {x3 : Int32} {x4 : Int32} {r5 : Option Nat} {r6 : Option Nat} {o7 : Option Value} {o8 : Option Value}  (k_1 : (x3 < 0) → cA ext X d 6 54 [some (cv X 0 r0), some (.int x1), some (.int x2), some (.int x3), some (.int x4), some (cv X 7 r5), some (cv X 8 r6), o7, o8] [] T Q) (k_2 : (¬ (x3 < 0)) → cA ext X d 6 34 [some (cv X 0 r0), some (.int x1), some (.int x2), some (.int x3), some (.int x4), some (cv X 7 r5), some (cv X 8 r6), o7, o8] [] T Q) : cA ext X d 6 30 [some (cv X 0 r0), some (.int x1), some (.int x2), some (.int x3), some (.int x4), some (cv X 7 r5), some (cv X 8 r6), o7, o8] [] T Q := by
  intro S hS
  refine aw_ild j6_30 rfl ?_
  exact aw_if j6_31 (fun h => k_1 (of_decide_eq_true h) _ hS) (fun h => k_2 (of_decide_eq_false h) _ hS)
theorem bc6_34 {r0 : Option Nat} {x1 : Int32} {x2 : Int32} {x3 : Int32} {x4 : Int32} {r5 : Option Nat} {r6 : Option Nat} {o7 : Option Value} {o8 : Option Value}  (k_1 : ((999 : Int32) < x3) → cA ext X d 6 54 [some (cv X 0 r0), some (.int x1), some (.int x2), some (.int x3), some (.int x4), some (cv X 7 r5), some (cv X 8 r6), o7, o8] [] T Q) (k_2 : (¬ ((999 : Int32) < x3)) → cA ext X d 6 41 [some (cv X 0 r0), some (.int x1), some (.int x2), some (.int x3), some (.int x4), some (cv X 7 r5), some (cv X 8 r6), o7, o8] [] T Q) : cA ext X d 6 34 [some (cv X 0 r0), some (.int x1), some (.int x2), some (.int x3), some (.int x4), some (cv X 7 r5), some (cv X 8 r6), o7, o8] [] T Q := by
  intro S hS
  refine aw_ild j6_34 rfl ?_
  refine aw_con j6_35 ?_
  exact aw_ic j6_38 (fun h => k_1 (of_decide_eq_true h) _ hS) (fun h => k_2 (of_decide_eq_false h) _ hS)
theorem bc6_41 {r0 : Option Nat} {x1 : Int32} {x2 : Int32} {x3 : Int32} {x4 : Int32} {r5 : Option Nat} {r6 : Option Nat} {o7 : Option Value} {o8 : Option Value}  (k_1 : (x4 < 0) → cA ext X d 6 54 [some (cv X 0 r0), some (.int x1), some (.int x2), some (.int x3), some (.int x4), some (cv X 7 r5), some (cv X 8 r6), o7, o8] [] T Q) (k_2 : (¬ (x4 < 0)) → cA ext X d 6 46 [some (cv X 0 r0), some (.int x1), some (.int x2), some (.int x3), some (.int x4), some (cv X 7 r5), some (cv X 8 r6), o7, o8] [] T Q) : cA ext X d 6 41 [some (cv X 0 r0), some (.int x1), some (.int x2), some (.int x3), some (.int x4), some (cv X 7 r5), some (cv X 8 r6), o7, o8] [] T Q := by
  intro S hS
  refine aw_ild j6_41 rfl ?_
  exact aw_if j6_43 (fun h => k_1 (of_decide_eq_true h) _ hS) (fun h => k_2 (of_decide_eq_false h) _ hS)
theorem bc6_46 {r0 : Option Nat} {x1 : Int32} {x2 : Int32} {x3 : Int32} {x4 : Int32} {r5 : Option Nat} {r6 : Option Nat} {o7 : Option Value} {o8 : Option Value}  (k_1 : (x4 ≤ (9999 : Int32)) → cA ext X d 6 57 [some (cv X 0 r0), some (.int x1), some (.int x2), some (.int x3), some (.int x4), some (cv X 7 r5), some (cv X 8 r6), o7, o8] [] T Q) (k_2 : (¬ (x4 ≤ (9999 : Int32))) → cA ext X d 6 54 [some (cv X 0 r0), some (.int x1), some (.int x2), some (.int x3), some (.int x4), some (cv X 7 r5), some (cv X 8 r6), o7, o8] [] T Q) : cA ext X d 6 46 [some (cv X 0 r0), some (.int x1), some (.int x2), some (.int x3), some (.int x4), some (cv X 7 r5), some (cv X 8 r6), o7, o8] [] T Q := by
  intro S hS
  refine aw_ild j6_46 rfl ?_
  refine aw_con j6_48 ?_
  exact aw_ic j6_51 (fun h => k_1 (of_decide_eq_true h) _ hS) (fun h => k_2 (of_decide_eq_false h) _ hS)
theorem bc6_54 {r0 : Option Nat} {x1 : Int32} {x2 : Int32} {x3 : Int32} {x4 : Int32} {r5 : Option Nat} {r6 : Option Nat} {o7 : Option Value} {o8 : Option Value}  (k_1 : ∀ S, cr X T S → Q (some (.int (-2 : Int32))) S) : cA ext X d 6 54 [some (cv X 0 r0), some (.int x1), some (.int x2), some (.int x3), some (.int x4), some (cv X 7 r5), some (cv X 8 r6), o7, o8] [] T Q := by
  intro S hS
  refine aw_con j6_54 ?_
  exact aw_ret j6_56 (by rw [rt6]; exact rfl) (k_1 _ hS)
theorem bc6_57 {r0 : Option Nat} {x1 : Int32} {x2 : Int32} {x3 : Int32} {x4 : Int32} {r5 : Option Nat} {a6 : Nat} {o7 : Option Value} {o8 : Option Value} (l_1 : X.2.1 8 a6) (k_2 : (¬ (T.1 8 a6 1) = x1) → cA ext X d 6 74 [some (cv X 0 r0), some (.int x1), some (.int x2), some (.int x3), some (.int x4), some (cv X 7 r5), some (cv X 8 (some a6)), o7, o8] [] T Q) (k_3 : ((T.1 8 a6 1) = x1) → cA ext X d 6 66 [some (cv X 0 r0), some (.int x1), some (.int x2), some (.int x3), some (.int x4), some (cv X 7 r5), some (cv X 8 (some a6)), o7, o8] [] T Q) : cA ext X d 6 57 [some (cv X 0 r0), some (.int x1), some (.int x2), some (.int x3), some (.int x4), some (cv X 7 r5), some (cv X 8 (some a6)), o7, o8] [] T Q := by
  intro S hS
  refine aw_ald j6_57 rfl (cv_isR _ _ _) ?_
  refine aw_get j6_59 (hS.kd l_1) (hS.i 1 rfl rfl l_1) ?_
  refine aw_ild j6_62 rfl ?_
  exact aw_ic j6_63 (fun h => k_2 (of_decide_eq_true h) _ hS) (fun h => k_3 (Decidable.of_not_not (of_decide_eq_false h)) _ hS)
theorem bc6_66 {r0 : Option Nat} {x1 : Int32} {x2 : Int32} {x3 : Int32} {x4 : Int32} {r5 : Option Nat} {a6 : Nat} {o7 : Option Value} {o8 : Option Value} (l_1 : X.2.1 8 a6) (k_3 : (T.2 8 a6 9) = none → cA ext X d 6 77 [some (cv X 0 r0), some (.int x1), some (.int x2), some (.int x3), some (.int x4), some (cv X 7 r5), some (cv X 8 (some a6)), o7, o8] [] T Q) (k_4 : ∀ c_2, (T.2 8 a6 9) = some c_2 → cA ext X d 6 74 [some (cv X 0 r0), some (.int x1), some (.int x2), some (.int x3), some (.int x4), some (cv X 7 r5), some (cv X 8 (some a6)), o7, o8] [] T Q) : cA ext X d 6 66 [some (cv X 0 r0), some (.int x1), some (.int x2), some (.int x3), some (.int x4), some (cv X 7 r5), some (cv X 8 (some a6)), o7, o8] [] T Q := by
  intro S hS
  refine aw_ald j6_66 rfl (cv_isR _ _ _) ?_
  refine aw_get j6_68 (hS.kd l_1) (hS.r 9 rfl l_1) ?_
  exact aw_null (r := ((T.2 8 a6 9)).map (X.1 8)) j6_71 (fun h => k_3 (cv_none h) _ hS) (fun c h => by obtain ⟨c, hc⟩ := cv_some h; exact k_4 c hc _ hS)
theorem bc6_74 {r0 : Option Nat} {x1 : Int32} {x2 : Int32} {x3 : Int32} {x4 : Int32} {r5 : Option Nat} {r6 : Option Nat} {o7 : Option Value} {o8 : Option Value}  (k_1 : ∀ S, cr X T S → Q (some (.int (-3 : Int32))) S) : cA ext X d 6 74 [some (cv X 0 r0), some (.int x1), some (.int x2), some (.int x3), some (.int x4), some (cv X 7 r5), some (cv X 8 r6), o7, o8] [] T Q := by
  intro S hS
  refine aw_con j6_74 ?_
  exact aw_ret j6_76 (by rw [rt6]; exact rfl) (k_1 _ hS)
theorem bc6_77 {a0 : Nat} {x1 : Int32} {x2 : Int32} {x3 : Int32} {x4 : Int32} {r5 : Option Nat} {r6 : Option Nat} {o7 : Option Value} {o8 : Option Value} (l_1 : X.2.1 0 a0) (k_2 : ((T.1 0 a0 5) < (120 : Int32)) → cA ext X d 6 89 [some (cv X 0 (some a0)), some (.int x1), some (.int x2), some (.int x3), some (.int x4), some (cv X 7 r5), some (cv X 8 r6), o7, o8] [] T Q) (k_3 : (¬ ((T.1 0 a0 5) < (120 : Int32))) → cA ext X d 6 86 [some (cv X 0 (some a0)), some (.int x1), some (.int x2), some (.int x3), some (.int x4), some (cv X 7 r5), some (cv X 8 r6), o7, o8] [] T Q) : cA ext X d 6 77 [some (cv X 0 (some a0)), some (.int x1), some (.int x2), some (.int x3), some (.int x4), some (cv X 7 r5), some (cv X 8 r6), o7, o8] [] T Q := by
  intro S hS
  refine aw_ald j6_77 rfl (cv_isR _ _ _) ?_
  refine aw_get j6_78 (hS.kd l_1) (hS.i 5 rfl rfl l_1) ?_
  refine aw_con j6_81 ?_
  exact aw_ic j6_83 (fun h => k_2 (of_decide_eq_true h) _ hS) (fun h => k_3 (of_decide_eq_false h) _ hS)
theorem bc6_86 {r0 : Option Nat} {x1 : Int32} {x2 : Int32} {x3 : Int32} {x4 : Int32} {r5 : Option Nat} {r6 : Option Nat} {o7 : Option Value} {o8 : Option Value}  (k_1 : ∀ S, cr X T S → Q (some (.int (-4 : Int32))) S) : cA ext X d 6 86 [some (cv X 0 r0), some (.int x1), some (.int x2), some (.int x3), some (.int x4), some (cv X 7 r5), some (cv X 8 r6), o7, o8] [] T Q := by
  intro S hS
  refine aw_con j6_86 ?_
  exact aw_ret j6_88 (by rw [rt6]; exact rfl) (k_1 _ hS)
theorem bc6_108 {a0 : Nat} {x1 : Int32} {x2 : Int32} {x3 : Int32} {x4 : Int32} {r5 : Option Nat} {a6 : Nat} {x7 : Int32} {o8 : Option Value} {rk0 : Option Nat} {i_3 : Nat} {P_7 : cT → Prop} (l_1 : X.2.1 0 a0) (l_2 : X.2.1 8 a6) (e_4 : x7 = nI i_3) (c_5 : i_3 < 120) (l_6 : ∀ j, rk0 = some j → X.2.1 8 j) (m_10 : cCv ext X d 51 [cv X 8 (some a6), cv X 8 rk0] (iset (oset T 22 a0 i_3 rk0) 0 a0 5 (((oset T 22 a0 i_3 rk0).1 0 a0 5) + (1 : Int32))) P_7) (k_11 : ∀ T_8, P_7 T_8 → cA ext X (d + 1) 6 136 [some (cv X 0 (some a0)), some (.int x1), some (.int x2), some (.int x3), some (.int x4), some (cv X 7 r5), some (cv X 8 (some a6)), some (.int x7), some (cv X 8 rk0)] [] T_8 Q) : cA ext X (d + 1) 6 108 [some (cv X 0 (some a0)), some (.int x1), some (.int x2), some (.int x3), some (.int x4), some (cv X 7 r5), some (cv X 8 (some a6)), some (.int x7), o8] [cv X 8 rk0] T Q := by
  intro S hS
  refine aw_ast j6_108 (cv_isR _ _ _) (Nat.le_of_ble_eq_true rfl) ?_
  refine aw_ald j6_110 rfl (cv_isR _ _ _) ?_
  refine aw_get j6_111 (hS.kd l_1) (hS.f 4 rfl l_1) ?_
  refine aw_ild j6_114 rfl ?_
  refine aw_ald j6_116 rfl (cv_isR _ _ _) ?_
  refine aw_ast2 (n := 120) (r := (rk0).map (X.1 8)) j6_118 (hS.kd (hS.fl (s := 0) 4 rfl l_1)) e_4 c_5 (by decide) (hS.tv l_6) ?_
  have hS := hS.setr (s := 22) i_3 rk0 rfl rfl (hS.fl (s := 0) 4 rfl l_1) l_6
  refine aw_ald j6_119 rfl (cv_isR _ _ _) ?_
  refine aw_dup j6_120 rfl ?_
  refine aw_get j6_121 (hS.kd l_1) (hS.i 5 rfl rfl l_1) ?_
  refine aw_con j6_124 ?_
  refine aw_bin (z := (((oset T 22 a0 i_3 rk0).1 0 a0 5) + (1 : Int32))) j6_125 rfl ?_
  refine aw_put j6_126 (hS.kd l_1) rfl ?_
  have hS := hS.seti (s := 0) 5 (((oset T 22 a0 i_3 rk0).1 0 a0 5) + (1 : Int32)) rfl rfl l_1
  refine aw_ald j6_129 rfl (cv_isR _ _ _) ?_
  refine aw_ald j6_131 rfl (cv_isR _ _ _) ?_
  refine aw_callv (as := [cv X 8 (some a6), cv X 8 rk0]) j6_133 rfl rfl (Nat.le_of_ble_eq_true rfl) cy51.1 cy51.2 (cs_cons rfl (cs_cons (cv_cat _ _ _) cs_nil)) (decide_eq_true (hS.kd l_2)) (m_10 _ hS) (fun S1 h1 => ?_)
  obtain ⟨W1, h1, h2⟩ := h1
  exact k_11 W1 h2 S1 h1
theorem bc6_136 {r0 : Option Nat} {x1 : Int32} {x2 : Int32} {x3 : Int32} {x4 : Int32} {r5 : Option Nat} {r6 : Option Nat} {x7 : Int32} {r8 : Option Nat}  (k_1 : ∀ S, cr X T S → Q (some (.int x7)) S) : cA ext X d 6 136 [some (cv X 0 r0), some (.int x1), some (.int x2), some (.int x3), some (.int x4), some (cv X 7 r5), some (cv X 8 r6), some (.int x7), some (cv X 8 r8)] [] T Q := by
  intro S hS
  refine aw_ild j6_136 rfl ?_
  exact aw_ret j6_138 (by rw [rt6]; exact rfl) (k_1 _ hS)
/-! SM_findTree -/
theorem bc7_0 {r0 : Option Nat} {x1 : Int32}  (k_1 : (x1 < 0) → cA ext X d 7 12 [some (cv X 0 r0), some (.int x1)] [] T Q) (k_2 : (¬ (x1 < 0)) → cA ext X d 7 4 [some (cv X 0 r0), some (.int x1)] [] T Q) : cA ext X d 7 0 [some (cv X 0 r0), some (.int x1)] [] T Q := by
  intro S hS
  refine aw_ild j7_0 rfl ?_
  exact aw_if j7_1 (fun h => k_1 (of_decide_eq_true h) _ hS) (fun h => k_2 (of_decide_eq_false h) _ hS)
theorem bc7_4 {a0 : Nat} {x1 : Int32} (l_1 : X.2.1 0 a0) (k_2 : (x1 < (T.1 0 a0 3)) → cA ext X d 7 16 [some (cv X 0 (some a0)), some (.int x1)] [] T Q) (k_3 : (¬ (x1 < (T.1 0 a0 3))) → cA ext X d 7 12 [some (cv X 0 (some a0)), some (.int x1)] [] T Q) : cA ext X d 7 4 [some (cv X 0 (some a0)), some (.int x1)] [] T Q := by
  intro S hS
  refine aw_ild j7_4 rfl ?_
  refine aw_ald j7_5 rfl (cv_isR _ _ _) ?_
  refine aw_get j7_6 (hS.kd l_1) (hS.i 3 rfl rfl l_1) ?_
  exact aw_ic j7_9 (fun h => k_2 (of_decide_eq_true h) _ hS) (fun h => k_3 (of_decide_eq_false h) _ hS)
theorem bc7_12 {r0 : Option Nat} {x1 : Int32}  (k_1 : cA ext X d 7 22 [some (cv X 0 r0), some (.int x1)] [cv X 7 none] T Q) : cA ext X d 7 12 [some (cv X 0 r0), some (.int x1)] [] T Q := by
  intro S hS
  refine aw_nul j7_12 ?_
  exact aw_goto j7_13 (k_1 _ hS)
theorem bc7_16 {a0 : Nat} {x1 : Int32} {i_2 : Nat} (l_1 : X.2.1 0 a0) (e_3 : x1 = nI i_2) (c_4 : i_2 < 5) (k_5 : cA ext X d 7 22 [some (cv X 0 (some a0)), some (.int x1)] [cv X 7 (T.2 21 a0 i_2)] T Q) : cA ext X d 7 16 [some (cv X 0 (some a0)), some (.int x1)] [] T Q := by
  intro S hS
  refine aw_ald j7_16 rfl (cv_isR _ _ _) ?_
  refine aw_get j7_17 (hS.kd l_1) (hS.f 2 rfl l_1) ?_
  refine aw_ild j7_20 rfl ?_
  refine aw_xld (n := 5) j7_21 (hS.kd (hS.fl (s := 0) 2 rfl l_1)) e_3 c_4 (by decide) (hS.r i_2 rfl (hS.fl (s := 0) 2 rfl l_1)) ?_
  exact k_5 _ hS
theorem bc7_22 {r0 : Option Nat} {x1 : Int32} {rk0 : Option Nat}  (k_1 : ∀ S, cr X T S → Q (some (cv X 7 rk0)) S) : cA ext X d 7 22 [some (cv X 0 r0), some (.int x1)] [cv X 7 rk0] T Q := by
  intro S hS
  exact aw_ret j7_22 (by rw [rt7]; exact (cv_fo _ _ _ _)) (k_1 _ hS)
/-! SM_findParent -/
theorem bc8_0 {r0 : Option Nat} {r1 : Option Nat} {x2 : Int32}  (k_1 : (¬ x2 = (-1 : Int32)) → cA ext X d 8 12 [some (cv X 0 r0), some (cv X 7 r1), some (.int x2)] [] T Q) (k_2 : (x2 = (-1 : Int32)) → cA ext X d 8 5 [some (cv X 0 r0), some (cv X 7 r1), some (.int x2)] [] T Q) : cA ext X d 8 0 [some (cv X 0 r0), some (cv X 7 r1), some (.int x2)] [] T Q := by
  intro S hS
  refine aw_ild j8_0 rfl ?_
  refine aw_con j8_1 ?_
  exact aw_ic j8_2 (fun h => k_1 (of_decide_eq_true h) _ hS) (fun h => k_2 (Decidable.of_not_not (of_decide_eq_false h)) _ hS)
theorem bc8_5 {r0 : Option Nat} {a1 : Nat} {x2 : Int32} (l_1 : X.2.1 7 a1) (k_2 : cA ext X d 8 17 [some (cv X 0 r0), some (cv X 7 (some a1)), some (.int x2)] [cv X 8 (T.2 7 a1 1)] T Q) : cA ext X d 8 5 [some (cv X 0 r0), some (cv X 7 (some a1)), some (.int x2)] [] T Q := by
  intro S hS
  refine aw_ald j8_5 rfl (cv_isR _ _ _) ?_
  refine aw_get j8_6 (hS.kd l_1) (hS.r 1 rfl l_1) ?_
  exact aw_goto j8_9 (k_2 _ hS)
theorem bc8_12 {a0 : Nat} {r1 : Option Nat} {x2 : Int32} {P_2 : Option Nat → cT → Prop} (l_1 : X.2.1 0 a0) (m_5 : cCr ext X 8 d 9 [cv X 0 (some a0), .int x2] T P_2) (k_6 : ∀ v_4 T_3, P_2 v_4 T_3 → cA ext X (d + 1) 8 17 [some (cv X 0 (some a0)), some (cv X 7 r1), some (.int x2)] [cv X 8 v_4] T_3 Q) : cA ext X (d + 1) 8 12 [some (cv X 0 (some a0)), some (cv X 7 r1), some (.int x2)] [] T Q := by
  intro S hS
  refine aw_ald j8_12 rfl (cv_isR _ _ _) ?_
  refine aw_ild j8_13 rfl ?_
  refine aw_callr (as := [cv X 0 (some a0), .int x2]) j8_14 rfl rfl (Nat.le_of_ble_eq_true rfl) cy9.1 cy9.2 (cs_cons rfl (cs_cons rfl cs_nil)) (decide_eq_true (hS.kd l_1)) (m_5 _ hS) (fun v1 S1 h1 => ?_)
  obtain ⟨o1, W1, he, h1, h2⟩ := h1
  subst he
  exact k_6 o1 W1 h2 S1 h1
theorem bc8_17 {r0 : Option Nat} {r1 : Option Nat} {x2 : Int32} {rk0 : Option Nat}  (k_1 : ∀ S, cr X T S → Q (some (cv X 8 rk0)) S) : cA ext X d 8 17 [some (cv X 0 r0), some (cv X 7 r1), some (.int x2)] [cv X 8 rk0] T Q := by
  intro S hS
  exact aw_ret j8_17 (by rw [rt8]; exact (cv_fo _ _ _ _)) (k_1 _ hS)
/-! SM_findDivision -/
theorem bc9_0 {r0 : Option Nat} {x1 : Int32}  (k_1 : (x1 < 0) → cA ext X d 9 12 [some (cv X 0 r0), some (.int x1)] [] T Q) (k_2 : (¬ (x1 < 0)) → cA ext X d 9 4 [some (cv X 0 r0), some (.int x1)] [] T Q) : cA ext X d 9 0 [some (cv X 0 r0), some (.int x1)] [] T Q := by
  intro S hS
  refine aw_ild j9_0 rfl ?_
  exact aw_if j9_1 (fun h => k_1 (of_decide_eq_true h) _ hS) (fun h => k_2 (of_decide_eq_false h) _ hS)
theorem bc9_4 {a0 : Nat} {x1 : Int32} (l_1 : X.2.1 0 a0) (k_2 : (x1 < (T.1 0 a0 5)) → cA ext X d 9 16 [some (cv X 0 (some a0)), some (.int x1)] [] T Q) (k_3 : (¬ (x1 < (T.1 0 a0 5))) → cA ext X d 9 12 [some (cv X 0 (some a0)), some (.int x1)] [] T Q) : cA ext X d 9 4 [some (cv X 0 (some a0)), some (.int x1)] [] T Q := by
  intro S hS
  refine aw_ild j9_4 rfl ?_
  refine aw_ald j9_5 rfl (cv_isR _ _ _) ?_
  refine aw_get j9_6 (hS.kd l_1) (hS.i 5 rfl rfl l_1) ?_
  exact aw_ic j9_9 (fun h => k_2 (of_decide_eq_true h) _ hS) (fun h => k_3 (of_decide_eq_false h) _ hS)
theorem bc9_12 {r0 : Option Nat} {x1 : Int32}  (k_1 : cA ext X d 9 22 [some (cv X 0 r0), some (.int x1)] [cv X 8 none] T Q) : cA ext X d 9 12 [some (cv X 0 r0), some (.int x1)] [] T Q := by
  intro S hS
  refine aw_nul j9_12 ?_
  exact aw_goto j9_13 (k_1 _ hS)
theorem bc9_16 {a0 : Nat} {x1 : Int32} {i_2 : Nat} (l_1 : X.2.1 0 a0) (e_3 : x1 = nI i_2) (c_4 : i_2 < 120) (k_5 : cA ext X d 9 22 [some (cv X 0 (some a0)), some (.int x1)] [cv X 8 (T.2 22 a0 i_2)] T Q) : cA ext X d 9 16 [some (cv X 0 (some a0)), some (.int x1)] [] T Q := by
  intro S hS
  refine aw_ald j9_16 rfl (cv_isR _ _ _) ?_
  refine aw_get j9_17 (hS.kd l_1) (hS.f 4 rfl l_1) ?_
  refine aw_ild j9_20 rfl ?_
  refine aw_xld (n := 120) j9_21 (hS.kd (hS.fl (s := 0) 4 rfl l_1)) e_3 c_4 (by decide) (hS.r i_2 rfl (hS.fl (s := 0) 4 rfl l_1)) ?_
  exact k_5 _ hS
theorem bc9_22 {r0 : Option Nat} {x1 : Int32} {rk0 : Option Nat}  (k_1 : ∀ S, cr X T S → Q (some (cv X 8 rk0)) S) : cA ext X d 9 22 [some (cv X 0 r0), some (.int x1)] [cv X 8 rk0] T Q := by
  intro S hS
  exact aw_ret j9_22 (by rw [rt9]; exact (cv_fo _ _ _ _)) (k_1 _ hS)
/-! SM_link -/
theorem bc10_0 {a0 : Nat} {x1 : Int32} {x2 : Int32} {x3 : Int32} {x4 : Int32} {o5 : Option Value} {o6 : Option Value} {o7 : Option Value} {P_2 : Option Nat → cT → Prop} (l_1 : X.2.1 0 a0) (m_5 : cCr ext X 8 d 9 [cv X 0 (some a0), .int x1] T P_2) (k_6 : ∀ v_4 T_3, P_2 v_4 T_3 → cA ext X (d + 1) 10 5 [some (cv X 0 (some a0)), some (.int x1), some (.int x2), some (.int x3), some (.int x4), o5, o6, o7] [cv X 8 v_4] T_3 Q) : cA ext X (d + 1) 10 0 [some (cv X 0 (some a0)), some (.int x1), some (.int x2), some (.int x3), some (.int x4), o5, o6, o7] [] T Q := by
  intro S hS
  refine aw_ald j10_0 rfl (cv_isR _ _ _) ?_
  refine aw_ild j10_1 rfl ?_
  refine aw_callr (as := [cv X 0 (some a0), .int x1]) j10_2 rfl rfl (Nat.le_of_ble_eq_true rfl) cy9.1 cy9.2 (cs_cons rfl (cs_cons rfl cs_nil)) (decide_eq_true (hS.kd l_1)) (m_5 _ hS) (fun v1 S1 h1 => ?_)
  obtain ⟨o1, W1, he, h1, h2⟩ := h1
  subst he
  exact k_6 o1 W1 h2 S1 h1
theorem bc10_5 {a0 : Nat} {x1 : Int32} {x2 : Int32} {x3 : Int32} {x4 : Int32} {o5 : Option Value} {o6 : Option Value} {o7 : Option Value} {rk0 : Option Nat} {P_2 : Option Nat → cT → Prop} (l_1 : X.2.1 0 a0) (m_5 : cCr ext X 6 d 4 [cv X 0 (some a0), .int x2] T P_2) (k_6 : ∀ v_4 T_3, P_2 v_4 T_3 → cA ext X (d + 1) 10 12 [some (cv X 0 (some a0)), some (.int x1), some (.int x2), some (.int x3), some (.int x4), some (cv X 8 rk0), o6, o7] [cv X 6 v_4] T_3 Q) : cA ext X (d + 1) 10 5 [some (cv X 0 (some a0)), some (.int x1), some (.int x2), some (.int x3), some (.int x4), o5, o6, o7] [cv X 8 rk0] T Q := by
  intro S hS
  refine aw_ast j10_5 (cv_isR _ _ _) (Nat.le_of_ble_eq_true rfl) ?_
  refine aw_ald j10_7 rfl (cv_isR _ _ _) ?_
  refine aw_ild j10_8 rfl ?_
  refine aw_callr (as := [cv X 0 (some a0), .int x2]) j10_9 rfl rfl (Nat.le_of_ble_eq_true rfl) cy4.1 cy4.2 (cs_cons rfl (cs_cons rfl cs_nil)) (decide_eq_true (hS.kd l_1)) (m_5 _ hS) (fun v1 S1 h1 => ?_)
  obtain ⟨o1, W1, he, h1, h2⟩ := h1
  subst he
  exact k_6 o1 W1 h2 S1 h1
theorem bc10_12 {r0 : Option Nat} {x1 : Int32} {x2 : Int32} {x3 : Int32} {x4 : Int32} {r5 : Option Nat} {o6 : Option Value} {o7 : Option Value} {rk0 : Option Nat}  (k_2 : r5 = none → cA ext X d 10 24 [some (cv X 0 r0), some (.int x1), some (.int x2), some (.int x3), some (.int x4), some (cv X 8 r5), some (cv X 6 rk0), o7] [] T Q) (k_3 : ∀ c_1, r5 = some c_1 → cA ext X d 10 19 [some (cv X 0 r0), some (.int x1), some (.int x2), some (.int x3), some (.int x4), some (cv X 8 r5), some (cv X 6 rk0), o7] [] T Q) : cA ext X d 10 12 [some (cv X 0 r0), some (.int x1), some (.int x2), some (.int x3), some (.int x4), some (cv X 8 r5), o6, o7] [cv X 6 rk0] T Q := by
  intro S hS
  refine aw_ast j10_12 (cv_isR _ _ _) (Nat.le_of_ble_eq_true rfl) ?_
  refine aw_ald j10_14 rfl (cv_isR _ _ _) ?_
  exact aw_null (r := (r5).map (X.1 8)) j10_16 (fun h => k_2 (cv_none h) _ hS) (fun c h => by obtain ⟨c, hc⟩ := cv_some h; exact k_3 c hc _ hS)
theorem bc10_19 {r0 : Option Nat} {x1 : Int32} {x2 : Int32} {x3 : Int32} {x4 : Int32} {r5 : Option Nat} {r6 : Option Nat} {o7 : Option Value}  (k_2 : r6 = none → cA ext X d 10 24 [some (cv X 0 r0), some (.int x1), some (.int x2), some (.int x3), some (.int x4), some (cv X 8 r5), some (cv X 6 r6), o7] [] T Q) (k_3 : ∀ c_1, r6 = some c_1 → cA ext X d 10 26 [some (cv X 0 r0), some (.int x1), some (.int x2), some (.int x3), some (.int x4), some (cv X 8 r5), some (cv X 6 r6), o7] [] T Q) : cA ext X d 10 19 [some (cv X 0 r0), some (.int x1), some (.int x2), some (.int x3), some (.int x4), some (cv X 8 r5), some (cv X 6 r6), o7] [] T Q := by
  intro S hS
  refine aw_ald j10_19 rfl (cv_isR _ _ _) ?_
  exact aw_nonn (r := (r6).map (X.1 6)) j10_21 (fun h => k_2 (cv_none h) _ hS) (fun c h => by obtain ⟨c, hc⟩ := cv_some h; exact k_3 c hc _ hS)
theorem bc10_24 {r0 : Option Nat} {x1 : Int32} {x2 : Int32} {x3 : Int32} {x4 : Int32} {r5 : Option Nat} {r6 : Option Nat} {o7 : Option Value}  (k_1 : ∀ S, cr X T S → Q (some (.int (-1 : Int32))) S) : cA ext X d 10 24 [some (cv X 0 r0), some (.int x1), some (.int x2), some (.int x3), some (.int x4), some (cv X 8 r5), some (cv X 6 r6), o7] [] T Q := by
  intro S hS
  refine aw_con j10_24 ?_
  exact aw_ret j10_25 (by rw [rt10]; exact rfl) (k_1 _ hS)
theorem bc10_26 {r0 : Option Nat} {x1 : Int32} {x2 : Int32} {x3 : Int32} {x4 : Int32} {r5 : Option Nat} {r6 : Option Nat} {o7 : Option Value}  (k_1 : (x3 < 0) → cA ext X d 10 43 [some (cv X 0 r0), some (.int x1), some (.int x2), some (.int x3), some (.int x4), some (cv X 8 r5), some (cv X 6 r6), o7] [] T Q) (k_2 : (¬ (x3 < 0)) → cA ext X d 10 30 [some (cv X 0 r0), some (.int x1), some (.int x2), some (.int x3), some (.int x4), some (cv X 8 r5), some (cv X 6 r6), o7] [] T Q) : cA ext X d 10 26 [some (cv X 0 r0), some (.int x1), some (.int x2), some (.int x3), some (.int x4), some (cv X 8 r5), some (cv X 6 r6), o7] [] T Q := by
  intro S hS
  refine aw_ild j10_26 rfl ?_
  exact aw_if j10_27 (fun h => k_1 (of_decide_eq_true h) _ hS) (fun h => k_2 (of_decide_eq_false h) _ hS)
theorem bc10_30 {r0 : Option Nat} {x1 : Int32} {x2 : Int32} {x3 : Int32} {x4 : Int32} {r5 : Option Nat} {r6 : Option Nat} {o7 : Option Value}  (k_1 : (x4 ≤ x3) → cA ext X d 10 43 [some (cv X 0 r0), some (.int x1), some (.int x2), some (.int x3), some (.int x4), some (cv X 8 r5), some (cv X 6 r6), o7] [] T Q) (k_2 : (¬ (x4 ≤ x3)) → cA ext X d 10 36 [some (cv X 0 r0), some (.int x1), some (.int x2), some (.int x3), some (.int x4), some (cv X 8 r5), some (cv X 6 r6), o7] [] T Q) : cA ext X d 10 30 [some (cv X 0 r0), some (.int x1), some (.int x2), some (.int x3), some (.int x4), some (cv X 8 r5), some (cv X 6 r6), o7] [] T Q := by
  intro S hS
  refine aw_ild j10_30 rfl ?_
  refine aw_ild j10_32 rfl ?_
  exact aw_ic j10_33 (fun h => k_1 (of_decide_eq_true h) _ hS) (fun h => k_2 (of_decide_eq_false h) _ hS)
theorem bc10_36 {r0 : Option Nat} {x1 : Int32} {x2 : Int32} {x3 : Int32} {x4 : Int32} {r5 : Option Nat} {r6 : Option Nat} {o7 : Option Value}  (k_1 : (x4 ≤ (100000 : Int32)) → cA ext X d 10 46 [some (cv X 0 r0), some (.int x1), some (.int x2), some (.int x3), some (.int x4), some (cv X 8 r5), some (cv X 6 r6), o7] [] T Q) (k_2 : (¬ (x4 ≤ (100000 : Int32))) → cA ext X d 10 43 [some (cv X 0 r0), some (.int x1), some (.int x2), some (.int x3), some (.int x4), some (cv X 8 r5), some (cv X 6 r6), o7] [] T Q) : cA ext X d 10 36 [some (cv X 0 r0), some (.int x1), some (.int x2), some (.int x3), some (.int x4), some (cv X 8 r5), some (cv X 6 r6), o7] [] T Q := by
  intro S hS
  refine aw_ild j10_36 rfl ?_
  refine aw_con j10_38 ?_
  exact aw_ic j10_40 (fun h => k_1 (of_decide_eq_true h) _ hS) (fun h => k_2 (of_decide_eq_false h) _ hS)
theorem bc10_43 {r0 : Option Nat} {x1 : Int32} {x2 : Int32} {x3 : Int32} {x4 : Int32} {r5 : Option Nat} {r6 : Option Nat} {o7 : Option Value}  (k_1 : ∀ S, cr X T S → Q (some (.int (-2 : Int32))) S) : cA ext X d 10 43 [some (cv X 0 r0), some (.int x1), some (.int x2), some (.int x3), some (.int x4), some (cv X 8 r5), some (cv X 6 r6), o7] [] T Q := by
  intro S hS
  refine aw_con j10_43 ?_
  exact aw_ret j10_45 (by rw [rt10]; exact rfl) (k_1 _ hS)
theorem bc10_46 {r0 : Option Nat} {x1 : Int32} {x2 : Int32} {x3 : Int32} {x4 : Int32} {a5 : Nat} {r6 : Option Nat} {o7 : Option Value} (l_1 : X.2.1 8 a5) (k_3 : (T.2 8 a5 9) = none → cA ext X d 10 57 [some (cv X 0 r0), some (.int x1), some (.int x2), some (.int x3), some (.int x4), some (cv X 8 (some a5)), some (cv X 6 r6), o7] [] T Q) (k_4 : ∀ c_2, (T.2 8 a5 9) = some c_2 → cA ext X d 10 54 [some (cv X 0 r0), some (.int x1), some (.int x2), some (.int x3), some (.int x4), some (cv X 8 (some a5)), some (cv X 6 r6), o7] [] T Q) : cA ext X d 10 46 [some (cv X 0 r0), some (.int x1), some (.int x2), some (.int x3), some (.int x4), some (cv X 8 (some a5)), some (cv X 6 r6), o7] [] T Q := by
  intro S hS
  refine aw_ald j10_46 rfl (cv_isR _ _ _) ?_
  refine aw_get j10_48 (hS.kd l_1) (hS.r 9 rfl l_1) ?_
  exact aw_null (r := ((T.2 8 a5 9)).map (X.1 8)) j10_51 (fun h => k_3 (cv_none h) _ hS) (fun c h => by obtain ⟨c, hc⟩ := cv_some h; exact k_4 c hc _ hS)
theorem bc10_54 {r0 : Option Nat} {x1 : Int32} {x2 : Int32} {x3 : Int32} {x4 : Int32} {r5 : Option Nat} {r6 : Option Nat} {o7 : Option Value}  (k_1 : ∀ S, cr X T S → Q (some (.int (-3 : Int32))) S) : cA ext X d 10 54 [some (cv X 0 r0), some (.int x1), some (.int x2), some (.int x3), some (.int x4), some (cv X 8 r5), some (cv X 6 r6), o7] [] T Q := by
  intro S hS
  refine aw_con j10_54 ?_
  exact aw_ret j10_56 (by rw [rt10]; exact rfl) (k_1 _ hS)
theorem bc10_57 {r0 : Option Nat} {x1 : Int32} {x2 : Int32} {x3 : Int32} {x4 : Int32} {a5 : Nat} {r6 : Option Nat} {o7 : Option Value} (l_1 : X.2.1 8 a5) (k_2 : ((T.1 8 a5 5) < (5 : Int32)) → cA ext X d 10 69 [some (cv X 0 r0), some (.int x1), some (.int x2), some (.int x3), some (.int x4), some (cv X 8 (some a5)), some (cv X 6 r6), o7] [] T Q) (k_3 : (¬ ((T.1 8 a5 5) < (5 : Int32))) → cA ext X d 10 66 [some (cv X 0 r0), some (.int x1), some (.int x2), some (.int x3), some (.int x4), some (cv X 8 (some a5)), some (cv X 6 r6), o7] [] T Q) : cA ext X d 10 57 [some (cv X 0 r0), some (.int x1), some (.int x2), some (.int x3), some (.int x4), some (cv X 8 (some a5)), some (cv X 6 r6), o7] [] T Q := by
  intro S hS
  refine aw_ald j10_57 rfl (cv_isR _ _ _) ?_
  refine aw_get j10_59 (hS.kd l_1) (hS.i 5 rfl rfl l_1) ?_
  refine aw_con j10_62 ?_
  exact aw_ic j10_63 (fun h => k_2 (of_decide_eq_true h) _ hS) (fun h => k_3 (of_decide_eq_false h) _ hS)
theorem bc10_66 {r0 : Option Nat} {x1 : Int32} {x2 : Int32} {x3 : Int32} {x4 : Int32} {r5 : Option Nat} {r6 : Option Nat} {o7 : Option Value}  (k_1 : ∀ S, cr X T S → Q (some (.int (-4 : Int32))) S) : cA ext X d 10 66 [some (cv X 0 r0), some (.int x1), some (.int x2), some (.int x3), some (.int x4), some (cv X 8 r5), some (cv X 6 r6), o7] [] T Q := by
  intro S hS
  refine aw_con j10_66 ?_
  exact aw_ret j10_68 (by rw [rt10]; exact rfl) (k_1 _ hS)
theorem bc10_83 {r0 : Option Nat} {x1 : Int32} {x2 : Int32} {x3 : Int32} {x4 : Int32} {a5 : Nat} {a6 : Nat} {o7 : Option Value} {rk0 : Option Nat} {i_3 : Nat} {P_7 : cT → Prop} (l_1 : X.2.1 8 a5) (l_2 : X.2.1 6 a6) (e_4 : (T.1 8 a5 5) = nI i_3) (c_5 : i_3 < 5) (l_6 : ∀ j, rk0 = some j → X.2.1 9 j) (m_10 : cCv ext X d 46 [cv X 6 (some a6), cv X 9 rk0] (iset (oset T 34 a5 i_3 rk0) 8 a5 5 (((oset T 34 a5 i_3 rk0).1 8 a5 5) + (1 : Int32))) P_7) (k_11 : ∀ T_8, P_7 T_8 → cA ext X (d + 1) 10 116 [some (cv X 0 r0), some (.int x1), some (.int x2), some (.int x3), some (.int x4), some (cv X 8 (some a5)), some (cv X 6 (some a6)), some (cv X 9 rk0)] [] T_8 Q) : cA ext X (d + 1) 10 83 [some (cv X 0 r0), some (.int x1), some (.int x2), some (.int x3), some (.int x4), some (cv X 8 (some a5)), some (cv X 6 (some a6)), o7] [cv X 9 rk0] T Q := by
  intro S hS
  refine aw_ast j10_83 (cv_isR _ _ _) (Nat.le_of_ble_eq_true rfl) ?_
  refine aw_ald j10_85 rfl (cv_isR _ _ _) ?_
  refine aw_get j10_87 (hS.kd l_1) (hS.f 4 rfl l_1) ?_
  refine aw_ald j10_90 rfl (cv_isR _ _ _) ?_
  refine aw_get j10_92 (hS.kd l_1) (hS.i 5 rfl rfl l_1) ?_
  refine aw_ald j10_95 rfl (cv_isR _ _ _) ?_
  refine aw_ast2 (n := 5) (r := (rk0).map (X.1 9)) j10_97 (hS.kd (hS.fl (s := 8) 4 rfl l_1)) e_4 c_5 (by decide) (hS.tv l_6) ?_
  have hS := hS.setr (s := 34) i_3 rk0 rfl rfl (hS.fl (s := 8) 4 rfl l_1) l_6
  refine aw_ald j10_98 rfl (cv_isR _ _ _) ?_
  refine aw_dup j10_100 rfl ?_
  refine aw_get j10_101 (hS.kd l_1) (hS.i 5 rfl rfl l_1) ?_
  refine aw_con j10_104 ?_
  refine aw_bin (z := (((oset T 34 a5 i_3 rk0).1 8 a5 5) + (1 : Int32))) j10_105 rfl ?_
  refine aw_put j10_106 (hS.kd l_1) rfl ?_
  have hS := hS.seti (s := 8) 5 (((oset T 34 a5 i_3 rk0).1 8 a5 5) + (1 : Int32)) rfl rfl l_1
  refine aw_ald j10_109 rfl (cv_isR _ _ _) ?_
  refine aw_ald j10_111 rfl (cv_isR _ _ _) ?_
  refine aw_callv (as := [cv X 6 (some a6), cv X 9 rk0]) j10_113 rfl rfl (Nat.le_of_ble_eq_true rfl) cy46.1 cy46.2 (cs_cons rfl (cs_cons (cv_cat _ _ _) cs_nil)) (decide_eq_true (hS.kd l_2)) (m_10 _ hS) (fun S1 h1 => ?_)
  obtain ⟨W1, h1, h2⟩ := h1
  exact k_11 W1 h2 S1 h1
theorem bc10_116 {r0 : Option Nat} {x1 : Int32} {x2 : Int32} {x3 : Int32} {x4 : Int32} {a5 : Nat} {r6 : Option Nat} {r7 : Option Nat} (l_1 : X.2.1 8 a5) (k_2 : ∀ S, cr X T S → Q (some (.int (T.1 8 a5 5))) S) : cA ext X d 10 116 [some (cv X 0 r0), some (.int x1), some (.int x2), some (.int x3), some (.int x4), some (cv X 8 (some a5)), some (cv X 6 r6), some (cv X 9 r7)] [] T Q := by
  intro S hS
  refine aw_ald j10_116 rfl (cv_isR _ _ _) ?_
  refine aw_get j10_118 (hS.kd l_1) (hS.i 5 rfl rfl l_1) ?_
  exact aw_ret j10_121 (by rw [rt10]; exact rfl) (k_2 _ hS)
/-! SM_repeat -/
theorem bc11_0 {a0 : Nat} {x1 : Int32} {x2 : Int32} {o3 : Option Value} {o4 : Option Value} {P_2 : Option Nat → cT → Prop} (l_1 : X.2.1 0 a0) (m_5 : cCr ext X 8 d 9 [cv X 0 (some a0), .int x1] T P_2) (k_6 : ∀ v_4 T_3, P_2 v_4 T_3 → cA ext X (d + 1) 11 5 [some (cv X 0 (some a0)), some (.int x1), some (.int x2), o3, o4] [cv X 8 v_4] T_3 Q) : cA ext X (d + 1) 11 0 [some (cv X 0 (some a0)), some (.int x1), some (.int x2), o3, o4] [] T Q := by
  intro S hS
  refine aw_ald j11_0 rfl (cv_isR _ _ _) ?_
  refine aw_ild j11_1 rfl ?_
  refine aw_callr (as := [cv X 0 (some a0), .int x1]) j11_2 rfl rfl (Nat.le_of_ble_eq_true rfl) cy9.1 cy9.2 (cs_cons rfl (cs_cons rfl cs_nil)) (decide_eq_true (hS.kd l_1)) (m_5 _ hS) (fun v1 S1 h1 => ?_)
  obtain ⟨o1, W1, he, h1, h2⟩ := h1
  subst he
  exact k_6 o1 W1 h2 S1 h1
theorem bc11_5 {a0 : Nat} {x1 : Int32} {x2 : Int32} {o3 : Option Value} {o4 : Option Value} {rk0 : Option Nat} {P_2 : Option Nat → cT → Prop} (l_1 : X.2.1 0 a0) (m_5 : cCr ext X 8 d 9 [cv X 0 (some a0), .int x2] T P_2) (k_6 : ∀ v_4 T_3, P_2 v_4 T_3 → cA ext X (d + 1) 11 11 [some (cv X 0 (some a0)), some (.int x1), some (.int x2), some (cv X 8 rk0), o4] [cv X 8 v_4] T_3 Q) : cA ext X (d + 1) 11 5 [some (cv X 0 (some a0)), some (.int x1), some (.int x2), o3, o4] [cv X 8 rk0] T Q := by
  intro S hS
  refine aw_ast j11_5 (cv_isR _ _ _) (Nat.le_of_ble_eq_true rfl) ?_
  refine aw_ald j11_6 rfl (cv_isR _ _ _) ?_
  refine aw_ild j11_7 rfl ?_
  refine aw_callr (as := [cv X 0 (some a0), .int x2]) j11_8 rfl rfl (Nat.le_of_ble_eq_true rfl) cy9.1 cy9.2 (cs_cons rfl (cs_cons rfl cs_nil)) (decide_eq_true (hS.kd l_1)) (m_5 _ hS) (fun v1 S1 h1 => ?_)
  obtain ⟨o1, W1, he, h1, h2⟩ := h1
  subst he
  exact k_6 o1 W1 h2 S1 h1
theorem bc11_11 {r0 : Option Nat} {x1 : Int32} {x2 : Int32} {r3 : Option Nat} {o4 : Option Value} {rk0 : Option Nat}  (k_2 : r3 = none → cA ext X d 11 22 [some (cv X 0 r0), some (.int x1), some (.int x2), some (cv X 8 r3), some (cv X 8 rk0)] [] T Q) (k_3 : ∀ c_1, r3 = some c_1 → cA ext X d 11 17 [some (cv X 0 r0), some (.int x1), some (.int x2), some (cv X 8 r3), some (cv X 8 rk0)] [] T Q) : cA ext X d 11 11 [some (cv X 0 r0), some (.int x1), some (.int x2), some (cv X 8 r3), o4] [cv X 8 rk0] T Q := by
  intro S hS
  refine aw_ast j11_11 (cv_isR _ _ _) (Nat.le_of_ble_eq_true rfl) ?_
  refine aw_ald j11_13 rfl (cv_isR _ _ _) ?_
  exact aw_null (r := (r3).map (X.1 8)) j11_14 (fun h => k_2 (cv_none h) _ hS) (fun c h => by obtain ⟨c, hc⟩ := cv_some h; exact k_3 c hc _ hS)
theorem bc11_17 {r0 : Option Nat} {x1 : Int32} {x2 : Int32} {r3 : Option Nat} {r4 : Option Nat}  (k_2 : r4 = none → cA ext X d 11 22 [some (cv X 0 r0), some (.int x1), some (.int x2), some (cv X 8 r3), some (cv X 8 r4)] [] T Q) (k_3 : ∀ c_1, r4 = some c_1 → cA ext X d 11 24 [some (cv X 0 r0), some (.int x1), some (.int x2), some (cv X 8 r3), some (cv X 8 r4)] [] T Q) : cA ext X d 11 17 [some (cv X 0 r0), some (.int x1), some (.int x2), some (cv X 8 r3), some (cv X 8 r4)] [] T Q := by
  intro S hS
  refine aw_ald j11_17 rfl (cv_isR _ _ _) ?_
  exact aw_nonn (r := (r4).map (X.1 8)) j11_19 (fun h => k_2 (cv_none h) _ hS) (fun c h => by obtain ⟨c, hc⟩ := cv_some h; exact k_3 c hc _ hS)
theorem bc11_22 {r0 : Option Nat} {x1 : Int32} {x2 : Int32} {r3 : Option Nat} {r4 : Option Nat}  (k_1 : ∀ S, cr X T S → Q (some (.int (-1 : Int32))) S) : cA ext X d 11 22 [some (cv X 0 r0), some (.int x1), some (.int x2), some (cv X 8 r3), some (cv X 8 r4)] [] T Q := by
  intro S hS
  refine aw_con j11_22 ?_
  exact aw_ret j11_23 (by rw [rt11]; exact rfl) (k_1 _ hS)
theorem bc11_24 {r0 : Option Nat} {x1 : Int32} {x2 : Int32} {a3 : Nat} {r4 : Option Nat} {P_2 : Int32 → cT → Prop} (l_1 : X.2.1 8 a3) (m_5 : cCi ext X d 53 [cv X 8 (some a3)] T P_2) (k_6 : ∀ v_4 T_3, P_2 v_4 T_3 → cA ext X (d + 1) 11 28 [some (cv X 0 r0), some (.int x1), some (.int x2), some (cv X 8 (some a3)), some (cv X 8 r4)] [.int v_4] T_3 Q) : cA ext X (d + 1) 11 24 [some (cv X 0 r0), some (.int x1), some (.int x2), some (cv X 8 (some a3)), some (cv X 8 r4)] [] T Q := by
  intro S hS
  refine aw_ald j11_24 rfl (cv_isR _ _ _) ?_
  refine aw_calli (as := [cv X 8 (some a3)]) j11_25 rfl rfl (Nat.le_of_ble_eq_true rfl) cy53.1 cy53.2 (cs_cons rfl cs_nil) (decide_eq_true (hS.kd l_1)) (m_5 _ hS) (fun v1 S1 h1 => ?_)
  obtain ⟨W1, h1, h2⟩ := h1
  exact k_6 v1 W1 h2 S1 h1
theorem bc11_28 {r0 : Option Nat} {x1 : Int32} {x2 : Int32} {r3 : Option Nat} {r4 : Option Nat} {xk0 : Int32}  (k_1 : (xk0 = 0) → cA ext X d 11 43 [some (cv X 0 r0), some (.int x1), some (.int x2), some (cv X 8 r3), some (cv X 8 r4)] [] T Q) (k_2 : (¬ (xk0 = 0)) → cA ext X d 11 31 [some (cv X 0 r0), some (.int x1), some (.int x2), some (cv X 8 r3), some (cv X 8 r4)] [] T Q) : cA ext X d 11 28 [some (cv X 0 r0), some (.int x1), some (.int x2), some (cv X 8 r3), some (cv X 8 r4)] [.int xk0] T Q := by
  intro S hS
  exact aw_if j11_28 (fun h => k_1 (of_decide_eq_true h) _ hS) (fun h => k_2 (of_decide_eq_false h) _ hS)
theorem bc11_31 {r0 : Option Nat} {x1 : Int32} {x2 : Int32} {a3 : Nat} {a4 : Nat} (l_1 : X.2.1 8 a3) (l_2 : X.2.1 8 a4) (k_3 : ((T.1 8 a3 1) = (T.1 8 a4 1)) → cA ext X d 11 46 [some (cv X 0 r0), some (.int x1), some (.int x2), some (cv X 8 (some a3)), some (cv X 8 (some a4))] [] T Q) (k_4 : (¬ ((T.1 8 a3 1) = (T.1 8 a4 1))) → cA ext X d 11 43 [some (cv X 0 r0), some (.int x1), some (.int x2), some (cv X 8 (some a3)), some (cv X 8 (some a4))] [] T Q) : cA ext X d 11 31 [some (cv X 0 r0), some (.int x1), some (.int x2), some (cv X 8 (some a3)), some (cv X 8 (some a4))] [] T Q := by
  intro S hS
  refine aw_ald j11_31 rfl (cv_isR _ _ _) ?_
  refine aw_get j11_32 (hS.kd l_1) (hS.i 1 rfl rfl l_1) ?_
  refine aw_ald j11_35 rfl (cv_isR _ _ _) ?_
  refine aw_get j11_37 (hS.kd l_2) (hS.i 1 rfl rfl l_2) ?_
  exact aw_ic j11_40 (fun h => k_3 (of_decide_eq_true h) _ hS) (fun h => k_4 (of_decide_eq_false h) _ hS)
theorem bc11_43 {r0 : Option Nat} {x1 : Int32} {x2 : Int32} {r3 : Option Nat} {r4 : Option Nat}  (k_1 : ∀ S, cr X T S → Q (some (.int (-3 : Int32))) S) : cA ext X d 11 43 [some (cv X 0 r0), some (.int x1), some (.int x2), some (cv X 8 r3), some (cv X 8 r4)] [] T Q := by
  intro S hS
  refine aw_con j11_43 ?_
  exact aw_ret j11_45 (by rw [rt11]; exact rfl) (k_1 _ hS)
theorem bc11_46 {a0 : Nat} {x1 : Int32} {x2 : Int32} {r3 : Option Nat} {r4 : Option Nat} {P_2 : Int32 → cT → Prop} (l_1 : X.2.1 0 a0) (m_5 : cCi ext X d 25 [cv X 1 (some a0), cv X 8 r4, cv X 8 r3] T P_2) (k_6 : ∀ v_4 T_3, P_2 v_4 T_3 → cA ext X (d + 1) 11 56 [some (cv X 0 (some a0)), some (.int x1), some (.int x2), some (cv X 8 r3), some (cv X 8 r4)] [.int v_4] T_3 Q) : cA ext X (d + 1) 11 46 [some (cv X 0 (some a0)), some (.int x1), some (.int x2), some (cv X 8 r3), some (cv X 8 r4)] [] T Q := by
  intro S hS
  refine aw_ald j11_46 rfl (cv_isR _ _ _) ?_
  refine aw_get j11_47 (hS.kd l_1) (hS.f 6 rfl l_1) ?_
  refine aw_ald j11_50 rfl (cv_isR _ _ _) ?_
  refine aw_ald j11_52 rfl (cv_isR _ _ _) ?_
  refine aw_calli (as := [cv X 1 (some a0), cv X 8 r4, cv X 8 r3]) j11_53 rfl rfl (Nat.le_of_ble_eq_true rfl) cy25.1 cy25.2 (cs_cons rfl (cs_cons (cv_cat _ _ _) (cs_cons (cv_cat _ _ _) cs_nil))) (decide_eq_true (hS.kd (hS.fl (s := 0) 6 rfl l_1))) (m_5 _ hS) (fun v1 S1 h1 => ?_)
  obtain ⟨W1, h1, h2⟩ := h1
  exact k_6 v1 W1 h2 S1 h1
theorem bc11_56 {r0 : Option Nat} {x1 : Int32} {x2 : Int32} {r3 : Option Nat} {r4 : Option Nat} {xk0 : Int32}  (k_1 : (xk0 = 0) → cA ext X d 11 62 [some (cv X 0 r0), some (.int x1), some (.int x2), some (cv X 8 r3), some (cv X 8 r4)] [] T Q) (k_2 : (¬ (xk0 = 0)) → cA ext X d 11 59 [some (cv X 0 r0), some (.int x1), some (.int x2), some (cv X 8 r3), some (cv X 8 r4)] [] T Q) : cA ext X d 11 56 [some (cv X 0 r0), some (.int x1), some (.int x2), some (cv X 8 r3), some (cv X 8 r4)] [.int xk0] T Q := by
  intro S hS
  exact aw_if j11_56 (fun h => k_1 (of_decide_eq_true h) _ hS) (fun h => k_2 (of_decide_eq_false h) _ hS)
theorem bc11_59 {r0 : Option Nat} {x1 : Int32} {x2 : Int32} {r3 : Option Nat} {r4 : Option Nat}  (k_1 : ∀ S, cr X T S → Q (some (.int (-3 : Int32))) S) : cA ext X d 11 59 [some (cv X 0 r0), some (.int x1), some (.int x2), some (cv X 8 r3), some (cv X 8 r4)] [] T Q := by
  intro S hS
  refine aw_con j11_59 ?_
  exact aw_ret j11_61 (by rw [rt11]; exact rfl) (k_1 _ hS)
theorem bc11_62 {r0 : Option Nat} {x1 : Int32} {x2 : Int32} {a3 : Nat} {r4 : Option Nat} (l_1 : X.2.1 8 a3) (l_2 : ∀ j, r4 = some j → X.2.1 8 j) (k_3 : ∀ S, cr X (oset T 8 a3 9 r4) S → Q (some (.int (1 : Int32))) S) : cA ext X d 11 62 [some (cv X 0 r0), some (.int x1), some (.int x2), some (cv X 8 (some a3)), some (cv X 8 r4)] [] T Q := by
  intro S hS
  refine aw_ald j11_62 rfl (cv_isR _ _ _) ?_
  refine aw_ald j11_63 rfl (cv_isR _ _ _) ?_
  refine aw_put j11_65 (hS.kd l_1) (cv_fo _ X 8 r4) ?_
  have hS := hS.setr (s := 8) 9 r4 rfl rfl l_1 l_2
  refine aw_con j11_68 ?_
  exact aw_ret j11_69 (by rw [rt11]; exact rfl) (k_3 _ hS)
/-! SM_move -/
theorem bc12_0 {a0 : Nat} {x1 : Int32} {x2 : Int32} {o3 : Option Value} {o4 : Option Value} {o5 : Option Value} {P_2 : Option Nat → cT → Prop} (l_1 : X.2.1 0 a0) (m_5 : cCr ext X 8 d 9 [cv X 0 (some a0), .int x1] T P_2) (k_6 : ∀ v_4 T_3, P_2 v_4 T_3 → cA ext X (d + 1) 12 5 [some (cv X 0 (some a0)), some (.int x1), some (.int x2), o3, o4, o5] [cv X 8 v_4] T_3 Q) : cA ext X (d + 1) 12 0 [some (cv X 0 (some a0)), some (.int x1), some (.int x2), o3, o4, o5] [] T Q := by
  intro S hS
  refine aw_ald j12_0 rfl (cv_isR _ _ _) ?_
  refine aw_ild j12_1 rfl ?_
  refine aw_callr (as := [cv X 0 (some a0), .int x1]) j12_2 rfl rfl (Nat.le_of_ble_eq_true rfl) cy9.1 cy9.2 (cs_cons rfl (cs_cons rfl cs_nil)) (decide_eq_true (hS.kd l_1)) (m_5 _ hS) (fun v1 S1 h1 => ?_)
  obtain ⟨o1, W1, he, h1, h2⟩ := h1
  subst he
  exact k_6 o1 W1 h2 S1 h1
theorem bc12_5 {r0 : Option Nat} {x1 : Int32} {x2 : Int32} {o3 : Option Value} {o4 : Option Value} {o5 : Option Value} {rk0 : Option Nat}  (k_2 : rk0 = none → cA ext X d 12 10 [some (cv X 0 r0), some (.int x1), some (.int x2), some (cv X 8 rk0), o4, o5] [] T Q) (k_3 : ∀ c_1, rk0 = some c_1 → cA ext X d 12 12 [some (cv X 0 r0), some (.int x1), some (.int x2), some (cv X 8 rk0), o4, o5] [] T Q) : cA ext X d 12 5 [some (cv X 0 r0), some (.int x1), some (.int x2), o3, o4, o5] [cv X 8 rk0] T Q := by
  intro S hS
  refine aw_ast j12_5 (cv_isR _ _ _) (Nat.le_of_ble_eq_true rfl) ?_
  refine aw_ald j12_6 rfl (cv_isR _ _ _) ?_
  exact aw_nonn (r := (rk0).map (X.1 8)) j12_7 (fun h => k_2 (cv_none h) _ hS) (fun c h => by obtain ⟨c, hc⟩ := cv_some h; exact k_3 c hc _ hS)
theorem bc12_10 {r0 : Option Nat} {x1 : Int32} {x2 : Int32} {r3 : Option Nat} {o4 : Option Value} {o5 : Option Value}  (k_1 : ∀ S, cr X T S → Q (some (.int (-1 : Int32))) S) : cA ext X d 12 10 [some (cv X 0 r0), some (.int x1), some (.int x2), some (cv X 8 r3), o4, o5] [] T Q := by
  intro S hS
  refine aw_con j12_10 ?_
  exact aw_ret j12_11 (by rw [rt12]; exact rfl) (k_1 _ hS)
theorem bc12_12 {a0 : Nat} {x1 : Int32} {x2 : Int32} {a3 : Nat} {o4 : Option Value} {o5 : Option Value} {P_3 : Option Nat → cT → Prop} (l_1 : X.2.1 0 a0) (l_2 : X.2.1 8 a3) (m_6 : cCr ext X 7 d 7 [cv X 0 (some a0), .int (T.1 8 a3 1)] T P_3) (k_7 : ∀ v_5 T_4, P_3 v_5 T_4 → cA ext X (d + 1) 12 20 [some (cv X 0 (some a0)), some (.int x1), some (.int x2), some (cv X 8 (some a3)), o4, o5] [cv X 7 v_5] T_4 Q) : cA ext X (d + 1) 12 12 [some (cv X 0 (some a0)), some (.int x1), some (.int x2), some (cv X 8 (some a3)), o4, o5] [] T Q := by
  intro S hS
  refine aw_ald j12_12 rfl (cv_isR _ _ _) ?_
  refine aw_ald j12_13 rfl (cv_isR _ _ _) ?_
  refine aw_get j12_14 (hS.kd l_2) (hS.i 1 rfl rfl l_2) ?_
  refine aw_callr (as := [cv X 0 (some a0), .int (T.1 8 a3 1)]) j12_17 rfl rfl (Nat.le_of_ble_eq_true rfl) cy7.1 cy7.2 (cs_cons rfl (cs_cons rfl cs_nil)) (decide_eq_true (hS.kd l_1)) (m_6 _ hS) (fun v1 S1 h1 => ?_)
  obtain ⟨o1, W1, he, h1, h2⟩ := h1
  subst he
  exact k_7 o1 W1 h2 S1 h1
theorem bc12_20 {r0 : Option Nat} {x1 : Int32} {x2 : Int32} {r3 : Option Nat} {o4 : Option Value} {o5 : Option Value} {rk0 : Option Nat}  (k_2 : rk0 = none → cA ext X d 12 27 [some (cv X 0 r0), some (.int x1), some (.int x2), some (cv X 8 r3), some (cv X 7 rk0), o5] [] T Q) (k_3 : ∀ c_1, rk0 = some c_1 → cA ext X d 12 29 [some (cv X 0 r0), some (.int x1), some (.int x2), some (cv X 8 r3), some (cv X 7 rk0), o5] [] T Q) : cA ext X d 12 20 [some (cv X 0 r0), some (.int x1), some (.int x2), some (cv X 8 r3), o4, o5] [cv X 7 rk0] T Q := by
  intro S hS
  refine aw_ast j12_20 (cv_isR _ _ _) (Nat.le_of_ble_eq_true rfl) ?_
  refine aw_ald j12_22 rfl (cv_isR _ _ _) ?_
  exact aw_nonn (r := (rk0).map (X.1 7)) j12_24 (fun h => k_2 (cv_none h) _ hS) (fun c h => by obtain ⟨c, hc⟩ := cv_some h; exact k_3 c hc _ hS)
theorem bc12_27 {r0 : Option Nat} {x1 : Int32} {x2 : Int32} {r3 : Option Nat} {r4 : Option Nat} {o5 : Option Value}  (k_1 : ∀ S, cr X T S → Q (some (.int (-1 : Int32))) S) : cA ext X d 12 27 [some (cv X 0 r0), some (.int x1), some (.int x2), some (cv X 8 r3), some (cv X 7 r4), o5] [] T Q := by
  intro S hS
  refine aw_con j12_27 ?_
  exact aw_ret j12_28 (by rw [rt12]; exact rfl) (k_1 _ hS)
theorem bc12_29 {a0 : Nat} {x1 : Int32} {x2 : Int32} {r3 : Option Nat} {r4 : Option Nat} {o5 : Option Value} {P_2 : Option Nat → cT → Prop} (l_1 : X.2.1 0 a0) (m_5 : cCr ext X 8 d 8 [cv X 0 (some a0), cv X 7 r4, .int x2] T P_2) (k_6 : ∀ v_4 T_3, P_2 v_4 T_3 → cA ext X (d + 1) 12 36 [some (cv X 0 (some a0)), some (.int x1), some (.int x2), some (cv X 8 r3), some (cv X 7 r4), o5] [cv X 8 v_4] T_3 Q) : cA ext X (d + 1) 12 29 [some (cv X 0 (some a0)), some (.int x1), some (.int x2), some (cv X 8 r3), some (cv X 7 r4), o5] [] T Q := by
  intro S hS
  refine aw_ald j12_29 rfl (cv_isR _ _ _) ?_
  refine aw_ald j12_30 rfl (cv_isR _ _ _) ?_
  refine aw_ild j12_32 rfl ?_
  refine aw_callr (as := [cv X 0 (some a0), cv X 7 r4, .int x2]) j12_33 rfl rfl (Nat.le_of_ble_eq_true rfl) cy8.1 cy8.2 (cs_cons rfl (cs_cons (cv_cat _ _ _) (cs_cons rfl cs_nil))) (decide_eq_true (hS.kd l_1)) (m_5 _ hS) (fun v1 S1 h1 => ?_)
  obtain ⟨o1, W1, he, h1, h2⟩ := h1
  subst he
  exact k_6 o1 W1 h2 S1 h1
theorem bc12_36 {r0 : Option Nat} {x1 : Int32} {x2 : Int32} {r3 : Option Nat} {r4 : Option Nat} {o5 : Option Value} {rk0 : Option Nat}  (k_2 : rk0 = none → cA ext X d 12 43 [some (cv X 0 r0), some (.int x1), some (.int x2), some (cv X 8 r3), some (cv X 7 r4), some (cv X 8 rk0)] [] T Q) (k_3 : ∀ c_1, rk0 = some c_1 → cA ext X d 12 45 [some (cv X 0 r0), some (.int x1), some (.int x2), some (cv X 8 r3), some (cv X 7 r4), some (cv X 8 rk0)] [] T Q) : cA ext X d 12 36 [some (cv X 0 r0), some (.int x1), some (.int x2), some (cv X 8 r3), some (cv X 7 r4), o5] [cv X 8 rk0] T Q := by
  intro S hS
  refine aw_ast j12_36 (cv_isR _ _ _) (Nat.le_of_ble_eq_true rfl) ?_
  refine aw_ald j12_38 rfl (cv_isR _ _ _) ?_
  exact aw_nonn (r := (rk0).map (X.1 8)) j12_40 (fun h => k_2 (cv_none h) _ hS) (fun c h => by obtain ⟨c, hc⟩ := cv_some h; exact k_3 c hc _ hS)
theorem bc12_43 {r0 : Option Nat} {x1 : Int32} {x2 : Int32} {r3 : Option Nat} {r4 : Option Nat} {r5 : Option Nat}  (k_1 : ∀ S, cr X T S → Q (some (.int (-1 : Int32))) S) : cA ext X d 12 43 [some (cv X 0 r0), some (.int x1), some (.int x2), some (cv X 8 r3), some (cv X 7 r4), some (cv X 8 r5)] [] T Q := by
  intro S hS
  refine aw_con j12_43 ?_
  exact aw_ret j12_44 (by rw [rt12]; exact rfl) (k_1 _ hS)
theorem bc12_45 {r0 : Option Nat} {x1 : Int32} {x2 : Int32} {a3 : Nat} {r4 : Option Nat} {a5 : Nat} (l_1 : X.2.1 8 a3) (l_2 : X.2.1 8 a5) (k_3 : (¬ (T.1 8 a5 1) = (T.1 8 a3 1)) → cA ext X d 12 65 [some (cv X 0 r0), some (.int x1), some (.int x2), some (cv X 8 (some a3)), some (cv X 7 r4), some (cv X 8 (some a5))] [] T Q) (k_4 : ((T.1 8 a5 1) = (T.1 8 a3 1)) → cA ext X d 12 57 [some (cv X 0 r0), some (.int x1), some (.int x2), some (cv X 8 (some a3)), some (cv X 7 r4), some (cv X 8 (some a5))] [] T Q) : cA ext X d 12 45 [some (cv X 0 r0), some (.int x1), some (.int x2), some (cv X 8 (some a3)), some (cv X 7 r4), some (cv X 8 (some a5))] [] T Q := by
  intro S hS
  refine aw_ald j12_45 rfl (cv_isR _ _ _) ?_
  refine aw_get j12_47 (hS.kd l_2) (hS.i 1 rfl rfl l_2) ?_
  refine aw_ald j12_50 rfl (cv_isR _ _ _) ?_
  refine aw_get j12_51 (hS.kd l_1) (hS.i 1 rfl rfl l_1) ?_
  exact aw_ic j12_54 (fun h => k_3 (of_decide_eq_true h) _ hS) (fun h => k_4 (Decidable.of_not_not (of_decide_eq_false h)) _ hS)
theorem bc12_57 {r0 : Option Nat} {x1 : Int32} {x2 : Int32} {r3 : Option Nat} {r4 : Option Nat} {a5 : Nat} (l_1 : X.2.1 8 a5) (k_3 : (T.2 8 a5 9) = none → cA ext X d 12 68 [some (cv X 0 r0), some (.int x1), some (.int x2), some (cv X 8 r3), some (cv X 7 r4), some (cv X 8 (some a5))] [] T Q) (k_4 : ∀ c_2, (T.2 8 a5 9) = some c_2 → cA ext X d 12 65 [some (cv X 0 r0), some (.int x1), some (.int x2), some (cv X 8 r3), some (cv X 7 r4), some (cv X 8 (some a5))] [] T Q) : cA ext X d 12 57 [some (cv X 0 r0), some (.int x1), some (.int x2), some (cv X 8 r3), some (cv X 7 r4), some (cv X 8 (some a5))] [] T Q := by
  intro S hS
  refine aw_ald j12_57 rfl (cv_isR _ _ _) ?_
  refine aw_get j12_59 (hS.kd l_1) (hS.r 9 rfl l_1) ?_
  exact aw_null (r := ((T.2 8 a5 9)).map (X.1 8)) j12_62 (fun h => k_3 (cv_none h) _ hS) (fun c h => by obtain ⟨c, hc⟩ := cv_some h; exact k_4 c hc _ hS)
theorem bc12_65 {r0 : Option Nat} {x1 : Int32} {x2 : Int32} {r3 : Option Nat} {r4 : Option Nat} {r5 : Option Nat}  (k_1 : ∀ S, cr X T S → Q (some (.int (-3 : Int32))) S) : cA ext X d 12 65 [some (cv X 0 r0), some (.int x1), some (.int x2), some (cv X 8 r3), some (cv X 7 r4), some (cv X 8 r5)] [] T Q := by
  intro S hS
  refine aw_con j12_65 ?_
  exact aw_ret j12_67 (by rw [rt12]; exact rfl) (k_1 _ hS)
theorem bc12_68 {a0 : Nat} {x1 : Int32} {x2 : Int32} {r3 : Option Nat} {r4 : Option Nat} {r5 : Option Nat} {P_2 : Int32 → cT → Prop} (l_1 : X.2.1 0 a0) (m_5 : cCi ext X d 25 [cv X 1 (some a0), cv X 8 r3, cv X 8 r5] T P_2) (k_6 : ∀ v_4 T_3, P_2 v_4 T_3 → cA ext X (d + 1) 12 78 [some (cv X 0 (some a0)), some (.int x1), some (.int x2), some (cv X 8 r3), some (cv X 7 r4), some (cv X 8 r5)] [.int v_4] T_3 Q) : cA ext X (d + 1) 12 68 [some (cv X 0 (some a0)), some (.int x1), some (.int x2), some (cv X 8 r3), some (cv X 7 r4), some (cv X 8 r5)] [] T Q := by
  intro S hS
  refine aw_ald j12_68 rfl (cv_isR _ _ _) ?_
  refine aw_get j12_69 (hS.kd l_1) (hS.f 6 rfl l_1) ?_
  refine aw_ald j12_72 rfl (cv_isR _ _ _) ?_
  refine aw_ald j12_73 rfl (cv_isR _ _ _) ?_
  refine aw_calli (as := [cv X 1 (some a0), cv X 8 r3, cv X 8 r5]) j12_75 rfl rfl (Nat.le_of_ble_eq_true rfl) cy25.1 cy25.2 (cs_cons rfl (cs_cons (cv_cat _ _ _) (cs_cons (cv_cat _ _ _) cs_nil))) (decide_eq_true (hS.kd (hS.fl (s := 0) 6 rfl l_1))) (m_5 _ hS) (fun v1 S1 h1 => ?_)
  obtain ⟨W1, h1, h2⟩ := h1
  exact k_6 v1 W1 h2 S1 h1
theorem bc12_78 {r0 : Option Nat} {x1 : Int32} {x2 : Int32} {r3 : Option Nat} {r4 : Option Nat} {r5 : Option Nat} {xk0 : Int32}  (k_1 : (xk0 = 0) → cA ext X d 12 84 [some (cv X 0 r0), some (.int x1), some (.int x2), some (cv X 8 r3), some (cv X 7 r4), some (cv X 8 r5)] [] T Q) (k_2 : (¬ (xk0 = 0)) → cA ext X d 12 81 [some (cv X 0 r0), some (.int x1), some (.int x2), some (cv X 8 r3), some (cv X 7 r4), some (cv X 8 r5)] [] T Q) : cA ext X d 12 78 [some (cv X 0 r0), some (.int x1), some (.int x2), some (cv X 8 r3), some (cv X 7 r4), some (cv X 8 r5)] [.int xk0] T Q := by
  intro S hS
  exact aw_if j12_78 (fun h => k_1 (of_decide_eq_true h) _ hS) (fun h => k_2 (of_decide_eq_false h) _ hS)
theorem bc12_81 {r0 : Option Nat} {x1 : Int32} {x2 : Int32} {r3 : Option Nat} {r4 : Option Nat} {r5 : Option Nat}  (k_1 : ∀ S, cr X T S → Q (some (.int (-3 : Int32))) S) : cA ext X d 12 81 [some (cv X 0 r0), some (.int x1), some (.int x2), some (cv X 8 r3), some (cv X 7 r4), some (cv X 8 r5)] [] T Q := by
  intro S hS
  refine aw_con j12_81 ?_
  exact aw_ret j12_83 (by rw [rt12]; exact rfl) (k_1 _ hS)
theorem bc12_84 {r0 : Option Nat} {x1 : Int32} {x2 : Int32} {a3 : Nat} {r4 : Option Nat} {r5 : Option Nat} (l_1 : X.2.1 8 a3) (k_3 : (T.2 8 a3 6) = none → cA ext X d 12 99 [some (cv X 0 r0), some (.int x1), some (.int x2), some (cv X 8 (some a3)), some (cv X 7 r4), some (cv X 8 r5)] [] T Q) (k_4 : ∀ c_2, (T.2 8 a3 6) = some c_2 → cA ext X d 12 91 [some (cv X 0 r0), some (.int x1), some (.int x2), some (cv X 8 (some a3)), some (cv X 7 r4), some (cv X 8 r5)] [] T Q) : cA ext X d 12 84 [some (cv X 0 r0), some (.int x1), some (.int x2), some (cv X 8 (some a3)), some (cv X 7 r4), some (cv X 8 r5)] [] T Q := by
  intro S hS
  refine aw_ald j12_84 rfl (cv_isR _ _ _) ?_
  refine aw_get j12_85 (hS.kd l_1) (hS.r 6 rfl l_1) ?_
  exact aw_null (r := ((T.2 8 a3 6)).map (X.1 8)) j12_88 (fun h => k_3 (cv_none h) _ hS) (fun c h => by obtain ⟨c, hc⟩ := cv_some h; exact k_4 c hc _ hS)
theorem bc12_91 {r0 : Option Nat} {x1 : Int32} {x2 : Int32} {a3 : Nat} {r4 : Option Nat} {r5 : Option Nat} {b_2 : Nat} {P_4 : cT → Prop} (l_1 : X.2.1 8 a3) (f_3 : T.2 8 a3 6 = some b_2) (m_7 : cCv ext X d 54 [cv X 8 (some b_2), cv X 8 (some a3)] T P_4) (k_8 : ∀ T_5, P_4 T_5 → cA ext X (d + 1) 12 99 [some (cv X 0 r0), some (.int x1), some (.int x2), some (cv X 8 (some a3)), some (cv X 7 r4), some (cv X 8 r5)] [] T_5 Q) : cA ext X (d + 1) 12 91 [some (cv X 0 r0), some (.int x1), some (.int x2), some (cv X 8 (some a3)), some (cv X 7 r4), some (cv X 8 r5)] [] T Q := by
  intro S hS
  refine aw_ald j12_91 rfl (cv_isR _ _ _) ?_
  refine aw_get j12_92 (hS.kd l_1) (hS.rr 6 rfl l_1 f_3) ?_
  refine aw_ald j12_95 rfl (cv_isR _ _ _) ?_
  refine aw_callv (as := [cv X 8 (some b_2), cv X 8 (some a3)]) j12_96 rfl rfl (Nat.le_of_ble_eq_true rfl) cy54.1 cy54.2 (cs_cons rfl (cs_cons rfl cs_nil)) (decide_eq_true (hS.kd (hS.rl 6 rfl l_1 _ f_3))) (m_7 _ hS) (fun S1 h1 => ?_)
  obtain ⟨W1, h1, h2⟩ := h1
  exact k_8 W1 h2 S1 h1
theorem bc12_99 {r0 : Option Nat} {x1 : Int32} {x2 : Int32} {r3 : Option Nat} {r4 : Option Nat} {a5 : Nat} {P_2 : cT → Prop} (l_1 : X.2.1 8 a5) (m_5 : cCv ext X d 51 [cv X 8 (some a5), cv X 8 r3] T P_2) (k_6 : ∀ T_3, P_2 T_3 → cA ext X (d + 1) 12 105 [some (cv X 0 r0), some (.int x1), some (.int x2), some (cv X 8 r3), some (cv X 7 r4), some (cv X 8 (some a5))] [] T_3 Q) : cA ext X (d + 1) 12 99 [some (cv X 0 r0), some (.int x1), some (.int x2), some (cv X 8 r3), some (cv X 7 r4), some (cv X 8 (some a5))] [] T Q := by
  intro S hS
  refine aw_ald j12_99 rfl (cv_isR _ _ _) ?_
  refine aw_ald j12_101 rfl (cv_isR _ _ _) ?_
  refine aw_callv (as := [cv X 8 (some a5), cv X 8 r3]) j12_102 rfl rfl (Nat.le_of_ble_eq_true rfl) cy51.1 cy51.2 (cs_cons rfl (cs_cons (cv_cat _ _ _) cs_nil)) (decide_eq_true (hS.kd l_1)) (m_5 _ hS) (fun S1 h1 => ?_)
  obtain ⟨W1, h1, h2⟩ := h1
  exact k_6 W1 h2 S1 h1
theorem bc12_105 {r0 : Option Nat} {x1 : Int32} {x2 : Int32} {r3 : Option Nat} {r4 : Option Nat} {r5 : Option Nat}  (k_1 : ∀ S, cr X T S → Q (some (.int (1 : Int32))) S) : cA ext X d 12 105 [some (cv X 0 r0), some (.int x1), some (.int x2), some (cv X 8 r3), some (cv X 7 r4), some (cv X 8 r5)] [] T Q := by
  intro S hS
  refine aw_con j12_105 ?_
  exact aw_ret j12_106 (by rw [rt12]; exact rfl) (k_1 _ hS)
/-! SM_order -/
theorem bc13_0 {a0 : Nat} {x1 : Int32} {x2 : Int32} {o3 : Option Value} {o4 : Option Value} {o5 : Option Value} {P_2 : Option Nat → cT → Prop} (l_1 : X.2.1 0 a0) (m_5 : cCr ext X 7 d 7 [cv X 0 (some a0), .int x1] T P_2) (k_6 : ∀ v_4 T_3, P_2 v_4 T_3 → cA ext X (d + 1) 13 5 [some (cv X 0 (some a0)), some (.int x1), some (.int x2), o3, o4, o5] [cv X 7 v_4] T_3 Q) : cA ext X (d + 1) 13 0 [some (cv X 0 (some a0)), some (.int x1), some (.int x2), o3, o4, o5] [] T Q := by
  intro S hS
  refine aw_ald j13_0 rfl (cv_isR _ _ _) ?_
  refine aw_ild j13_1 rfl ?_
  refine aw_callr (as := [cv X 0 (some a0), .int x1]) j13_2 rfl rfl (Nat.le_of_ble_eq_true rfl) cy7.1 cy7.2 (cs_cons rfl (cs_cons rfl cs_nil)) (decide_eq_true (hS.kd l_1)) (m_5 _ hS) (fun v1 S1 h1 => ?_)
  obtain ⟨o1, W1, he, h1, h2⟩ := h1
  subst he
  exact k_6 o1 W1 h2 S1 h1
theorem bc13_5 {r0 : Option Nat} {x1 : Int32} {x2 : Int32} {o3 : Option Value} {o4 : Option Value} {o5 : Option Value} {rk0 : Option Nat}  (k_2 : rk0 = none → cA ext X d 13 22 [some (cv X 0 r0), some (.int x1), some (.int x2), some (cv X 7 rk0), o4, o5] [] T Q) (k_3 : ∀ c_1, rk0 = some c_1 → cA ext X d 13 10 [some (cv X 0 r0), some (.int x1), some (.int x2), some (cv X 7 rk0), o4, o5] [] T Q) : cA ext X d 13 5 [some (cv X 0 r0), some (.int x1), some (.int x2), o3, o4, o5] [cv X 7 rk0] T Q := by
  intro S hS
  refine aw_ast j13_5 (cv_isR _ _ _) (Nat.le_of_ble_eq_true rfl) ?_
  refine aw_ald j13_6 rfl (cv_isR _ _ _) ?_
  exact aw_null (r := (rk0).map (X.1 7)) j13_7 (fun h => k_2 (cv_none h) _ hS) (fun c h => by obtain ⟨c, hc⟩ := cv_some h; exact k_3 c hc _ hS)
theorem bc13_10 {r0 : Option Nat} {x1 : Int32} {x2 : Int32} {r3 : Option Nat} {o4 : Option Value} {o5 : Option Value}  (k_1 : (x2 < 0) → cA ext X d 13 22 [some (cv X 0 r0), some (.int x1), some (.int x2), some (cv X 7 r3), o4, o5] [] T Q) (k_2 : (¬ (x2 < 0)) → cA ext X d 13 14 [some (cv X 0 r0), some (.int x1), some (.int x2), some (cv X 7 r3), o4, o5] [] T Q) : cA ext X d 13 10 [some (cv X 0 r0), some (.int x1), some (.int x2), some (cv X 7 r3), o4, o5] [] T Q := by
  intro S hS
  refine aw_ild j13_10 rfl ?_
  exact aw_if j13_11 (fun h => k_1 (of_decide_eq_true h) _ hS) (fun h => k_2 (of_decide_eq_false h) _ hS)
theorem bc13_14 {a0 : Nat} {x1 : Int32} {x2 : Int32} {r3 : Option Nat} {o4 : Option Value} {o5 : Option Value} (l_1 : X.2.1 0 a0) (k_2 : (x2 < (T.1 0 a0 5)) → cA ext X d 13 24 [some (cv X 0 (some a0)), some (.int x1), some (.int x2), some (cv X 7 r3), o4, o5] [] T Q) (k_3 : (¬ (x2 < (T.1 0 a0 5))) → cA ext X d 13 22 [some (cv X 0 (some a0)), some (.int x1), some (.int x2), some (cv X 7 r3), o4, o5] [] T Q) : cA ext X d 13 14 [some (cv X 0 (some a0)), some (.int x1), some (.int x2), some (cv X 7 r3), o4, o5] [] T Q := by
  intro S hS
  refine aw_ild j13_14 rfl ?_
  refine aw_ald j13_15 rfl (cv_isR _ _ _) ?_
  refine aw_get j13_16 (hS.kd l_1) (hS.i 5 rfl rfl l_1) ?_
  exact aw_ic j13_19 (fun h => k_2 (of_decide_eq_true h) _ hS) (fun h => k_3 (of_decide_eq_false h) _ hS)
theorem bc13_22 {r0 : Option Nat} {x1 : Int32} {x2 : Int32} {r3 : Option Nat} {o4 : Option Value} {o5 : Option Value}  (k_1 : ∀ S, cr X T S → Q (some (.int (-1 : Int32))) S) : cA ext X d 13 22 [some (cv X 0 r0), some (.int x1), some (.int x2), some (cv X 7 r3), o4, o5] [] T Q := by
  intro S hS
  refine aw_con j13_22 ?_
  exact aw_ret j13_23 (by rw [rt13]; exact rfl) (k_1 _ hS)
theorem bc13_24 {r0 : Option Nat} {x1 : Int32} {x2 : Int32} {a3 : Nat} {o4 : Option Value} {o5 : Option Value} {b_2 : Nat} {P_4 : Option Nat → cT → Prop} (l_1 : X.2.1 7 a3) (f_3 : T.2 7 a3 1 = some b_2) (m_7 : cCr ext X 8 d 55 [cv X 8 (some b_2), cv X 8 (T.2 7 a3 1)] T P_4) (k_8 : ∀ v_6 T_5, P_4 v_6 T_5 → cA ext X (d + 1) 13 35 [some (cv X 0 r0), some (.int x1), some (.int x2), some (cv X 7 (some a3)), o4, o5] [cv X 8 v_6] T_5 Q) : cA ext X (d + 1) 13 24 [some (cv X 0 r0), some (.int x1), some (.int x2), some (cv X 7 (some a3)), o4, o5] [] T Q := by
  intro S hS
  refine aw_ald j13_24 rfl (cv_isR _ _ _) ?_
  refine aw_get j13_25 (hS.kd l_1) (hS.rr 1 rfl l_1 f_3) ?_
  refine aw_ald j13_28 rfl (cv_isR _ _ _) ?_
  refine aw_get j13_29 (hS.kd l_1) (hS.r 1 rfl l_1) ?_
  refine aw_callr (as := [cv X 8 (some b_2), cv X 8 (T.2 7 a3 1)]) j13_32 rfl rfl (Nat.le_of_ble_eq_true rfl) cy55.1 cy55.2 (cs_cons rfl (cs_cons (cv_cat _ _ _) cs_nil)) (decide_eq_true (hS.kd (hS.rl 1 rfl l_1 _ f_3))) (m_7 _ hS) (fun v1 S1 h1 => ?_)
  obtain ⟨o1, W1, he, h1, h2⟩ := h1
  subst he
  exact k_8 o1 W1 h2 S1 h1
theorem bc13_35 {r0 : Option Nat} {x1 : Int32} {x2 : Int32} {r3 : Option Nat} {o4 : Option Value} {o5 : Option Value} {rk0 : Option Nat}  (k_1 : cA ext X d 13 40 [some (cv X 0 r0), some (.int x1), some (.int x2), some (cv X 7 r3), some (cv X 8 rk0), some (.int (0 : Int32))] [] T Q) : cA ext X d 13 35 [some (cv X 0 r0), some (.int x1), some (.int x2), some (cv X 7 r3), o4, o5] [cv X 8 rk0] T Q := by
  intro S hS
  refine aw_ast j13_35 (cv_isR _ _ _) (Nat.le_of_ble_eq_true rfl) ?_
  refine aw_con j13_37 ?_
  refine aw_ist j13_38 (Nat.le_of_ble_eq_true rfl) ?_
  exact k_1 _ hS
theorem bc13_40 {r0 : Option Nat} {x1 : Int32} {x2 : Int32} {r3 : Option Nat} {r4 : Option Nat} {x5 : Int32}  (k_1 : (x2 ≤ x5) → cA ext X d 13 68 [some (cv X 0 r0), some (.int x1), some (.int x2), some (cv X 7 r3), some (cv X 8 r4), some (.int x5)] [] T Q) (k_2 : (¬ (x2 ≤ x5)) → cA ext X d 13 46 [some (cv X 0 r0), some (.int x1), some (.int x2), some (cv X 7 r3), some (cv X 8 r4), some (.int x5)] [] T Q) : cA ext X d 13 40 [some (cv X 0 r0), some (.int x1), some (.int x2), some (cv X 7 r3), some (cv X 8 r4), some (.int x5)] [] T Q := by
  intro S hS
  refine aw_ild j13_40 rfl ?_
  refine aw_ild j13_42 rfl ?_
  exact aw_ic j13_43 (fun h => k_1 (of_decide_eq_true h) _ hS) (fun h => k_2 (of_decide_eq_false h) _ hS)
theorem bc13_46 {r0 : Option Nat} {x1 : Int32} {x2 : Int32} {r3 : Option Nat} {r4 : Option Nat} {x5 : Int32}  (k_2 : r4 = none → cA ext X d 13 68 [some (cv X 0 r0), some (.int x1), some (.int x2), some (cv X 7 r3), some (cv X 8 r4), some (.int x5)] [] T Q) (k_3 : ∀ c_1, r4 = some c_1 → cA ext X d 13 51 [some (cv X 0 r0), some (.int x1), some (.int x2), some (cv X 7 r3), some (cv X 8 r4), some (.int x5)] [] T Q) : cA ext X d 13 46 [some (cv X 0 r0), some (.int x1), some (.int x2), some (cv X 7 r3), some (cv X 8 r4), some (.int x5)] [] T Q := by
  intro S hS
  refine aw_ald j13_46 rfl (cv_isR _ _ _) ?_
  exact aw_null (r := (r4).map (X.1 8)) j13_48 (fun h => k_2 (cv_none h) _ hS) (fun c h => by obtain ⟨c, hc⟩ := cv_some h; exact k_3 c hc _ hS)
theorem bc13_51 {r0 : Option Nat} {x1 : Int32} {x2 : Int32} {a3 : Nat} {a4 : Nat} {x5 : Int32} {P_3 : Option Nat → cT → Prop} (l_1 : X.2.1 7 a3) (l_2 : X.2.1 8 a4) (m_6 : cCr ext X 8 d 55 [cv X 8 (some a4), cv X 8 (T.2 7 a3 1)] T P_3) (k_7 : ∀ v_5 T_4, P_3 v_5 T_4 → cA ext X (d + 1) 13 60 [some (cv X 0 r0), some (.int x1), some (.int x2), some (cv X 7 (some a3)), some (cv X 8 (some a4)), some (.int x5)] [cv X 8 v_5] T_4 Q) : cA ext X (d + 1) 13 51 [some (cv X 0 r0), some (.int x1), some (.int x2), some (cv X 7 (some a3)), some (cv X 8 (some a4)), some (.int x5)] [] T Q := by
  intro S hS
  refine aw_ald j13_51 rfl (cv_isR _ _ _) ?_
  refine aw_ald j13_53 rfl (cv_isR _ _ _) ?_
  refine aw_get j13_54 (hS.kd l_1) (hS.r 1 rfl l_1) ?_
  refine aw_callr (as := [cv X 8 (some a4), cv X 8 (T.2 7 a3 1)]) j13_57 rfl rfl (Nat.le_of_ble_eq_true rfl) cy55.1 cy55.2 (cs_cons rfl (cs_cons (cv_cat _ _ _) cs_nil)) (decide_eq_true (hS.kd l_2)) (m_6 _ hS) (fun v1 S1 h1 => ?_)
  obtain ⟨o1, W1, he, h1, h2⟩ := h1
  subst he
  exact k_7 o1 W1 h2 S1 h1
theorem bc13_60 {r0 : Option Nat} {x1 : Int32} {x2 : Int32} {r3 : Option Nat} {r4 : Option Nat} {x5 : Int32} {rk0 : Option Nat}  (k_1 : cA ext X d 13 40 [some (cv X 0 r0), some (.int x1), some (.int x2), some (cv X 7 r3), some (cv X 8 rk0), some (.int (x5 + 1))] [] T Q) : cA ext X d 13 60 [some (cv X 0 r0), some (.int x1), some (.int x2), some (cv X 7 r3), some (cv X 8 r4), some (.int x5)] [cv X 8 rk0] T Q := by
  intro S hS
  refine aw_ast j13_60 (cv_isR _ _ _) (Nat.le_of_ble_eq_true rfl) ?_
  refine aw_inc j13_62 rfl ?_
  exact aw_goto j13_65 (k_1 _ hS)
theorem bc13_68 {r0 : Option Nat} {x1 : Int32} {x2 : Int32} {r3 : Option Nat} {r4 : Option Nat} {x5 : Int32}  (k_2 : r4 = none → cA ext X d 13 73 [some (cv X 0 r0), some (.int x1), some (.int x2), some (cv X 7 r3), some (cv X 8 r4), some (.int x5)] [] T Q) (k_3 : ∀ c_1, r4 = some c_1 → cA ext X d 13 77 [some (cv X 0 r0), some (.int x1), some (.int x2), some (cv X 7 r3), some (cv X 8 r4), some (.int x5)] [] T Q) : cA ext X d 13 68 [some (cv X 0 r0), some (.int x1), some (.int x2), some (cv X 7 r3), some (cv X 8 r4), some (.int x5)] [] T Q := by
  intro S hS
  refine aw_ald j13_68 rfl (cv_isR _ _ _) ?_
  exact aw_nonn (r := (r4).map (X.1 8)) j13_70 (fun h => k_2 (cv_none h) _ hS) (fun c h => by obtain ⟨c, hc⟩ := cv_some h; exact k_3 c hc _ hS)
theorem bc13_73 {r0 : Option Nat} {x1 : Int32} {x2 : Int32} {r3 : Option Nat} {r4 : Option Nat} {x5 : Int32}  (k_1 : cA ext X d 13 82 [some (cv X 0 r0), some (.int x1), some (.int x2), some (cv X 7 r3), some (cv X 8 r4), some (.int x5)] [.int (-1 : Int32)] T Q) : cA ext X d 13 73 [some (cv X 0 r0), some (.int x1), some (.int x2), some (cv X 7 r3), some (cv X 8 r4), some (.int x5)] [] T Q := by
  intro S hS
  refine aw_con j13_73 ?_
  exact aw_goto j13_74 (k_1 _ hS)
theorem bc13_77 {r0 : Option Nat} {x1 : Int32} {x2 : Int32} {r3 : Option Nat} {a4 : Nat} {x5 : Int32} (l_1 : X.2.1 8 a4) (k_2 : cA ext X d 13 82 [some (cv X 0 r0), some (.int x1), some (.int x2), some (cv X 7 r3), some (cv X 8 (some a4)), some (.int x5)] [.int (T.1 8 a4 0)] T Q) : cA ext X d 13 77 [some (cv X 0 r0), some (.int x1), some (.int x2), some (cv X 7 r3), some (cv X 8 (some a4)), some (.int x5)] [] T Q := by
  intro S hS
  refine aw_ald j13_77 rfl (cv_isR _ _ _) ?_
  refine aw_get j13_79 (hS.kd l_1) (hS.i 0 rfl rfl l_1) ?_
  exact k_2 _ hS
theorem bc13_82 {r0 : Option Nat} {x1 : Int32} {x2 : Int32} {r3 : Option Nat} {r4 : Option Nat} {x5 : Int32} {xk0 : Int32}  (k_1 : ∀ S, cr X T S → Q (some (.int xk0)) S) : cA ext X d 13 82 [some (cv X 0 r0), some (.int x1), some (.int x2), some (cv X 7 r3), some (cv X 8 r4), some (.int x5)] [.int xk0] T Q := by
  intro S hS
  exact aw_ret j13_82 (by rw [rt13]; exact rfl) (k_1 _ hS)
/-! SM_read -/
theorem bc14_0 {a0 : Nat} {x1 : Int32} {o2 : Option Value} {P_2 : Option Nat → cT → Prop} (l_1 : X.2.1 0 a0) (m_5 : cCr ext X 7 d 7 [cv X 0 (some a0), .int x1] T P_2) (k_6 : ∀ v_4 T_3, P_2 v_4 T_3 → cA ext X (d + 1) 14 5 [some (cv X 0 (some a0)), some (.int x1), o2] [cv X 7 v_4] T_3 Q) : cA ext X (d + 1) 14 0 [some (cv X 0 (some a0)), some (.int x1), o2] [] T Q := by
  intro S hS
  refine aw_ald j14_0 rfl (cv_isR _ _ _) ?_
  refine aw_ild j14_1 rfl ?_
  refine aw_callr (as := [cv X 0 (some a0), .int x1]) j14_2 rfl rfl (Nat.le_of_ble_eq_true rfl) cy7.1 cy7.2 (cs_cons rfl (cs_cons rfl cs_nil)) (decide_eq_true (hS.kd l_1)) (m_5 _ hS) (fun v1 S1 h1 => ?_)
  obtain ⟨o1, W1, he, h1, h2⟩ := h1
  subst he
  exact k_6 o1 W1 h2 S1 h1
theorem bc14_5 {r0 : Option Nat} {x1 : Int32} {o2 : Option Value} {rk0 : Option Nat}  (k_2 : rk0 = none → cA ext X d 14 10 [some (cv X 0 r0), some (.int x1), some (cv X 7 rk0)] [] T Q) (k_3 : ∀ c_1, rk0 = some c_1 → cA ext X d 14 12 [some (cv X 0 r0), some (.int x1), some (cv X 7 rk0)] [] T Q) : cA ext X d 14 5 [some (cv X 0 r0), some (.int x1), o2] [cv X 7 rk0] T Q := by
  intro S hS
  refine aw_ast j14_5 (cv_isR _ _ _) (Nat.le_of_ble_eq_true rfl) ?_
  refine aw_ald j14_6 rfl (cv_isR _ _ _) ?_
  exact aw_nonn (r := (rk0).map (X.1 7)) j14_7 (fun h => k_2 (cv_none h) _ hS) (fun c h => by obtain ⟨c, hc⟩ := cv_some h; exact k_3 c hc _ hS)
theorem bc14_10 {r0 : Option Nat} {x1 : Int32} {r2 : Option Nat}  (k_1 : ∀ S, cr X T S → Q (some (.int (-1 : Int32))) S) : cA ext X d 14 10 [some (cv X 0 r0), some (.int x1), some (cv X 7 r2)] [] T Q := by
  intro S hS
  refine aw_con j14_10 ?_
  exact aw_ret j14_11 (by rw [rt14]; exact rfl) (k_1 _ hS)
theorem bc14_12 {a0 : Nat} {x1 : Int32} {a2 : Nat} {P_3 : cT → Prop} (l_1 : X.2.1 0 a0) (l_2 : X.2.1 7 a2) (m_6 : cCv ext X d 30 [cv X 2 (some a0), cv X 8 (T.2 7 a2 1)] T P_3) (k_7 : ∀ T_4, P_3 T_4 → cA ext X (d + 1) 14 23 [some (cv X 0 (some a0)), some (.int x1), some (cv X 7 (some a2))] [] T_4 Q) : cA ext X (d + 1) 14 12 [some (cv X 0 (some a0)), some (.int x1), some (cv X 7 (some a2))] [] T Q := by
  intro S hS
  refine aw_ald j14_12 rfl (cv_isR _ _ _) ?_
  refine aw_get j14_13 (hS.kd l_1) (hS.f 7 rfl l_1) ?_
  refine aw_ald j14_16 rfl (cv_isR _ _ _) ?_
  refine aw_get j14_17 (hS.kd l_2) (hS.r 1 rfl l_2) ?_
  refine aw_callv (as := [cv X 2 (some a0), cv X 8 (T.2 7 a2 1)]) j14_20 rfl rfl (Nat.le_of_ble_eq_true rfl) cy30.1 cy30.2 (cs_cons rfl (cs_cons (cv_cat _ _ _) cs_nil)) (decide_eq_true (hS.kd (hS.fl (s := 0) 7 rfl l_1))) (m_6 _ hS) (fun S1 h1 => ?_)
  obtain ⟨W1, h1, h2⟩ := h1
  exact k_7 W1 h2 S1 h1
theorem bc14_23 {a0 : Nat} {x1 : Int32} {r2 : Option Nat} {P_2 : cT → Prop} (l_1 : X.2.1 0 a0) (m_5 : cCv ext X d 36 [cv X 3 (some a0), cv X 2 (some a0)] T P_2) (k_6 : ∀ T_3, P_2 T_3 → cA ext X (d + 1) 14 34 [some (cv X 0 (some a0)), some (.int x1), some (cv X 7 r2)] [] T_3 Q) : cA ext X (d + 1) 14 23 [some (cv X 0 (some a0)), some (.int x1), some (cv X 7 r2)] [] T Q := by
  intro S hS
  refine aw_ald j14_23 rfl (cv_isR _ _ _) ?_
  refine aw_get j14_24 (hS.kd l_1) (hS.f 8 rfl l_1) ?_
  refine aw_ald j14_27 rfl (cv_isR _ _ _) ?_
  refine aw_get j14_28 (hS.kd l_1) (hS.f 7 rfl l_1) ?_
  refine aw_callv (as := [cv X 3 (some a0), cv X 2 (some a0)]) j14_31 rfl rfl (Nat.le_of_ble_eq_true rfl) cy36.1 cy36.2 (cs_cons rfl (cs_cons rfl cs_nil)) (decide_eq_true (hS.kd (hS.fl (s := 0) 8 rfl l_1))) (m_5 _ hS) (fun S1 h1 => ?_)
  obtain ⟨W1, h1, h2⟩ := h1
  exact k_6 W1 h2 S1 h1
theorem bc14_34 {a0 : Nat} {x1 : Int32} {r2 : Option Nat} (l_1 : X.2.1 0 a0) (k_2 : ∀ S, cr X T S → Q (some (.int (T.1 3 a0 2))) S) : cA ext X d 14 34 [some (cv X 0 (some a0)), some (.int x1), some (cv X 7 r2)] [] T Q := by
  intro S hS
  refine aw_ald j14_34 rfl (cv_isR _ _ _) ?_
  refine aw_get j14_35 (hS.kd l_1) (hS.f 8 rfl l_1) ?_
  refine aw_get j14_38 (hS.kd (hS.fl (s := 0) 8 rfl l_1)) (hS.i 2 rfl rfl (hS.fl (s := 0) 8 rfl l_1)) ?_
  exact aw_ret j14_41 (by rw [rt14]; exact rfl) (k_2 _ hS)
/-! SM_step -/
theorem bc15_0 {a0 : Nat} {x1 : Int32} {x2 : Int32} {P_2 : Int32 → cT → Prop} (l_1 : X.2.1 0 a0) (m_5 : cCi ext X d 38 [cv X 3 (some a0), .int x1, .int x2] T P_2) (k_6 : ∀ v_4 T_3, P_2 v_4 T_3 → cA ext X (d + 1) 15 9 [some (cv X 0 (some a0)), some (.int x1), some (.int x2)] [.int v_4] T_3 Q) : cA ext X (d + 1) 15 0 [some (cv X 0 (some a0)), some (.int x1), some (.int x2)] [] T Q := by
  intro S hS
  refine aw_ald j15_0 rfl (cv_isR _ _ _) ?_
  refine aw_get j15_1 (hS.kd l_1) (hS.f 8 rfl l_1) ?_
  refine aw_ild j15_4 rfl ?_
  refine aw_ild j15_5 rfl ?_
  refine aw_calli (as := [cv X 3 (some a0), .int x1, .int x2]) j15_6 rfl rfl (Nat.le_of_ble_eq_true rfl) cy38.1 cy38.2 (cs_cons rfl (cs_cons rfl (cs_cons rfl cs_nil))) (decide_eq_true (hS.kd (hS.fl (s := 0) 8 rfl l_1))) (m_5 _ hS) (fun v1 S1 h1 => ?_)
  obtain ⟨W1, h1, h2⟩ := h1
  exact k_6 v1 W1 h2 S1 h1
theorem bc15_9 {r0 : Option Nat} {x1 : Int32} {x2 : Int32} {xk0 : Int32}  (k_1 : ∀ S, cr X T S → Q (some (.int xk0)) S) : cA ext X d 15 9 [some (cv X 0 r0), some (.int x1), some (.int x2)] [.int xk0] T Q := by
  intro S hS
  exact aw_ret j15_9 (by rw [rt15]; exact rfl) (k_1 _ hS)
/-! SM_check -/
theorem bc16_0 {a0 : Nat} {x1 : Int32} {o2 : Option Value} {o3 : Option Value} {o4 : Option Value} {P_2 : Option Nat → cT → Prop} (l_1 : X.2.1 0 a0) (m_5 : cCr ext X 7 d 7 [cv X 0 (some a0), .int x1] T P_2) (k_6 : ∀ v_4 T_3, P_2 v_4 T_3 → cA ext X (d + 1) 16 5 [some (cv X 0 (some a0)), some (.int x1), o2, o3, o4] [cv X 7 v_4] T_3 Q) : cA ext X (d + 1) 16 0 [some (cv X 0 (some a0)), some (.int x1), o2, o3, o4] [] T Q := by
  intro S hS
  refine aw_ald j16_0 rfl (cv_isR _ _ _) ?_
  refine aw_ild j16_1 rfl ?_
  refine aw_callr (as := [cv X 0 (some a0), .int x1]) j16_2 rfl rfl (Nat.le_of_ble_eq_true rfl) cy7.1 cy7.2 (cs_cons rfl (cs_cons rfl cs_nil)) (decide_eq_true (hS.kd l_1)) (m_5 _ hS) (fun v1 S1 h1 => ?_)
  obtain ⟨o1, W1, he, h1, h2⟩ := h1
  subst he
  exact k_6 o1 W1 h2 S1 h1
theorem bc16_5 {r0 : Option Nat} {x1 : Int32} {o2 : Option Value} {o3 : Option Value} {o4 : Option Value} {rk0 : Option Nat}  (k_2 : rk0 = none → cA ext X d 16 10 [some (cv X 0 r0), some (.int x1), some (cv X 7 rk0), o3, o4] [] T Q) (k_3 : ∀ c_1, rk0 = some c_1 → cA ext X d 16 12 [some (cv X 0 r0), some (.int x1), some (cv X 7 rk0), o3, o4] [] T Q) : cA ext X d 16 5 [some (cv X 0 r0), some (.int x1), o2, o3, o4] [cv X 7 rk0] T Q := by
  intro S hS
  refine aw_ast j16_5 (cv_isR _ _ _) (Nat.le_of_ble_eq_true rfl) ?_
  refine aw_ald j16_6 rfl (cv_isR _ _ _) ?_
  exact aw_nonn (r := (rk0).map (X.1 7)) j16_7 (fun h => k_2 (cv_none h) _ hS) (fun c h => by obtain ⟨c, hc⟩ := cv_some h; exact k_3 c hc _ hS)
theorem bc16_10 {r0 : Option Nat} {x1 : Int32} {r2 : Option Nat} {o3 : Option Value} {o4 : Option Value}  (k_1 : ∀ S, cr X T S → Q (some (.int (-1 : Int32))) S) : cA ext X d 16 10 [some (cv X 0 r0), some (.int x1), some (cv X 7 r2), o3, o4] [] T Q := by
  intro S hS
  refine aw_con j16_10 ?_
  exact aw_ret j16_11 (by rw [rt16]; exact rfl) (k_1 _ hS)
theorem bc16_12 {a0 : Nat} {x1 : Int32} {r2 : Option Nat} {o3 : Option Value} {o4 : Option Value} (l_1 : X.2.1 0 a0) (k_2 : cA ext X d 16 22 [some (cv X 0 (some a0)), some (.int x1), some (cv X 7 r2), some (.int (0 : Int32)), o4] [] (iset T 4 a0 2 (0 : Int32)) Q) : cA ext X d 16 12 [some (cv X 0 (some a0)), some (.int x1), some (cv X 7 r2), o3, o4] [] T Q := by
  intro S hS
  refine aw_ald j16_12 rfl (cv_isR _ _ _) ?_
  refine aw_get j16_13 (hS.kd l_1) (hS.f 9 rfl l_1) ?_
  refine aw_con j16_16 ?_
  refine aw_put j16_17 (hS.kd (hS.fl (s := 0) 9 rfl l_1)) rfl ?_
  have hS := hS.seti (s := 4) 2 (0 : Int32) rfl rfl (hS.fl (s := 0) 9 rfl l_1)
  refine aw_con j16_20 ?_
  refine aw_ist j16_21 (Nat.le_of_ble_eq_true rfl) ?_
  exact k_2 _ hS
theorem bc16_22 {a0 : Nat} {x1 : Int32} {r2 : Option Nat} {x3 : Int32} {o4 : Option Value} (l_1 : X.2.1 0 a0) (k_2 : ((T.1 0 a0 5) ≤ x3) → cA ext X d 16 64 [some (cv X 0 (some a0)), some (.int x1), some (cv X 7 r2), some (.int x3), o4] [] T Q) (k_3 : (¬ ((T.1 0 a0 5) ≤ x3)) → cA ext X d 16 30 [some (cv X 0 (some a0)), some (.int x1), some (cv X 7 r2), some (.int x3), o4] [] T Q) : cA ext X d 16 22 [some (cv X 0 (some a0)), some (.int x1), some (cv X 7 r2), some (.int x3), o4] [] T Q := by
  intro S hS
  refine aw_ild j16_22 rfl ?_
  refine aw_ald j16_23 rfl (cv_isR _ _ _) ?_
  refine aw_get j16_24 (hS.kd l_1) (hS.i 5 rfl rfl l_1) ?_
  exact aw_ic j16_27 (fun h => k_2 (of_decide_eq_true h) _ hS) (fun h => k_3 (of_decide_eq_false h) _ hS)
theorem bc16_30 {a0 : Nat} {x1 : Int32} {r2 : Option Nat} {x3 : Int32} {o4 : Option Value} {i_2 : Nat} (l_1 : X.2.1 0 a0) (e_3 : x3 = nI i_2) (c_4 : i_2 < 120) (k_6 : (T.2 22 a0 i_2) = none → cA ext X d 16 58 [some (cv X 0 (some a0)), some (.int x1), some (cv X 7 r2), some (.int x3), some (cv X 8 (T.2 22 a0 i_2))] [] T Q) (k_7 : ∀ c_5, (T.2 22 a0 i_2) = some c_5 → cA ext X d 16 43 [some (cv X 0 (some a0)), some (.int x1), some (cv X 7 r2), some (.int x3), some (cv X 8 (T.2 22 a0 i_2))] [] T Q) : cA ext X d 16 30 [some (cv X 0 (some a0)), some (.int x1), some (cv X 7 r2), some (.int x3), o4] [] T Q := by
  intro S hS
  refine aw_ald j16_30 rfl (cv_isR _ _ _) ?_
  refine aw_get j16_31 (hS.kd l_1) (hS.f 4 rfl l_1) ?_
  refine aw_ild j16_34 rfl ?_
  refine aw_xld (n := 120) j16_35 (hS.kd (hS.fl (s := 0) 4 rfl l_1)) e_3 c_4 (by decide) (hS.r i_2 rfl (hS.fl (s := 0) 4 rfl l_1)) ?_
  refine aw_ast j16_36 (cv_isR _ _ _) (Nat.le_of_ble_eq_true rfl) ?_
  refine aw_ald j16_38 rfl (cv_isR _ _ _) ?_
  exact aw_null (r := ((T.2 22 a0 i_2)).map (X.1 8)) j16_40 (fun h => k_6 (cv_none h) _ hS) (fun c h => by obtain ⟨c, hc⟩ := cv_some h; exact k_7 c hc _ hS)
theorem bc16_43 {r0 : Option Nat} {x1 : Int32} {r2 : Option Nat} {x3 : Int32} {a4 : Nat} (l_1 : X.2.1 8 a4) (k_2 : (¬ (T.1 8 a4 1) = x1) → cA ext X d 16 58 [some (cv X 0 r0), some (.int x1), some (cv X 7 r2), some (.int x3), some (cv X 8 (some a4))] [] T Q) (k_3 : ((T.1 8 a4 1) = x1) → cA ext X d 16 52 [some (cv X 0 r0), some (.int x1), some (cv X 7 r2), some (.int x3), some (cv X 8 (some a4))] [] T Q) : cA ext X d 16 43 [some (cv X 0 r0), some (.int x1), some (cv X 7 r2), some (.int x3), some (cv X 8 (some a4))] [] T Q := by
  intro S hS
  refine aw_ald j16_43 rfl (cv_isR _ _ _) ?_
  refine aw_get j16_45 (hS.kd l_1) (hS.i 1 rfl rfl l_1) ?_
  refine aw_ild j16_48 rfl ?_
  exact aw_ic j16_49 (fun h => k_2 (of_decide_eq_true h) _ hS) (fun h => k_3 (Decidable.of_not_not (of_decide_eq_false h)) _ hS)
theorem bc16_52 {a0 : Nat} {x1 : Int32} {r2 : Option Nat} {x3 : Int32} {r4 : Option Nat} {P_2 : cT → Prop} (l_1 : X.2.1 0 a0) (m_5 : cCv ext X d 17 [cv X 0 (some a0), cv X 8 r4] T P_2) (k_6 : ∀ T_3, P_2 T_3 → cA ext X (d + 1) 16 58 [some (cv X 0 (some a0)), some (.int x1), some (cv X 7 r2), some (.int x3), some (cv X 8 r4)] [] T_3 Q) : cA ext X (d + 1) 16 52 [some (cv X 0 (some a0)), some (.int x1), some (cv X 7 r2), some (.int x3), some (cv X 8 r4)] [] T Q := by
  intro S hS
  refine aw_ald j16_52 rfl (cv_isR _ _ _) ?_
  refine aw_ald j16_53 rfl (cv_isR _ _ _) ?_
  refine aw_callv (as := [cv X 0 (some a0), cv X 8 r4]) j16_55 rfl rfl (Nat.le_of_ble_eq_true rfl) cy17.1 cy17.2 (cs_cons rfl (cs_cons (cv_cat _ _ _) cs_nil)) (decide_eq_true (hS.kd l_1)) (m_5 _ hS) (fun S1 h1 => ?_)
  obtain ⟨W1, h1, h2⟩ := h1
  exact k_6 W1 h2 S1 h1
theorem bc16_58 {r0 : Option Nat} {x1 : Int32} {r2 : Option Nat} {x3 : Int32} {r4 : Option Nat}  (k_1 : cA ext X d 16 22 [some (cv X 0 r0), some (.int x1), some (cv X 7 r2), some (.int (x3 + 1)), some (cv X 8 r4)] [] T Q) : cA ext X d 16 58 [some (cv X 0 r0), some (.int x1), some (cv X 7 r2), some (.int x3), some (cv X 8 r4)] [] T Q := by
  intro S hS
  refine aw_inc j16_58 rfl ?_
  exact aw_goto j16_61 (k_1 _ hS)
theorem bc16_64 {r0 : Option Nat} {x1 : Int32} {a2 : Nat} {x3 : Int32} {o4 : Option Value} (l_1 : X.2.1 7 a2) (k_2 : (¬ (T.1 7 a2 0) = 0) → cA ext X d 16 108 [some (cv X 0 r0), some (.int x1), some (cv X 7 (some a2)), some (.int x3), o4] [] T Q) (k_3 : ((T.1 7 a2 0) = 0) → cA ext X d 16 71 [some (cv X 0 r0), some (.int x1), some (cv X 7 (some a2)), some (.int x3), o4] [] T Q) : cA ext X d 16 64 [some (cv X 0 r0), some (.int x1), some (cv X 7 (some a2)), some (.int x3), o4] [] T Q := by
  intro S hS
  refine aw_ald j16_64 rfl (cv_isR _ _ _) ?_
  refine aw_get j16_65 (hS.kd l_1) (hS.i 0 rfl rfl l_1) ?_
  exact aw_if j16_68 (fun h => k_2 (of_decide_eq_true h) _ hS) (fun h => k_3 (Decidable.of_not_not (of_decide_eq_false h)) _ hS)
theorem bc16_71 {a0 : Nat} {x1 : Int32} {a2 : Nat} {x3 : Int32} {o4 : Option Value} {P_3 : cT → Prop} (l_1 : X.2.1 0 a0) (l_2 : X.2.1 7 a2) (m_6 : cCv ext X d 30 [cv X 2 (some a0), cv X 8 (T.2 7 a2 1)] T P_3) (k_7 : ∀ T_4, P_3 T_4 → cA ext X (d + 1) 16 82 [some (cv X 0 (some a0)), some (.int x1), some (cv X 7 (some a2)), some (.int x3), o4] [] T_4 Q) : cA ext X (d + 1) 16 71 [some (cv X 0 (some a0)), some (.int x1), some (cv X 7 (some a2)), some (.int x3), o4] [] T Q := by
  intro S hS
  refine aw_ald j16_71 rfl (cv_isR _ _ _) ?_
  refine aw_get j16_72 (hS.kd l_1) (hS.f 7 rfl l_1) ?_
  refine aw_ald j16_75 rfl (cv_isR _ _ _) ?_
  refine aw_get j16_76 (hS.kd l_2) (hS.r 1 rfl l_2) ?_
  refine aw_callv (as := [cv X 2 (some a0), cv X 8 (T.2 7 a2 1)]) j16_79 rfl rfl (Nat.le_of_ble_eq_true rfl) cy30.1 cy30.2 (cs_cons rfl (cs_cons (cv_cat _ _ _) cs_nil)) (decide_eq_true (hS.kd (hS.fl (s := 0) 7 rfl l_1))) (m_6 _ hS) (fun S1 h1 => ?_)
  obtain ⟨W1, h1, h2⟩ := h1
  exact k_7 W1 h2 S1 h1
theorem bc16_82 {r0 : Option Nat} {x1 : Int32} {r2 : Option Nat} {x3 : Int32} {o4 : Option Value}  (k_1 : cA ext X d 16 84 [some (cv X 0 r0), some (.int x1), some (cv X 7 r2), some (.int (0 : Int32)), o4] [] T Q) : cA ext X d 16 82 [some (cv X 0 r0), some (.int x1), some (cv X 7 r2), some (.int x3), o4] [] T Q := by
  intro S hS
  refine aw_con j16_82 ?_
  refine aw_ist j16_83 (Nat.le_of_ble_eq_true rfl) ?_
  exact k_1 _ hS
theorem bc16_84 {a0 : Nat} {x1 : Int32} {r2 : Option Nat} {x3 : Int32} {o4 : Option Value} (l_1 : X.2.1 0 a0) (k_2 : ((T.1 0 a0 1) ≤ x3) → cA ext X d 16 108 [some (cv X 0 (some a0)), some (.int x1), some (cv X 7 r2), some (.int x3), o4] [] T Q) (k_3 : (¬ ((T.1 0 a0 1) ≤ x3)) → cA ext X d 16 92 [some (cv X 0 (some a0)), some (.int x1), some (cv X 7 r2), some (.int x3), o4] [] T Q) : cA ext X d 16 84 [some (cv X 0 (some a0)), some (.int x1), some (cv X 7 r2), some (.int x3), o4] [] T Q := by
  intro S hS
  refine aw_ild j16_84 rfl ?_
  refine aw_ald j16_85 rfl (cv_isR _ _ _) ?_
  refine aw_get j16_86 (hS.kd l_1) (hS.i 1 rfl rfl l_1) ?_
  exact aw_ic j16_89 (fun h => k_2 (of_decide_eq_true h) _ hS) (fun h => k_3 (of_decide_eq_false h) _ hS)
theorem bc16_92 {a0 : Nat} {x1 : Int32} {r2 : Option Nat} {x3 : Int32} {o4 : Option Value} {i_2 : Nat} {P_5 : cT → Prop} (l_1 : X.2.1 0 a0) (e_3 : x3 = nI i_2) (c_4 : i_2 < 30) (m_8 : cCv ext X d 18 [cv X 0 (some a0), cv X 6 (T.2 20 a0 i_2)] T P_5) (k_9 : ∀ T_6, P_5 T_6 → cA ext X (d + 1) 16 102 [some (cv X 0 (some a0)), some (.int x1), some (cv X 7 r2), some (.int x3), o4] [] T_6 Q) : cA ext X (d + 1) 16 92 [some (cv X 0 (some a0)), some (.int x1), some (cv X 7 r2), some (.int x3), o4] [] T Q := by
  intro S hS
  refine aw_ald j16_92 rfl (cv_isR _ _ _) ?_
  refine aw_ald j16_93 rfl (cv_isR _ _ _) ?_
  refine aw_get j16_94 (hS.kd l_1) (hS.f 0 rfl l_1) ?_
  refine aw_ild j16_97 rfl ?_
  refine aw_xld (n := 30) j16_98 (hS.kd (hS.fl (s := 0) 0 rfl l_1)) e_3 c_4 (by decide) (hS.r i_2 rfl (hS.fl (s := 0) 0 rfl l_1)) ?_
  refine aw_callv (as := [cv X 0 (some a0), cv X 6 (T.2 20 a0 i_2)]) j16_99 rfl rfl (Nat.le_of_ble_eq_true rfl) cy18.1 cy18.2 (cs_cons rfl (cs_cons (cv_cat _ _ _) cs_nil)) (decide_eq_true (hS.kd l_1)) (m_8 _ hS) (fun S1 h1 => ?_)
  obtain ⟨W1, h1, h2⟩ := h1
  exact k_9 W1 h2 S1 h1
theorem bc16_102 {r0 : Option Nat} {x1 : Int32} {r2 : Option Nat} {x3 : Int32} {o4 : Option Value}  (k_1 : cA ext X d 16 84 [some (cv X 0 r0), some (.int x1), some (cv X 7 r2), some (.int (x3 + 1)), o4] [] T Q) : cA ext X d 16 102 [some (cv X 0 r0), some (.int x1), some (cv X 7 r2), some (.int x3), o4] [] T Q := by
  intro S hS
  refine aw_inc j16_102 rfl ?_
  exact aw_goto j16_105 (k_1 _ hS)
theorem bc16_108 {a0 : Nat} {x1 : Int32} {r2 : Option Nat} {x3 : Int32} {o4 : Option Value} (l_1 : X.2.1 0 a0) (k_2 : ∀ S, cr X T S → Q (some (.int (T.1 4 a0 2))) S) : cA ext X d 16 108 [some (cv X 0 (some a0)), some (.int x1), some (cv X 7 r2), some (.int x3), o4] [] T Q := by
  intro S hS
  refine aw_ald j16_108 rfl (cv_isR _ _ _) ?_
  refine aw_get j16_109 (hS.kd l_1) (hS.f 9 rfl l_1) ?_
  refine aw_get j16_112 (hS.kd (hS.fl (s := 0) 9 rfl l_1)) (hS.i 2 rfl rfl (hS.fl (s := 0) 9 rfl l_1)) ?_
  exact aw_ret j16_115 (by rw [rt16]; exact rfl) (k_2 _ hS)
/-! SM_addFaultsOfDivision -/
theorem bc17_0 {r0 : Option Nat} {a1 : Nat} {P_2 : Int32 → cT → Prop} (l_1 : X.2.1 8 a1) (m_5 : cCi ext X d 53 [cv X 8 (some a1)] T P_2) (k_6 : ∀ v_4 T_3, P_2 v_4 T_3 → cA ext X (d + 1) 17 4 [some (cv X 0 r0), some (cv X 8 (some a1))] [.int v_4] T_3 Q) : cA ext X (d + 1) 17 0 [some (cv X 0 r0), some (cv X 8 (some a1))] [] T Q := by
  intro S hS
  refine aw_ald j17_0 rfl (cv_isR _ _ _) ?_
  refine aw_calli (as := [cv X 8 (some a1)]) j17_1 rfl rfl (Nat.le_of_ble_eq_true rfl) cy53.1 cy53.2 (cs_cons rfl cs_nil) (decide_eq_true (hS.kd l_1)) (m_5 _ hS) (fun v1 S1 h1 => ?_)
  obtain ⟨W1, h1, h2⟩ := h1
  exact k_6 v1 W1 h2 S1 h1
theorem bc17_4 {r0 : Option Nat} {r1 : Option Nat} {xk0 : Int32}  (k_1 : (xk0 = 0) → cA ext X d 17 19 [some (cv X 0 r0), some (cv X 8 r1)] [] T Q) (k_2 : (¬ (xk0 = 0)) → cA ext X d 17 7 [some (cv X 0 r0), some (cv X 8 r1)] [] T Q) : cA ext X d 17 4 [some (cv X 0 r0), some (cv X 8 r1)] [.int xk0] T Q := by
  intro S hS
  exact aw_if j17_4 (fun h => k_1 (of_decide_eq_true h) _ hS) (fun h => k_2 (of_decide_eq_false h) _ hS)
theorem bc17_7 {a0 : Nat} {a1 : Nat} {P_3 : cT → Prop} (l_1 : X.2.1 0 a0) (l_2 : X.2.1 8 a1) (m_6 : cCv ext X d 40 [cv X 4 (some a0), .int (1 : Int32), .int (T.1 8 a1 0)] T P_3) (k_7 : ∀ T_4, P_3 T_4 → cA ext X (d + 1) 17 19 [some (cv X 0 (some a0)), some (cv X 8 (some a1))] [] T_4 Q) : cA ext X (d + 1) 17 7 [some (cv X 0 (some a0)), some (cv X 8 (some a1))] [] T Q := by
  intro S hS
  refine aw_ald j17_7 rfl (cv_isR _ _ _) ?_
  refine aw_get j17_8 (hS.kd l_1) (hS.f 9 rfl l_1) ?_
  refine aw_con j17_11 ?_
  refine aw_ald j17_12 rfl (cv_isR _ _ _) ?_
  refine aw_get j17_13 (hS.kd l_2) (hS.i 0 rfl rfl l_2) ?_
  refine aw_callv (as := [cv X 4 (some a0), .int (1 : Int32), .int (T.1 8 a1 0)]) j17_16 rfl rfl (Nat.le_of_ble_eq_true rfl) cy40.1 cy40.2 (cs_cons rfl (cs_cons rfl (cs_cons rfl cs_nil))) (decide_eq_true (hS.kd (hS.fl (s := 0) 9 rfl l_1))) (m_6 _ hS) (fun S1 h1 => ?_)
  obtain ⟨W1, h1, h2⟩ := h1
  exact k_7 W1 h2 S1 h1
theorem bc17_19 {r0 : Option Nat} {a1 : Nat} {P_2 : Int32 → cT → Prop} (l_1 : X.2.1 8 a1) (m_5 : cCi ext X d 56 [cv X 8 (some a1)] T P_2) (k_6 : ∀ v_4 T_3, P_2 v_4 T_3 → cA ext X (d + 1) 17 23 [some (cv X 0 r0), some (cv X 8 (some a1))] [.int v_4] T_3 Q) : cA ext X (d + 1) 17 19 [some (cv X 0 r0), some (cv X 8 (some a1))] [] T Q := by
  intro S hS
  refine aw_ald j17_19 rfl (cv_isR _ _ _) ?_
  refine aw_calli (as := [cv X 8 (some a1)]) j17_20 rfl rfl (Nat.le_of_ble_eq_true rfl) cy56.1 cy56.2 (cs_cons rfl cs_nil) (decide_eq_true (hS.kd l_1)) (m_5 _ hS) (fun v1 S1 h1 => ?_)
  obtain ⟨W1, h1, h2⟩ := h1
  exact k_6 v1 W1 h2 S1 h1
theorem bc17_23 {r0 : Option Nat} {r1 : Option Nat} {xk0 : Int32}  (k_1 : (xk0 = 0) → cA ext X d 17 38 [some (cv X 0 r0), some (cv X 8 r1)] [] T Q) (k_2 : (¬ (xk0 = 0)) → cA ext X d 17 26 [some (cv X 0 r0), some (cv X 8 r1)] [] T Q) : cA ext X d 17 23 [some (cv X 0 r0), some (cv X 8 r1)] [.int xk0] T Q := by
  intro S hS
  exact aw_if j17_23 (fun h => k_1 (of_decide_eq_true h) _ hS) (fun h => k_2 (of_decide_eq_false h) _ hS)
theorem bc17_26 {a0 : Nat} {a1 : Nat} {P_3 : cT → Prop} (l_1 : X.2.1 0 a0) (l_2 : X.2.1 8 a1) (m_6 : cCv ext X d 40 [cv X 4 (some a0), .int (2 : Int32), .int (T.1 8 a1 0)] T P_3) (k_7 : ∀ T_4, P_3 T_4 → cA ext X (d + 1) 17 38 [some (cv X 0 (some a0)), some (cv X 8 (some a1))] [] T_4 Q) : cA ext X (d + 1) 17 26 [some (cv X 0 (some a0)), some (cv X 8 (some a1))] [] T Q := by
  intro S hS
  refine aw_ald j17_26 rfl (cv_isR _ _ _) ?_
  refine aw_get j17_27 (hS.kd l_1) (hS.f 9 rfl l_1) ?_
  refine aw_con j17_30 ?_
  refine aw_ald j17_31 rfl (cv_isR _ _ _) ?_
  refine aw_get j17_32 (hS.kd l_2) (hS.i 0 rfl rfl l_2) ?_
  refine aw_callv (as := [cv X 4 (some a0), .int (2 : Int32), .int (T.1 8 a1 0)]) j17_35 rfl rfl (Nat.le_of_ble_eq_true rfl) cy40.1 cy40.2 (cs_cons rfl (cs_cons rfl (cs_cons rfl cs_nil))) (decide_eq_true (hS.kd (hS.fl (s := 0) 9 rfl l_1))) (m_6 _ hS) (fun S1 h1 => ?_)
  obtain ⟨W1, h1, h2⟩ := h1
  exact k_7 W1 h2 S1 h1
theorem bc17_38 {r0 : Option Nat} {a1 : Nat} {P_2 : Int32 → cT → Prop} (l_1 : X.2.1 8 a1) (m_5 : cCi ext X d 57 [cv X 8 (some a1)] T P_2) (k_6 : ∀ v_4 T_3, P_2 v_4 T_3 → cA ext X (d + 1) 17 42 [some (cv X 0 r0), some (cv X 8 (some a1))] [.int v_4] T_3 Q) : cA ext X (d + 1) 17 38 [some (cv X 0 r0), some (cv X 8 (some a1))] [] T Q := by
  intro S hS
  refine aw_ald j17_38 rfl (cv_isR _ _ _) ?_
  refine aw_calli (as := [cv X 8 (some a1)]) j17_39 rfl rfl (Nat.le_of_ble_eq_true rfl) cy57.1 cy57.2 (cs_cons rfl cs_nil) (decide_eq_true (hS.kd l_1)) (m_5 _ hS) (fun v1 S1 h1 => ?_)
  obtain ⟨W1, h1, h2⟩ := h1
  exact k_6 v1 W1 h2 S1 h1
theorem bc17_42 {r0 : Option Nat} {r1 : Option Nat} {xk0 : Int32}  (k_1 : (xk0 = 0) → cA ext X d 17 57 [some (cv X 0 r0), some (cv X 8 r1)] [] T Q) (k_2 : (¬ (xk0 = 0)) → cA ext X d 17 45 [some (cv X 0 r0), some (cv X 8 r1)] [] T Q) : cA ext X d 17 42 [some (cv X 0 r0), some (cv X 8 r1)] [.int xk0] T Q := by
  intro S hS
  exact aw_if j17_42 (fun h => k_1 (of_decide_eq_true h) _ hS) (fun h => k_2 (of_decide_eq_false h) _ hS)
theorem bc17_45 {a0 : Nat} {a1 : Nat} {P_3 : cT → Prop} (l_1 : X.2.1 0 a0) (l_2 : X.2.1 8 a1) (m_6 : cCv ext X d 40 [cv X 4 (some a0), .int (3 : Int32), .int (T.1 8 a1 0)] T P_3) (k_7 : ∀ T_4, P_3 T_4 → cA ext X (d + 1) 17 57 [some (cv X 0 (some a0)), some (cv X 8 (some a1))] [] T_4 Q) : cA ext X (d + 1) 17 45 [some (cv X 0 (some a0)), some (cv X 8 (some a1))] [] T Q := by
  intro S hS
  refine aw_ald j17_45 rfl (cv_isR _ _ _) ?_
  refine aw_get j17_46 (hS.kd l_1) (hS.f 9 rfl l_1) ?_
  refine aw_con j17_49 ?_
  refine aw_ald j17_50 rfl (cv_isR _ _ _) ?_
  refine aw_get j17_51 (hS.kd l_2) (hS.i 0 rfl rfl l_2) ?_
  refine aw_callv (as := [cv X 4 (some a0), .int (3 : Int32), .int (T.1 8 a1 0)]) j17_54 rfl rfl (Nat.le_of_ble_eq_true rfl) cy40.1 cy40.2 (cs_cons rfl (cs_cons rfl (cs_cons rfl cs_nil))) (decide_eq_true (hS.kd (hS.fl (s := 0) 9 rfl l_1))) (m_6 _ hS) (fun S1 h1 => ?_)
  obtain ⟨W1, h1, h2⟩ := h1
  exact k_7 W1 h2 S1 h1
theorem bc17_57 {r0 : Option Nat} {r1 : Option Nat}  (k_1 : ∀ S, cr X T S → Q none S) : cA ext X d 17 57 [some (cv X 0 r0), some (cv X 8 r1)] [] T Q := by
  intro S hS
  exact aw_vret j17_57 rt17 (k_1 _ hS)
/-! SM_addFaultsOfFile -/
theorem bc18_0 {r0 : Option Nat} {r1 : Option Nat}  (k_2 : r1 = none → cA ext X d 18 4 [some (cv X 0 r0), some (cv X 6 r1)] [] T Q) (k_3 : ∀ c_1, r1 = some c_1 → cA ext X d 18 5 [some (cv X 0 r0), some (cv X 6 r1)] [] T Q) : cA ext X d 18 0 [some (cv X 0 r0), some (cv X 6 r1)] [] T Q := by
  intro S hS
  refine aw_ald j18_0 rfl (cv_isR _ _ _) ?_
  exact aw_nonn (r := (r1).map (X.1 6)) j18_1 (fun h => k_2 (cv_none h) _ hS) (fun c h => by obtain ⟨c, hc⟩ := cv_some h; exact k_3 c hc _ hS)
theorem bc18_4 {r0 : Option Nat} {r1 : Option Nat}  (k_1 : ∀ S, cr X T S → Q none S) : cA ext X d 18 4 [some (cv X 0 r0), some (cv X 6 r1)] [] T Q := by
  intro S hS
  exact aw_vret j18_4 rt18 (k_1 _ hS)
theorem bc18_5 {a0 : Nat} {a1 : Nat} {P_3 : Int32 → cT → Prop} (l_1 : X.2.1 0 a0) (l_2 : X.2.1 6 a1) (m_6 : cCi ext X d 47 [cv X 6 (some a1), cv X 27 (some a0)] T P_3) (k_7 : ∀ v_5 T_4, P_3 v_5 T_4 → cA ext X (d + 1) 18 16 [some (cv X 0 (some a0)), some (cv X 6 (some a1))] [.int v_5] T_4 Q) : cA ext X (d + 1) 18 5 [some (cv X 0 (some a0)), some (cv X 6 (some a1))] [] T Q := by
  intro S hS
  refine aw_ald j18_5 rfl (cv_isR _ _ _) ?_
  refine aw_ald j18_6 rfl (cv_isR _ _ _) ?_
  refine aw_get j18_7 (hS.kd l_1) (hS.f 7 rfl l_1) ?_
  refine aw_get j18_10 (hS.kd (hS.fl (s := 0) 7 rfl l_1)) (hS.f 3 rfl (hS.fl (s := 0) 7 rfl l_1)) ?_
  refine aw_calli (as := [cv X 6 (some a1), cv X 27 (some a0)]) j18_13 rfl rfl (Nat.le_of_ble_eq_true rfl) cy47.1 cy47.2 (cs_cons rfl (cs_cons rfl cs_nil)) (decide_eq_true (hS.kd l_2)) (m_6 _ hS) (fun v1 S1 h1 => ?_)
  obtain ⟨W1, h1, h2⟩ := h1
  exact k_7 v1 W1 h2 S1 h1
theorem bc18_16 {r0 : Option Nat} {r1 : Option Nat} {xk0 : Int32}  (k_1 : (xk0 = 0) → cA ext X d 18 31 [some (cv X 0 r0), some (cv X 6 r1)] [] T Q) (k_2 : (¬ (xk0 = 0)) → cA ext X d 18 19 [some (cv X 0 r0), some (cv X 6 r1)] [] T Q) : cA ext X d 18 16 [some (cv X 0 r0), some (cv X 6 r1)] [.int xk0] T Q := by
  intro S hS
  exact aw_if j18_16 (fun h => k_1 (of_decide_eq_true h) _ hS) (fun h => k_2 (of_decide_eq_false h) _ hS)
theorem bc18_19 {a0 : Nat} {a1 : Nat} {P_3 : cT → Prop} (l_1 : X.2.1 0 a0) (l_2 : X.2.1 6 a1) (m_6 : cCv ext X d 40 [cv X 4 (some a0), .int (4 : Int32), .int (T.1 6 a1 0)] T P_3) (k_7 : ∀ T_4, P_3 T_4 → cA ext X (d + 1) 18 31 [some (cv X 0 (some a0)), some (cv X 6 (some a1))] [] T_4 Q) : cA ext X (d + 1) 18 19 [some (cv X 0 (some a0)), some (cv X 6 (some a1))] [] T Q := by
  intro S hS
  refine aw_ald j18_19 rfl (cv_isR _ _ _) ?_
  refine aw_get j18_20 (hS.kd l_1) (hS.f 9 rfl l_1) ?_
  refine aw_con j18_23 ?_
  refine aw_ald j18_24 rfl (cv_isR _ _ _) ?_
  refine aw_get j18_25 (hS.kd l_2) (hS.i 0 rfl rfl l_2) ?_
  refine aw_callv (as := [cv X 4 (some a0), .int (4 : Int32), .int (T.1 6 a1 0)]) j18_28 rfl rfl (Nat.le_of_ble_eq_true rfl) cy40.1 cy40.2 (cs_cons rfl (cs_cons rfl (cs_cons rfl cs_nil))) (decide_eq_true (hS.kd (hS.fl (s := 0) 9 rfl l_1))) (m_6 _ hS) (fun S1 h1 => ?_)
  obtain ⟨W1, h1, h2⟩ := h1
  exact k_7 W1 h2 S1 h1
theorem bc18_31 {a0 : Nat} {a1 : Nat} {P_3 : Int32 → cT → Prop} (l_1 : X.2.1 0 a0) (l_2 : X.2.1 6 a1) (m_6 : cCi ext X d 48 [cv X 6 (some a1), cv X 27 (some a0)] T P_3) (k_7 : ∀ v_5 T_4, P_3 v_5 T_4 → cA ext X (d + 1) 18 42 [some (cv X 0 (some a0)), some (cv X 6 (some a1))] [.int v_5] T_4 Q) : cA ext X (d + 1) 18 31 [some (cv X 0 (some a0)), some (cv X 6 (some a1))] [] T Q := by
  intro S hS
  refine aw_ald j18_31 rfl (cv_isR _ _ _) ?_
  refine aw_ald j18_32 rfl (cv_isR _ _ _) ?_
  refine aw_get j18_33 (hS.kd l_1) (hS.f 7 rfl l_1) ?_
  refine aw_get j18_36 (hS.kd (hS.fl (s := 0) 7 rfl l_1)) (hS.f 3 rfl (hS.fl (s := 0) 7 rfl l_1)) ?_
  refine aw_calli (as := [cv X 6 (some a1), cv X 27 (some a0)]) j18_39 rfl rfl (Nat.le_of_ble_eq_true rfl) cy48.1 cy48.2 (cs_cons rfl (cs_cons rfl cs_nil)) (decide_eq_true (hS.kd l_2)) (m_6 _ hS) (fun v1 S1 h1 => ?_)
  obtain ⟨W1, h1, h2⟩ := h1
  exact k_7 v1 W1 h2 S1 h1
theorem bc18_42 {r0 : Option Nat} {r1 : Option Nat} {xk0 : Int32}  (k_1 : (xk0 = 0) → cA ext X d 18 57 [some (cv X 0 r0), some (cv X 6 r1)] [] T Q) (k_2 : (¬ (xk0 = 0)) → cA ext X d 18 45 [some (cv X 0 r0), some (cv X 6 r1)] [] T Q) : cA ext X d 18 42 [some (cv X 0 r0), some (cv X 6 r1)] [.int xk0] T Q := by
  intro S hS
  exact aw_if j18_42 (fun h => k_1 (of_decide_eq_true h) _ hS) (fun h => k_2 (of_decide_eq_false h) _ hS)
theorem bc18_45 {a0 : Nat} {a1 : Nat} {P_3 : cT → Prop} (l_1 : X.2.1 0 a0) (l_2 : X.2.1 6 a1) (m_6 : cCv ext X d 40 [cv X 4 (some a0), .int (5 : Int32), .int (T.1 6 a1 0)] T P_3) (k_7 : ∀ T_4, P_3 T_4 → cA ext X (d + 1) 18 57 [some (cv X 0 (some a0)), some (cv X 6 (some a1))] [] T_4 Q) : cA ext X (d + 1) 18 45 [some (cv X 0 (some a0)), some (cv X 6 (some a1))] [] T Q := by
  intro S hS
  refine aw_ald j18_45 rfl (cv_isR _ _ _) ?_
  refine aw_get j18_46 (hS.kd l_1) (hS.f 9 rfl l_1) ?_
  refine aw_con j18_49 ?_
  refine aw_ald j18_50 rfl (cv_isR _ _ _) ?_
  refine aw_get j18_51 (hS.kd l_2) (hS.i 0 rfl rfl l_2) ?_
  refine aw_callv (as := [cv X 4 (some a0), .int (5 : Int32), .int (T.1 6 a1 0)]) j18_54 rfl rfl (Nat.le_of_ble_eq_true rfl) cy40.1 cy40.2 (cs_cons rfl (cs_cons rfl (cs_cons rfl cs_nil))) (decide_eq_true (hS.kd (hS.fl (s := 0) 9 rfl l_1))) (m_6 _ hS) (fun S1 h1 => ?_)
  obtain ⟨W1, h1, h2⟩ := h1
  exact k_7 W1 h2 S1 h1
theorem bc18_57 {r0 : Option Nat} {r1 : Option Nat}  (k_1 : ∀ S, cr X T S → Q none S) : cA ext X d 18 57 [some (cv X 0 r0), some (cv X 6 r1)] [] T Q := by
  intro S hS
  exact aw_vret j18_57 rt18 (k_1 _ hS)
/-! SM_print -/
theorem bc19_0 {a0 : Nat} {x1 : Int32} {o2 : Option Value} {o3 : Option Value} {o4 : Option Value} {P_2 : Option Nat → cT → Prop} (l_1 : X.2.1 0 a0) (m_5 : cCr ext X 7 d 7 [cv X 0 (some a0), .int x1] T P_2) (k_6 : ∀ v_4 T_3, P_2 v_4 T_3 → cA ext X (d + 1) 19 5 [some (cv X 0 (some a0)), some (.int x1), o2, o3, o4] [cv X 7 v_4] T_3 Q) : cA ext X (d + 1) 19 0 [some (cv X 0 (some a0)), some (.int x1), o2, o3, o4] [] T Q := by
  intro S hS
  refine aw_ald j19_0 rfl (cv_isR _ _ _) ?_
  refine aw_ild j19_1 rfl ?_
  refine aw_callr (as := [cv X 0 (some a0), .int x1]) j19_2 rfl rfl (Nat.le_of_ble_eq_true rfl) cy7.1 cy7.2 (cs_cons rfl (cs_cons rfl cs_nil)) (decide_eq_true (hS.kd l_1)) (m_5 _ hS) (fun v1 S1 h1 => ?_)
  obtain ⟨o1, W1, he, h1, h2⟩ := h1
  subst he
  exact k_6 o1 W1 h2 S1 h1
theorem bc19_5 {r0 : Option Nat} {x1 : Int32} {o2 : Option Value} {o3 : Option Value} {o4 : Option Value} {rk0 : Option Nat}  (k_2 : rk0 = none → cA ext X d 19 10 [some (cv X 0 r0), some (.int x1), some (cv X 7 rk0), o3, o4] [] T Q) (k_3 : ∀ c_1, rk0 = some c_1 → cA ext X d 19 12 [some (cv X 0 r0), some (.int x1), some (cv X 7 rk0), o3, o4] [] T Q) : cA ext X d 19 5 [some (cv X 0 r0), some (.int x1), o2, o3, o4] [cv X 7 rk0] T Q := by
  intro S hS
  refine aw_ast j19_5 (cv_isR _ _ _) (Nat.le_of_ble_eq_true rfl) ?_
  refine aw_ald j19_6 rfl (cv_isR _ _ _) ?_
  exact aw_nonn (r := (rk0).map (X.1 7)) j19_7 (fun h => k_2 (cv_none h) _ hS) (fun c h => by obtain ⟨c, hc⟩ := cv_some h; exact k_3 c hc _ hS)
theorem bc19_10 {r0 : Option Nat} {x1 : Int32} {r2 : Option Nat} {o3 : Option Value} {o4 : Option Value}  (k_1 : ∀ S, cr X T S → Q (some (.int (-1 : Int32))) S) : cA ext X d 19 10 [some (cv X 0 r0), some (.int x1), some (cv X 7 r2), o3, o4] [] T Q := by
  intro S hS
  refine aw_con j19_10 ?_
  exact aw_ret j19_11 (by rw [rt19]; exact rfl) (k_1 _ hS)
theorem bc19_12 {a0 : Nat} {x1 : Int32} {a2 : Nat} {o3 : Option Value} {o4 : Option Value} {b_3 : Nat} {P_5 : Option Nat → cT → Prop} (l_1 : X.2.1 0 a0) (l_2 : X.2.1 7 a2) (f_4 : (iset T 5 a0 1 (0 : Int32)).2 7 a2 1 = some b_3) (m_8 : cCr ext X 8 d 55 [cv X 8 (some b_3), cv X 8 ((iset T 5 a0 1 (0 : Int32)).2 7 a2 1)] (iset T 5 a0 1 (0 : Int32)) P_5) (k_9 : ∀ v_7 T_6, P_5 v_7 T_6 → cA ext X (d + 1) 19 31 [some (cv X 0 (some a0)), some (.int x1), some (cv X 7 (some a2)), o3, o4] [cv X 8 v_7] T_6 Q) : cA ext X (d + 1) 19 12 [some (cv X 0 (some a0)), some (.int x1), some (cv X 7 (some a2)), o3, o4] [] T Q := by
  intro S hS
  refine aw_ald j19_12 rfl (cv_isR _ _ _) ?_
  refine aw_get j19_13 (hS.kd l_1) (hS.f 10 rfl l_1) ?_
  refine aw_con j19_16 ?_
  refine aw_put j19_17 (hS.kd (hS.fl (s := 0) 10 rfl l_1)) rfl ?_
  have hS := hS.seti (s := 5) 1 (0 : Int32) rfl rfl (hS.fl (s := 0) 10 rfl l_1)
  refine aw_ald j19_20 rfl (cv_isR _ _ _) ?_
  refine aw_get j19_21 (hS.kd l_2) (hS.rr 1 rfl l_2 f_4) ?_
  refine aw_ald j19_24 rfl (cv_isR _ _ _) ?_
  refine aw_get j19_25 (hS.kd l_2) (hS.r 1 rfl l_2) ?_
  refine aw_callr (as := [cv X 8 (some b_3), cv X 8 ((iset T 5 a0 1 (0 : Int32)).2 7 a2 1)]) j19_28 rfl rfl (Nat.le_of_ble_eq_true rfl) cy55.1 cy55.2 (cs_cons rfl (cs_cons (cv_cat _ _ _) cs_nil)) (decide_eq_true (hS.kd (hS.rl 1 rfl l_2 _ f_4))) (m_8 _ hS) (fun v1 S1 h1 => ?_)
  obtain ⟨o1, W1, he, h1, h2⟩ := h1
  subst he
  exact k_9 o1 W1 h2 S1 h1
theorem bc19_31 {r0 : Option Nat} {x1 : Int32} {r2 : Option Nat} {o3 : Option Value} {o4 : Option Value} {rk0 : Option Nat}  (k_1 : cA ext X d 19 35 [some (cv X 0 r0), some (.int x1), some (cv X 7 r2), some (cv X 8 rk0), some (.int (0 : Int32))] [] T Q) : cA ext X d 19 31 [some (cv X 0 r0), some (.int x1), some (cv X 7 r2), o3, o4] [cv X 8 rk0] T Q := by
  intro S hS
  refine aw_ast j19_31 (cv_isR _ _ _) (Nat.le_of_ble_eq_true rfl) ?_
  refine aw_con j19_32 ?_
  refine aw_ist j19_33 (Nat.le_of_ble_eq_true rfl) ?_
  exact k_1 _ hS
theorem bc19_35 {r0 : Option Nat} {x1 : Int32} {r2 : Option Nat} {r3 : Option Nat} {x4 : Int32}  (k_1 : ((120 : Int32) ≤ x4) → cA ext X d 19 69 [some (cv X 0 r0), some (.int x1), some (cv X 7 r2), some (cv X 8 r3), some (.int x4)] [] T Q) (k_2 : (¬ ((120 : Int32) ≤ x4)) → cA ext X d 19 42 [some (cv X 0 r0), some (.int x1), some (cv X 7 r2), some (cv X 8 r3), some (.int x4)] [] T Q) : cA ext X d 19 35 [some (cv X 0 r0), some (.int x1), some (cv X 7 r2), some (cv X 8 r3), some (.int x4)] [] T Q := by
  intro S hS
  refine aw_ild j19_35 rfl ?_
  refine aw_con j19_37 ?_
  exact aw_ic j19_39 (fun h => k_1 (of_decide_eq_true h) _ hS) (fun h => k_2 (of_decide_eq_false h) _ hS)
theorem bc19_42 {r0 : Option Nat} {x1 : Int32} {r2 : Option Nat} {r3 : Option Nat} {x4 : Int32}  (k_2 : r3 = none → cA ext X d 19 69 [some (cv X 0 r0), some (.int x1), some (cv X 7 r2), some (cv X 8 r3), some (.int x4)] [] T Q) (k_3 : ∀ c_1, r3 = some c_1 → cA ext X d 19 46 [some (cv X 0 r0), some (.int x1), some (cv X 7 r2), some (cv X 8 r3), some (.int x4)] [] T Q) : cA ext X d 19 42 [some (cv X 0 r0), some (.int x1), some (cv X 7 r2), some (cv X 8 r3), some (.int x4)] [] T Q := by
  intro S hS
  refine aw_ald j19_42 rfl (cv_isR _ _ _) ?_
  exact aw_null (r := (r3).map (X.1 8)) j19_43 (fun h => k_2 (cv_none h) _ hS) (fun c h => by obtain ⟨c, hc⟩ := cv_some h; exact k_3 c hc _ hS)
theorem bc19_46 {a0 : Nat} {x1 : Int32} {r2 : Option Nat} {r3 : Option Nat} {x4 : Int32} {P_2 : cT → Prop} (l_1 : X.2.1 0 a0) (m_5 : cCv ext X d 42 [cv X 5 (some a0), cv X 8 r3] T P_2) (k_6 : ∀ T_3, P_2 T_3 → cA ext X (d + 1) 19 54 [some (cv X 0 (some a0)), some (.int x1), some (cv X 7 r2), some (cv X 8 r3), some (.int x4)] [] T_3 Q) : cA ext X (d + 1) 19 46 [some (cv X 0 (some a0)), some (.int x1), some (cv X 7 r2), some (cv X 8 r3), some (.int x4)] [] T Q := by
  intro S hS
  refine aw_ald j19_46 rfl (cv_isR _ _ _) ?_
  refine aw_get j19_47 (hS.kd l_1) (hS.f 10 rfl l_1) ?_
  refine aw_ald j19_50 rfl (cv_isR _ _ _) ?_
  refine aw_callv (as := [cv X 5 (some a0), cv X 8 r3]) j19_51 rfl rfl (Nat.le_of_ble_eq_true rfl) cy42.1 cy42.2 (cs_cons rfl (cs_cons (cv_cat _ _ _) cs_nil)) (decide_eq_true (hS.kd (hS.fl (s := 0) 10 rfl l_1))) (m_5 _ hS) (fun S1 h1 => ?_)
  obtain ⟨W1, h1, h2⟩ := h1
  exact k_6 W1 h2 S1 h1
theorem bc19_54 {r0 : Option Nat} {x1 : Int32} {a2 : Nat} {a3 : Nat} {x4 : Int32} {P_3 : Option Nat → cT → Prop} (l_1 : X.2.1 7 a2) (l_2 : X.2.1 8 a3) (m_6 : cCr ext X 8 d 55 [cv X 8 (some a3), cv X 8 (T.2 7 a2 1)] T P_3) (k_7 : ∀ v_5 T_4, P_3 v_5 T_4 → cA ext X (d + 1) 19 62 [some (cv X 0 r0), some (.int x1), some (cv X 7 (some a2)), some (cv X 8 (some a3)), some (.int x4)] [cv X 8 v_5] T_4 Q) : cA ext X (d + 1) 19 54 [some (cv X 0 r0), some (.int x1), some (cv X 7 (some a2)), some (cv X 8 (some a3)), some (.int x4)] [] T Q := by
  intro S hS
  refine aw_ald j19_54 rfl (cv_isR _ _ _) ?_
  refine aw_ald j19_55 rfl (cv_isR _ _ _) ?_
  refine aw_get j19_56 (hS.kd l_1) (hS.r 1 rfl l_1) ?_
  refine aw_callr (as := [cv X 8 (some a3), cv X 8 (T.2 7 a2 1)]) j19_59 rfl rfl (Nat.le_of_ble_eq_true rfl) cy55.1 cy55.2 (cs_cons rfl (cs_cons (cv_cat _ _ _) cs_nil)) (decide_eq_true (hS.kd l_2)) (m_6 _ hS) (fun v1 S1 h1 => ?_)
  obtain ⟨o1, W1, he, h1, h2⟩ := h1
  subst he
  exact k_7 o1 W1 h2 S1 h1
theorem bc19_62 {r0 : Option Nat} {x1 : Int32} {r2 : Option Nat} {r3 : Option Nat} {x4 : Int32} {rk0 : Option Nat}  (k_1 : cA ext X d 19 35 [some (cv X 0 r0), some (.int x1), some (cv X 7 r2), some (cv X 8 rk0), some (.int (x4 + 1))] [] T Q) : cA ext X d 19 62 [some (cv X 0 r0), some (.int x1), some (cv X 7 r2), some (cv X 8 r3), some (.int x4)] [cv X 8 rk0] T Q := by
  intro S hS
  refine aw_ast j19_62 (cv_isR _ _ _) (Nat.le_of_ble_eq_true rfl) ?_
  refine aw_inc j19_63 rfl ?_
  exact aw_goto j19_66 (k_1 _ hS)
theorem bc19_69 {a0 : Nat} {x1 : Int32} {r2 : Option Nat} {r3 : Option Nat} {x4 : Int32} (l_1 : X.2.1 0 a0) (k_2 : ∀ S, cr X T S → Q (some (.int (T.1 5 a0 1))) S) : cA ext X d 19 69 [some (cv X 0 (some a0)), some (.int x1), some (cv X 7 r2), some (cv X 8 r3), some (.int x4)] [] T Q := by
  intro S hS
  refine aw_ald j19_69 rfl (cv_isR _ _ _) ?_
  refine aw_get j19_70 (hS.kd l_1) (hS.f 10 rfl l_1) ?_
  refine aw_get j19_73 (hS.kd (hS.fl (s := 0) 10 rfl l_1)) (hS.i 1 rfl rfl (hS.fl (s := 0) 10 rfl l_1)) ?_
  exact aw_ret j19_76 (by rw [rt19]; exact rfl) (k_2 _ hS)
/-! SM_at -/
theorem bc20_0 {r0 : Option Nat} {x1 : Int32}  (k_1 : (x1 < 0) → cA ext X d 20 15 [some (cv X 0 r0), some (.int x1)] [] T Q) (k_2 : (¬ (x1 < 0)) → cA ext X d 20 4 [some (cv X 0 r0), some (.int x1)] [] T Q) : cA ext X d 20 0 [some (cv X 0 r0), some (.int x1)] [] T Q := by
  intro S hS
  refine aw_ild j20_0 rfl ?_
  exact aw_if j20_1 (fun h => k_1 (of_decide_eq_true h) _ hS) (fun h => k_2 (of_decide_eq_false h) _ hS)
theorem bc20_4 {a0 : Nat} {x1 : Int32} (l_1 : X.2.1 0 a0) (k_2 : (x1 < (T.1 5 a0 1)) → cA ext X d 20 17 [some (cv X 0 (some a0)), some (.int x1)] [] T Q) (k_3 : (¬ (x1 < (T.1 5 a0 1))) → cA ext X d 20 15 [some (cv X 0 (some a0)), some (.int x1)] [] T Q) : cA ext X d 20 4 [some (cv X 0 (some a0)), some (.int x1)] [] T Q := by
  intro S hS
  refine aw_ild j20_4 rfl ?_
  refine aw_ald j20_5 rfl (cv_isR _ _ _) ?_
  refine aw_get j20_6 (hS.kd l_1) (hS.f 10 rfl l_1) ?_
  refine aw_get j20_9 (hS.kd (hS.fl (s := 0) 10 rfl l_1)) (hS.i 1 rfl rfl (hS.fl (s := 0) 10 rfl l_1)) ?_
  exact aw_ic j20_12 (fun h => k_2 (of_decide_eq_true h) _ hS) (fun h => k_3 (of_decide_eq_false h) _ hS)
theorem bc20_15 {r0 : Option Nat} {x1 : Int32}  (k_1 : ∀ S, cr X T S → Q (some (.int (-1 : Int32))) S) : cA ext X d 20 15 [some (cv X 0 r0), some (.int x1)] [] T Q := by
  intro S hS
  refine aw_con j20_15 ?_
  exact aw_ret j20_16 (by rw [rt20]; exact rfl) (k_1 _ hS)
theorem bc20_17 {a0 : Nat} {x1 : Int32} {i_2 : Nat} (l_1 : X.2.1 0 a0) (e_3 : x1 = nI i_2) (c_4 : i_2 < 7860) (k_5 : ∀ S, cr X T S → Q (some (.int (T.1 33 a0 i_2))) S) : cA ext X d 20 17 [some (cv X 0 (some a0)), some (.int x1)] [] T Q := by
  intro S hS
  refine aw_ald j20_17 rfl (cv_isR _ _ _) ?_
  refine aw_get j20_18 (hS.kd l_1) (hS.f 10 rfl l_1) ?_
  refine aw_get j20_21 (hS.kd (hS.fl (s := 0) 10 rfl l_1)) (hS.f 0 rfl (hS.fl (s := 0) 10 rfl l_1)) ?_
  refine aw_ild j20_24 rfl ?_
  refine aw_xld (n := 7860) j20_25 (hS.kd (hS.fl (s := 5) 0 rfl (hS.fl (s := 0) 10 rfl l_1))) e_3 c_4 (by decide) (hS.i i_2 rfl rfl (hS.fl (s := 5) 0 rfl (hS.fl (s := 0) 10 rfl l_1))) ?_
  exact aw_ret j20_26 (by rw [rt20]; exact rfl) (k_5 _ hS)
/-! SM_differ -/
theorem bc21_0 {a0 : Nat} {x1 : Int32} {x2 : Int32} {o3 : Option Value} {o4 : Option Value} {o5 : Option Value} {o6 : Option Value} {o7 : Option Value} {o8 : Option Value} {P_2 : Option Nat → cT → Prop} (l_1 : X.2.1 0 a0) (m_5 : cCr ext X 7 d 7 [cv X 0 (some a0), .int x1] T P_2) (k_6 : ∀ v_4 T_3, P_2 v_4 T_3 → cA ext X (d + 1) 21 5 [some (cv X 0 (some a0)), some (.int x1), some (.int x2), o3, o4, o5, o6, o7, o8] [cv X 7 v_4] T_3 Q) : cA ext X (d + 1) 21 0 [some (cv X 0 (some a0)), some (.int x1), some (.int x2), o3, o4, o5, o6, o7, o8] [] T Q := by
  intro S hS
  refine aw_ald j21_0 rfl (cv_isR _ _ _) ?_
  refine aw_ild j21_1 rfl ?_
  refine aw_callr (as := [cv X 0 (some a0), .int x1]) j21_2 rfl rfl (Nat.le_of_ble_eq_true rfl) cy7.1 cy7.2 (cs_cons rfl (cs_cons rfl cs_nil)) (decide_eq_true (hS.kd l_1)) (m_5 _ hS) (fun v1 S1 h1 => ?_)
  obtain ⟨o1, W1, he, h1, h2⟩ := h1
  subst he
  exact k_6 o1 W1 h2 S1 h1
theorem bc21_5 {a0 : Nat} {x1 : Int32} {x2 : Int32} {o3 : Option Value} {o4 : Option Value} {o5 : Option Value} {o6 : Option Value} {o7 : Option Value} {o8 : Option Value} {rk0 : Option Nat} {P_2 : Option Nat → cT → Prop} (l_1 : X.2.1 0 a0) (m_5 : cCr ext X 7 d 7 [cv X 0 (some a0), .int x2] T P_2) (k_6 : ∀ v_4 T_3, P_2 v_4 T_3 → cA ext X (d + 1) 21 11 [some (cv X 0 (some a0)), some (.int x1), some (.int x2), some (cv X 7 rk0), o4, o5, o6, o7, o8] [cv X 7 v_4] T_3 Q) : cA ext X (d + 1) 21 5 [some (cv X 0 (some a0)), some (.int x1), some (.int x2), o3, o4, o5, o6, o7, o8] [cv X 7 rk0] T Q := by
  intro S hS
  refine aw_ast j21_5 (cv_isR _ _ _) (Nat.le_of_ble_eq_true rfl) ?_
  refine aw_ald j21_6 rfl (cv_isR _ _ _) ?_
  refine aw_ild j21_7 rfl ?_
  refine aw_callr (as := [cv X 0 (some a0), .int x2]) j21_8 rfl rfl (Nat.le_of_ble_eq_true rfl) cy7.1 cy7.2 (cs_cons rfl (cs_cons rfl cs_nil)) (decide_eq_true (hS.kd l_1)) (m_5 _ hS) (fun v1 S1 h1 => ?_)
  obtain ⟨o1, W1, he, h1, h2⟩ := h1
  subst he
  exact k_6 o1 W1 h2 S1 h1
theorem bc21_11 {r0 : Option Nat} {x1 : Int32} {x2 : Int32} {r3 : Option Nat} {o4 : Option Value} {o5 : Option Value} {o6 : Option Value} {o7 : Option Value} {o8 : Option Value} {rk0 : Option Nat}  (k_2 : r3 = none → cA ext X d 21 22 [some (cv X 0 r0), some (.int x1), some (.int x2), some (cv X 7 r3), some (cv X 7 rk0), o5, o6, o7, o8] [] T Q) (k_3 : ∀ c_1, r3 = some c_1 → cA ext X d 21 17 [some (cv X 0 r0), some (.int x1), some (.int x2), some (cv X 7 r3), some (cv X 7 rk0), o5, o6, o7, o8] [] T Q) : cA ext X d 21 11 [some (cv X 0 r0), some (.int x1), some (.int x2), some (cv X 7 r3), o4, o5, o6, o7, o8] [cv X 7 rk0] T Q := by
  intro S hS
  refine aw_ast j21_11 (cv_isR _ _ _) (Nat.le_of_ble_eq_true rfl) ?_
  refine aw_ald j21_13 rfl (cv_isR _ _ _) ?_
  exact aw_null (r := (r3).map (X.1 7)) j21_14 (fun h => k_2 (cv_none h) _ hS) (fun c h => by obtain ⟨c, hc⟩ := cv_some h; exact k_3 c hc _ hS)
theorem bc21_17 {r0 : Option Nat} {x1 : Int32} {x2 : Int32} {r3 : Option Nat} {r4 : Option Nat} {o5 : Option Value} {o6 : Option Value} {o7 : Option Value} {o8 : Option Value}  (k_2 : r4 = none → cA ext X d 21 22 [some (cv X 0 r0), some (.int x1), some (.int x2), some (cv X 7 r3), some (cv X 7 r4), o5, o6, o7, o8] [] T Q) (k_3 : ∀ c_1, r4 = some c_1 → cA ext X d 21 24 [some (cv X 0 r0), some (.int x1), some (.int x2), some (cv X 7 r3), some (cv X 7 r4), o5, o6, o7, o8] [] T Q) : cA ext X d 21 17 [some (cv X 0 r0), some (.int x1), some (.int x2), some (cv X 7 r3), some (cv X 7 r4), o5, o6, o7, o8] [] T Q := by
  intro S hS
  refine aw_ald j21_17 rfl (cv_isR _ _ _) ?_
  exact aw_nonn (r := (r4).map (X.1 7)) j21_19 (fun h => k_2 (cv_none h) _ hS) (fun c h => by obtain ⟨c, hc⟩ := cv_some h; exact k_3 c hc _ hS)
theorem bc21_22 {r0 : Option Nat} {x1 : Int32} {x2 : Int32} {r3 : Option Nat} {r4 : Option Nat} {o5 : Option Value} {o6 : Option Value} {o7 : Option Value} {o8 : Option Value}  (k_1 : ∀ S, cr X T S → Q (some (.int (-1 : Int32))) S) : cA ext X d 21 22 [some (cv X 0 r0), some (.int x1), some (.int x2), some (cv X 7 r3), some (cv X 7 r4), o5, o6, o7, o8] [] T Q := by
  intro S hS
  refine aw_con j21_22 ?_
  exact aw_ret j21_23 (by rw [rt21]; exact rfl) (k_1 _ hS)
theorem bc21_24 {r0 : Option Nat} {x1 : Int32} {x2 : Int32} {a3 : Nat} {r4 : Option Nat} {o5 : Option Value} {o6 : Option Value} {o7 : Option Value} {o8 : Option Value} {b_2 : Nat} {P_4 : Option Nat → cT → Prop} (l_1 : X.2.1 7 a3) (f_3 : T.2 7 a3 1 = some b_2) (m_7 : cCr ext X 8 d 55 [cv X 8 (some b_2), cv X 8 (T.2 7 a3 1)] T P_4) (k_8 : ∀ v_6 T_5, P_4 v_6 T_5 → cA ext X (d + 1) 21 35 [some (cv X 0 r0), some (.int x1), some (.int x2), some (cv X 7 (some a3)), some (cv X 7 r4), o5, o6, o7, o8] [cv X 8 v_6] T_5 Q) : cA ext X (d + 1) 21 24 [some (cv X 0 r0), some (.int x1), some (.int x2), some (cv X 7 (some a3)), some (cv X 7 r4), o5, o6, o7, o8] [] T Q := by
  intro S hS
  refine aw_ald j21_24 rfl (cv_isR _ _ _) ?_
  refine aw_get j21_25 (hS.kd l_1) (hS.rr 1 rfl l_1 f_3) ?_
  refine aw_ald j21_28 rfl (cv_isR _ _ _) ?_
  refine aw_get j21_29 (hS.kd l_1) (hS.r 1 rfl l_1) ?_
  refine aw_callr (as := [cv X 8 (some b_2), cv X 8 (T.2 7 a3 1)]) j21_32 rfl rfl (Nat.le_of_ble_eq_true rfl) cy55.1 cy55.2 (cs_cons rfl (cs_cons (cv_cat _ _ _) cs_nil)) (decide_eq_true (hS.kd (hS.rl 1 rfl l_1 _ f_3))) (m_7 _ hS) (fun v1 S1 h1 => ?_)
  obtain ⟨o1, W1, he, h1, h2⟩ := h1
  subst he
  exact k_8 o1 W1 h2 S1 h1
theorem bc21_35 {r0 : Option Nat} {x1 : Int32} {x2 : Int32} {r3 : Option Nat} {a4 : Nat} {o5 : Option Value} {o6 : Option Value} {o7 : Option Value} {o8 : Option Value} {rk0 : Option Nat} {b_2 : Nat} {P_4 : Option Nat → cT → Prop} (l_1 : X.2.1 7 a4) (f_3 : T.2 7 a4 1 = some b_2) (m_7 : cCr ext X 8 d 55 [cv X 8 (some b_2), cv X 8 (T.2 7 a4 1)] T P_4) (k_8 : ∀ v_6 T_5, P_4 v_6 T_5 → cA ext X (d + 1) 21 50 [some (cv X 0 r0), some (.int x1), some (.int x2), some (cv X 7 r3), some (cv X 7 (some a4)), some (cv X 8 rk0), o6, o7, o8] [cv X 8 v_6] T_5 Q) : cA ext X (d + 1) 21 35 [some (cv X 0 r0), some (.int x1), some (.int x2), some (cv X 7 r3), some (cv X 7 (some a4)), o5, o6, o7, o8] [cv X 8 rk0] T Q := by
  intro S hS
  refine aw_ast j21_35 (cv_isR _ _ _) (Nat.le_of_ble_eq_true rfl) ?_
  refine aw_ald j21_37 rfl (cv_isR _ _ _) ?_
  refine aw_get j21_39 (hS.kd l_1) (hS.rr 1 rfl l_1 f_3) ?_
  refine aw_ald j21_42 rfl (cv_isR _ _ _) ?_
  refine aw_get j21_44 (hS.kd l_1) (hS.r 1 rfl l_1) ?_
  refine aw_callr (as := [cv X 8 (some b_2), cv X 8 (T.2 7 a4 1)]) j21_47 rfl rfl (Nat.le_of_ble_eq_true rfl) cy55.1 cy55.2 (cs_cons rfl (cs_cons (cv_cat _ _ _) cs_nil)) (decide_eq_true (hS.kd (hS.rl 1 rfl l_1 _ f_3))) (m_7 _ hS) (fun v1 S1 h1 => ?_)
  obtain ⟨o1, W1, he, h1, h2⟩ := h1
  subst he
  exact k_8 o1 W1 h2 S1 h1
theorem bc21_50 {r0 : Option Nat} {x1 : Int32} {x2 : Int32} {r3 : Option Nat} {r4 : Option Nat} {r5 : Option Nat} {o6 : Option Value} {o7 : Option Value} {o8 : Option Value} {rk0 : Option Nat}  (k_1 : cA ext X d 21 58 [some (cv X 0 r0), some (.int x1), some (.int x2), some (cv X 7 r3), some (cv X 7 r4), some (cv X 8 r5), some (cv X 8 rk0), some (.int (0 : Int32)), some (.int (0 : Int32))] [] T Q) : cA ext X d 21 50 [some (cv X 0 r0), some (.int x1), some (.int x2), some (cv X 7 r3), some (cv X 7 r4), some (cv X 8 r5), o6, o7, o8] [cv X 8 rk0] T Q := by
  intro S hS
  refine aw_ast j21_50 (cv_isR _ _ _) (Nat.le_of_ble_eq_true rfl) ?_
  refine aw_con j21_52 ?_
  refine aw_ist j21_53 (Nat.le_of_ble_eq_true rfl) ?_
  refine aw_con j21_55 ?_
  refine aw_ist j21_56 (Nat.le_of_ble_eq_true rfl) ?_
  exact k_1 _ hS
theorem bc21_58 {r0 : Option Nat} {x1 : Int32} {x2 : Int32} {r3 : Option Nat} {r4 : Option Nat} {r5 : Option Nat} {r6 : Option Nat} {x7 : Int32} {x8 : Int32}  (k_1 : ((120 : Int32) ≤ x8) → cA ext X d 21 135 [some (cv X 0 r0), some (.int x1), some (.int x2), some (cv X 7 r3), some (cv X 7 r4), some (cv X 8 r5), some (cv X 8 r6), some (.int x7), some (.int x8)] [] T Q) (k_2 : (¬ ((120 : Int32) ≤ x8)) → cA ext X d 21 65 [some (cv X 0 r0), some (.int x1), some (.int x2), some (cv X 7 r3), some (cv X 7 r4), some (cv X 8 r5), some (cv X 8 r6), some (.int x7), some (.int x8)] [] T Q) : cA ext X d 21 58 [some (cv X 0 r0), some (.int x1), some (.int x2), some (cv X 7 r3), some (cv X 7 r4), some (cv X 8 r5), some (cv X 8 r6), some (.int x7), some (.int x8)] [] T Q := by
  intro S hS
  refine aw_ild j21_58 rfl ?_
  refine aw_con j21_60 ?_
  exact aw_ic j21_62 (fun h => k_1 (of_decide_eq_true h) _ hS) (fun h => k_2 (of_decide_eq_false h) _ hS)
theorem bc21_65 {r0 : Option Nat} {x1 : Int32} {x2 : Int32} {r3 : Option Nat} {r4 : Option Nat} {r5 : Option Nat} {r6 : Option Nat} {x7 : Int32} {x8 : Int32}  (k_2 : r5 = none → cA ext X d 21 70 [some (cv X 0 r0), some (.int x1), some (.int x2), some (cv X 7 r3), some (cv X 7 r4), some (cv X 8 r5), some (cv X 8 r6), some (.int x7), some (.int x8)] [] T Q) (k_3 : ∀ c_1, r5 = some c_1 → cA ext X d 21 75 [some (cv X 0 r0), some (.int x1), some (.int x2), some (cv X 7 r3), some (cv X 7 r4), some (cv X 8 r5), some (cv X 8 r6), some (.int x7), some (.int x8)] [] T Q) : cA ext X d 21 65 [some (cv X 0 r0), some (.int x1), some (.int x2), some (cv X 7 r3), some (cv X 7 r4), some (cv X 8 r5), some (cv X 8 r6), some (.int x7), some (.int x8)] [] T Q := by
  intro S hS
  refine aw_ald j21_65 rfl (cv_isR _ _ _) ?_
  exact aw_nonn (r := (r5).map (X.1 8)) j21_67 (fun h => k_2 (cv_none h) _ hS) (fun c h => by obtain ⟨c, hc⟩ := cv_some h; exact k_3 c hc _ hS)
theorem bc21_70 {r0 : Option Nat} {x1 : Int32} {x2 : Int32} {r3 : Option Nat} {r4 : Option Nat} {r5 : Option Nat} {r6 : Option Nat} {x7 : Int32} {x8 : Int32}  (k_2 : r6 = none → cA ext X d 21 135 [some (cv X 0 r0), some (.int x1), some (.int x2), some (cv X 7 r3), some (cv X 7 r4), some (cv X 8 r5), some (cv X 8 r6), some (.int x7), some (.int x8)] [] T Q) (k_3 : ∀ c_1, r6 = some c_1 → cA ext X d 21 75 [some (cv X 0 r0), some (.int x1), some (.int x2), some (cv X 7 r3), some (cv X 7 r4), some (cv X 8 r5), some (cv X 8 r6), some (.int x7), some (.int x8)] [] T Q) : cA ext X d 21 70 [some (cv X 0 r0), some (.int x1), some (.int x2), some (cv X 7 r3), some (cv X 7 r4), some (cv X 8 r5), some (cv X 8 r6), some (.int x7), some (.int x8)] [] T Q := by
  intro S hS
  refine aw_ald j21_70 rfl (cv_isR _ _ _) ?_
  exact aw_null (r := (r6).map (X.1 8)) j21_72 (fun h => k_2 (cv_none h) _ hS) (fun c h => by obtain ⟨c, hc⟩ := cv_some h; exact k_3 c hc _ hS)
theorem bc21_75 {r0 : Option Nat} {x1 : Int32} {x2 : Int32} {r3 : Option Nat} {r4 : Option Nat} {r5 : Option Nat} {r6 : Option Nat} {x7 : Int32} {x8 : Int32} {P_1 : Int32 → cT → Prop} (m_4 : cCi ext X d 22 [cv X 8 r5, cv X 8 r6] T P_1) (k_5 : ∀ v_3 T_2, P_1 v_3 T_2 → cA ext X (d + 1) 21 82 [some (cv X 0 r0), some (.int x1), some (.int x2), some (cv X 7 r3), some (cv X 7 r4), some (cv X 8 r5), some (cv X 8 r6), some (.int x7), some (.int x8)] [.int v_3] T_2 Q) : cA ext X (d + 1) 21 75 [some (cv X 0 r0), some (.int x1), some (.int x2), some (cv X 7 r3), some (cv X 7 r4), some (cv X 8 r5), some (cv X 8 r6), some (.int x7), some (.int x8)] [] T Q := by
  intro S hS
  refine aw_ald j21_75 rfl (cv_isR _ _ _) ?_
  refine aw_ald j21_77 rfl (cv_isR _ _ _) ?_
  refine aw_calli (as := [cv X 8 r5, cv X 8 r6]) j21_79 rfl rfl (Nat.le_of_ble_eq_true rfl) cy22.1 cy22.2 (cs_cons (cv_cat _ _ _) (cs_cons (cv_cat _ _ _) cs_nil)) rfl (m_4 _ hS) (fun v1 S1 h1 => ?_)
  obtain ⟨W1, h1, h2⟩ := h1
  exact k_5 v1 W1 h2 S1 h1
theorem bc21_82 {r0 : Option Nat} {x1 : Int32} {x2 : Int32} {r3 : Option Nat} {r4 : Option Nat} {r5 : Option Nat} {r6 : Option Nat} {x7 : Int32} {x8 : Int32} {xk0 : Int32}  (k_1 : (xk0 = 0) → cA ext X d 21 88 [some (cv X 0 r0), some (.int x1), some (.int x2), some (cv X 7 r3), some (cv X 7 r4), some (cv X 8 r5), some (cv X 8 r6), some (.int x7), some (.int x8)] [] T Q) (k_2 : (¬ (xk0 = 0)) → cA ext X d 21 85 [some (cv X 0 r0), some (.int x1), some (.int x2), some (cv X 7 r3), some (cv X 7 r4), some (cv X 8 r5), some (cv X 8 r6), some (.int x7), some (.int x8)] [] T Q) : cA ext X d 21 82 [some (cv X 0 r0), some (.int x1), some (.int x2), some (cv X 7 r3), some (cv X 7 r4), some (cv X 8 r5), some (cv X 8 r6), some (.int x7), some (.int x8)] [.int xk0] T Q := by
  intro S hS
  exact aw_if j21_82 (fun h => k_1 (of_decide_eq_true h) _ hS) (fun h => k_2 (of_decide_eq_false h) _ hS)
theorem bc21_85 {r0 : Option Nat} {x1 : Int32} {x2 : Int32} {r3 : Option Nat} {r4 : Option Nat} {r5 : Option Nat} {r6 : Option Nat} {x7 : Int32} {x8 : Int32}  (k_1 : cA ext X d 21 88 [some (cv X 0 r0), some (.int x1), some (.int x2), some (cv X 7 r3), some (cv X 7 r4), some (cv X 8 r5), some (cv X 8 r6), some (.int (x7 + 1)), some (.int x8)] [] T Q) : cA ext X d 21 85 [some (cv X 0 r0), some (.int x1), some (.int x2), some (cv X 7 r3), some (cv X 7 r4), some (cv X 8 r5), some (cv X 8 r6), some (.int x7), some (.int x8)] [] T Q := by
  intro S hS
  refine aw_inc j21_85 rfl ?_
  exact k_1 _ hS
theorem bc21_88 {r0 : Option Nat} {x1 : Int32} {x2 : Int32} {r3 : Option Nat} {r4 : Option Nat} {r5 : Option Nat} {r6 : Option Nat} {x7 : Int32} {x8 : Int32}  (k_2 : r5 = none → cA ext X d 21 93 [some (cv X 0 r0), some (.int x1), some (.int x2), some (cv X 7 r3), some (cv X 7 r4), some (cv X 8 r5), some (cv X 8 r6), some (.int x7), some (.int x8)] [] T Q) (k_3 : ∀ c_1, r5 = some c_1 → cA ext X d 21 97 [some (cv X 0 r0), some (.int x1), some (.int x2), some (cv X 7 r3), some (cv X 7 r4), some (cv X 8 r5), some (cv X 8 r6), some (.int x7), some (.int x8)] [] T Q) : cA ext X d 21 88 [some (cv X 0 r0), some (.int x1), some (.int x2), some (cv X 7 r3), some (cv X 7 r4), some (cv X 8 r5), some (cv X 8 r6), some (.int x7), some (.int x8)] [] T Q := by
  intro S hS
  refine aw_ald j21_88 rfl (cv_isR _ _ _) ?_
  exact aw_nonn (r := (r5).map (X.1 8)) j21_90 (fun h => k_2 (cv_none h) _ hS) (fun c h => by obtain ⟨c, hc⟩ := cv_some h; exact k_3 c hc _ hS)
theorem bc21_93 {r0 : Option Nat} {x1 : Int32} {x2 : Int32} {r3 : Option Nat} {r4 : Option Nat} {r5 : Option Nat} {r6 : Option Nat} {x7 : Int32} {x8 : Int32}  (k_1 : cA ext X d 21 106 [some (cv X 0 r0), some (.int x1), some (.int x2), some (cv X 7 r3), some (cv X 7 r4), some (cv X 8 r5), some (cv X 8 r6), some (.int x7), some (.int x8)] [cv X 8 none] T Q) : cA ext X d 21 93 [some (cv X 0 r0), some (.int x1), some (.int x2), some (cv X 7 r3), some (cv X 7 r4), some (cv X 8 r5), some (cv X 8 r6), some (.int x7), some (.int x8)] [] T Q := by
  intro S hS
  refine aw_nul j21_93 ?_
  exact aw_goto j21_94 (k_1 _ hS)
theorem bc21_97 {r0 : Option Nat} {x1 : Int32} {x2 : Int32} {a3 : Nat} {r4 : Option Nat} {a5 : Nat} {r6 : Option Nat} {x7 : Int32} {x8 : Int32} {P_3 : Option Nat → cT → Prop} (l_1 : X.2.1 7 a3) (l_2 : X.2.1 8 a5) (m_6 : cCr ext X 8 d 55 [cv X 8 (some a5), cv X 8 (T.2 7 a3 1)] T P_3) (k_7 : ∀ v_5 T_4, P_3 v_5 T_4 → cA ext X (d + 1) 21 106 [some (cv X 0 r0), some (.int x1), some (.int x2), some (cv X 7 (some a3)), some (cv X 7 r4), some (cv X 8 (some a5)), some (cv X 8 r6), some (.int x7), some (.int x8)] [cv X 8 v_5] T_4 Q) : cA ext X (d + 1) 21 97 [some (cv X 0 r0), some (.int x1), some (.int x2), some (cv X 7 (some a3)), some (cv X 7 r4), some (cv X 8 (some a5)), some (cv X 8 r6), some (.int x7), some (.int x8)] [] T Q := by
  intro S hS
  refine aw_ald j21_97 rfl (cv_isR _ _ _) ?_
  refine aw_ald j21_99 rfl (cv_isR _ _ _) ?_
  refine aw_get j21_100 (hS.kd l_1) (hS.r 1 rfl l_1) ?_
  refine aw_callr (as := [cv X 8 (some a5), cv X 8 (T.2 7 a3 1)]) j21_103 rfl rfl (Nat.le_of_ble_eq_true rfl) cy55.1 cy55.2 (cs_cons rfl (cs_cons (cv_cat _ _ _) cs_nil)) (decide_eq_true (hS.kd l_2)) (m_6 _ hS) (fun v1 S1 h1 => ?_)
  obtain ⟨o1, W1, he, h1, h2⟩ := h1
  subst he
  exact k_7 o1 W1 h2 S1 h1
theorem bc21_106 {r0 : Option Nat} {x1 : Int32} {x2 : Int32} {r3 : Option Nat} {r4 : Option Nat} {r5 : Option Nat} {r6 : Option Nat} {x7 : Int32} {x8 : Int32} {rk0 : Option Nat}  (k_2 : r6 = none → cA ext X d 21 113 [some (cv X 0 r0), some (.int x1), some (.int x2), some (cv X 7 r3), some (cv X 7 r4), some (cv X 8 rk0), some (cv X 8 r6), some (.int x7), some (.int x8)] [] T Q) (k_3 : ∀ c_1, r6 = some c_1 → cA ext X d 21 117 [some (cv X 0 r0), some (.int x1), some (.int x2), some (cv X 7 r3), some (cv X 7 r4), some (cv X 8 rk0), some (cv X 8 r6), some (.int x7), some (.int x8)] [] T Q) : cA ext X d 21 106 [some (cv X 0 r0), some (.int x1), some (.int x2), some (cv X 7 r3), some (cv X 7 r4), some (cv X 8 r5), some (cv X 8 r6), some (.int x7), some (.int x8)] [cv X 8 rk0] T Q := by
  intro S hS
  refine aw_ast j21_106 (cv_isR _ _ _) (Nat.le_of_ble_eq_true rfl) ?_
  refine aw_ald j21_108 rfl (cv_isR _ _ _) ?_
  exact aw_nonn (r := (r6).map (X.1 8)) j21_110 (fun h => k_2 (cv_none h) _ hS) (fun c h => by obtain ⟨c, hc⟩ := cv_some h; exact k_3 c hc _ hS)
theorem bc21_113 {r0 : Option Nat} {x1 : Int32} {x2 : Int32} {r3 : Option Nat} {r4 : Option Nat} {r5 : Option Nat} {r6 : Option Nat} {x7 : Int32} {x8 : Int32}  (k_1 : cA ext X d 21 127 [some (cv X 0 r0), some (.int x1), some (.int x2), some (cv X 7 r3), some (cv X 7 r4), some (cv X 8 r5), some (cv X 8 r6), some (.int x7), some (.int x8)] [cv X 8 none] T Q) : cA ext X d 21 113 [some (cv X 0 r0), some (.int x1), some (.int x2), some (cv X 7 r3), some (cv X 7 r4), some (cv X 8 r5), some (cv X 8 r6), some (.int x7), some (.int x8)] [] T Q := by
  intro S hS
  refine aw_nul j21_113 ?_
  exact aw_goto j21_114 (k_1 _ hS)
theorem bc21_117 {r0 : Option Nat} {x1 : Int32} {x2 : Int32} {r3 : Option Nat} {a4 : Nat} {r5 : Option Nat} {a6 : Nat} {x7 : Int32} {x8 : Int32} {P_3 : Option Nat → cT → Prop} (l_1 : X.2.1 7 a4) (l_2 : X.2.1 8 a6) (m_6 : cCr ext X 8 d 55 [cv X 8 (some a6), cv X 8 (T.2 7 a4 1)] T P_3) (k_7 : ∀ v_5 T_4, P_3 v_5 T_4 → cA ext X (d + 1) 21 127 [some (cv X 0 r0), some (.int x1), some (.int x2), some (cv X 7 r3), some (cv X 7 (some a4)), some (cv X 8 r5), some (cv X 8 (some a6)), some (.int x7), some (.int x8)] [cv X 8 v_5] T_4 Q) : cA ext X (d + 1) 21 117 [some (cv X 0 r0), some (.int x1), some (.int x2), some (cv X 7 r3), some (cv X 7 (some a4)), some (cv X 8 r5), some (cv X 8 (some a6)), some (.int x7), some (.int x8)] [] T Q := by
  intro S hS
  refine aw_ald j21_117 rfl (cv_isR _ _ _) ?_
  refine aw_ald j21_119 rfl (cv_isR _ _ _) ?_
  refine aw_get j21_121 (hS.kd l_1) (hS.r 1 rfl l_1) ?_
  refine aw_callr (as := [cv X 8 (some a6), cv X 8 (T.2 7 a4 1)]) j21_124 rfl rfl (Nat.le_of_ble_eq_true rfl) cy55.1 cy55.2 (cs_cons rfl (cs_cons (cv_cat _ _ _) cs_nil)) (decide_eq_true (hS.kd l_2)) (m_6 _ hS) (fun v1 S1 h1 => ?_)
  obtain ⟨o1, W1, he, h1, h2⟩ := h1
  subst he
  exact k_7 o1 W1 h2 S1 h1
theorem bc21_127 {r0 : Option Nat} {x1 : Int32} {x2 : Int32} {r3 : Option Nat} {r4 : Option Nat} {r5 : Option Nat} {r6 : Option Nat} {x7 : Int32} {x8 : Int32} {rk0 : Option Nat}  (k_1 : cA ext X d 21 58 [some (cv X 0 r0), some (.int x1), some (.int x2), some (cv X 7 r3), some (cv X 7 r4), some (cv X 8 r5), some (cv X 8 rk0), some (.int x7), some (.int (x8 + 1))] [] T Q) : cA ext X d 21 127 [some (cv X 0 r0), some (.int x1), some (.int x2), some (cv X 7 r3), some (cv X 7 r4), some (cv X 8 r5), some (cv X 8 r6), some (.int x7), some (.int x8)] [cv X 8 rk0] T Q := by
  intro S hS
  refine aw_ast j21_127 (cv_isR _ _ _) (Nat.le_of_ble_eq_true rfl) ?_
  refine aw_inc j21_129 rfl ?_
  exact aw_goto j21_132 (k_1 _ hS)
theorem bc21_135 {r0 : Option Nat} {x1 : Int32} {x2 : Int32} {r3 : Option Nat} {r4 : Option Nat} {r5 : Option Nat} {r6 : Option Nat} {x7 : Int32} {x8 : Int32}  (k_1 : ∀ S, cr X T S → Q (some (.int x7)) S) : cA ext X d 21 135 [some (cv X 0 r0), some (.int x1), some (.int x2), some (cv X 7 r3), some (cv X 7 r4), some (cv X 8 r5), some (cv X 8 r6), some (.int x7), some (.int x8)] [] T Q := by
  intro S hS
  refine aw_ild j21_135 rfl ?_
  exact aw_ret j21_137 (by rw [rt21]; exact rfl) (k_1 _ hS)
/-! SM_areUnlike -/
theorem bc22_0 {r0 : Option Nat} {r1 : Option Nat}  (k_2 : r0 = none → cA ext X d 22 8 [some (cv X 8 r0), some (cv X 8 r1)] [] T Q) (k_3 : ∀ c_1, r0 = some c_1 → cA ext X d 22 4 [some (cv X 8 r0), some (cv X 8 r1)] [] T Q) : cA ext X d 22 0 [some (cv X 8 r0), some (cv X 8 r1)] [] T Q := by
  intro S hS
  refine aw_ald j22_0 rfl (cv_isR _ _ _) ?_
  exact aw_null (r := (r0).map (X.1 8)) j22_1 (fun h => k_2 (cv_none h) _ hS) (fun c h => by obtain ⟨c, hc⟩ := cv_some h; exact k_3 c hc _ hS)
theorem bc22_4 {r0 : Option Nat} {r1 : Option Nat}  (k_2 : r1 = none → cA ext X d 22 8 [some (cv X 8 r0), some (cv X 8 r1)] [] T Q) (k_3 : ∀ c_1, r1 = some c_1 → cA ext X d 22 10 [some (cv X 8 r0), some (cv X 8 r1)] [] T Q) : cA ext X d 22 4 [some (cv X 8 r0), some (cv X 8 r1)] [] T Q := by
  intro S hS
  refine aw_ald j22_4 rfl (cv_isR _ _ _) ?_
  exact aw_nonn (r := (r1).map (X.1 8)) j22_5 (fun h => k_2 (cv_none h) _ hS) (fun c h => by obtain ⟨c, hc⟩ := cv_some h; exact k_3 c hc _ hS)
theorem bc22_8 {r0 : Option Nat} {r1 : Option Nat}  (k_1 : ∀ S, cr X T S → Q (some (.int (1 : Int32))) S) : cA ext X d 22 8 [some (cv X 8 r0), some (cv X 8 r1)] [] T Q := by
  intro S hS
  refine aw_con j22_8 ?_
  exact aw_ret j22_9 (by rw [rt22]; exact rfl) (k_1 _ hS)
theorem bc22_10 {a0 : Nat} {a1 : Nat} (l_1 : X.2.1 8 a0) (l_2 : X.2.1 8 a1) (k_3 : (¬ (T.1 8 a0 3) = (T.1 8 a1 3)) → cA ext X d 22 32 [some (cv X 8 (some a0)), some (cv X 8 (some a1))] [] T Q) (k_4 : ((T.1 8 a0 3) = (T.1 8 a1 3)) → cA ext X d 22 21 [some (cv X 8 (some a0)), some (cv X 8 (some a1))] [] T Q) : cA ext X d 22 10 [some (cv X 8 (some a0)), some (cv X 8 (some a1))] [] T Q := by
  intro S hS
  refine aw_ald j22_10 rfl (cv_isR _ _ _) ?_
  refine aw_get j22_11 (hS.kd l_1) (hS.i 3 rfl rfl l_1) ?_
  refine aw_ald j22_14 rfl (cv_isR _ _ _) ?_
  refine aw_get j22_15 (hS.kd l_2) (hS.i 3 rfl rfl l_2) ?_
  exact aw_ic j22_18 (fun h => k_3 (of_decide_eq_true h) _ hS) (fun h => k_4 (Decidable.of_not_not (of_decide_eq_false h)) _ hS)
theorem bc22_21 {a0 : Nat} {r1 : Option Nat} {P_2 : Int32 → cT → Prop} (l_1 : X.2.1 8 a0) (m_5 : cCi ext X d 58 [cv X 8 (some a0)] T P_2) (k_6 : ∀ v_4 T_3, P_2 v_4 T_3 → cA ext X (d + 1) 22 25 [some (cv X 8 (some a0)), some (cv X 8 r1)] [.int v_4] T_3 Q) : cA ext X (d + 1) 22 21 [some (cv X 8 (some a0)), some (cv X 8 r1)] [] T Q := by
  intro S hS
  refine aw_ald j22_21 rfl (cv_isR _ _ _) ?_
  refine aw_calli (as := [cv X 8 (some a0)]) j22_22 rfl rfl (Nat.le_of_ble_eq_true rfl) cy58.1 cy58.2 (cs_cons rfl cs_nil) (decide_eq_true (hS.kd l_1)) (m_5 _ hS) (fun v1 S1 h1 => ?_)
  obtain ⟨W1, h1, h2⟩ := h1
  exact k_6 v1 W1 h2 S1 h1
theorem bc22_25 {r0 : Option Nat} {a1 : Nat} {xk0 : Int32} {P_2 : Int32 → cT → Prop} (l_1 : X.2.1 8 a1) (m_5 : cCi ext X d 58 [cv X 8 (some a1)] T P_2) (k_6 : ∀ v_4 T_3, P_2 v_4 T_3 → cA ext X (d + 1) 22 29 [some (cv X 8 r0), some (cv X 8 (some a1))] [.int v_4, .int xk0] T_3 Q) : cA ext X (d + 1) 22 25 [some (cv X 8 r0), some (cv X 8 (some a1))] [.int xk0] T Q := by
  intro S hS
  refine aw_ald j22_25 rfl (cv_isR _ _ _) ?_
  refine aw_calli (as := [cv X 8 (some a1)]) j22_26 rfl rfl (Nat.le_of_ble_eq_true rfl) cy58.1 cy58.2 (cs_cons rfl cs_nil) (decide_eq_true (hS.kd l_1)) (m_5 _ hS) (fun v1 S1 h1 => ?_)
  obtain ⟨W1, h1, h2⟩ := h1
  exact k_6 v1 W1 h2 S1 h1
theorem bc22_29 {r0 : Option Nat} {r1 : Option Nat} {xk0 : Int32} {xk1 : Int32}  (k_1 : (xk0 = xk1) → cA ext X d 22 36 [some (cv X 8 r0), some (cv X 8 r1)] [] T Q) (k_2 : (¬ (xk0 = xk1)) → cA ext X d 22 32 [some (cv X 8 r0), some (cv X 8 r1)] [] T Q) : cA ext X d 22 29 [some (cv X 8 r0), some (cv X 8 r1)] [.int xk1, .int xk0] T Q := by
  intro S hS
  exact aw_ic j22_29 (fun h => k_1 (of_decide_eq_true h) _ hS) (fun h => k_2 (of_decide_eq_false h) _ hS)
theorem bc22_32 {r0 : Option Nat} {r1 : Option Nat}  (k_1 : cA ext X d 22 37 [some (cv X 8 r0), some (cv X 8 r1)] [.int (1 : Int32)] T Q) : cA ext X d 22 32 [some (cv X 8 r0), some (cv X 8 r1)] [] T Q := by
  intro S hS
  refine aw_con j22_32 ?_
  exact aw_goto j22_33 (k_1 _ hS)
theorem bc22_36 {r0 : Option Nat} {r1 : Option Nat}  (k_1 : cA ext X d 22 37 [some (cv X 8 r0), some (cv X 8 r1)] [.int (0 : Int32)] T Q) : cA ext X d 22 36 [some (cv X 8 r0), some (cv X 8 r1)] [] T Q := by
  intro S hS
  refine aw_con j22_36 ?_
  exact k_1 _ hS
theorem bc22_37 {r0 : Option Nat} {r1 : Option Nat} {xk0 : Int32} (o_2 : xk0 = 0 ∨ xk0 = 1) (k_1 : ∀ S, cr X T S → Q (some (.int xk0)) S) : cA ext X d 22 37 [some (cv X 8 r0), some (cv X 8 r1)] [.int xk0] T Q := by
  intro S hS
  exact aw_ret j22_37 (by rw [rt22]; exact (decide_eq_true o_2)) (k_1 _ hS)
/-! SM_about -/
theorem bc23_0 {a0 : Nat} {x1 : Int32} {x2 : Int32} {o3 : Option Value} {P_2 : Option Nat → cT → Prop} (l_1 : X.2.1 0 a0) (m_5 : cCr ext X 8 d 9 [cv X 0 (some a0), .int x1] T P_2) (k_6 : ∀ v_4 T_3, P_2 v_4 T_3 → cA ext X (d + 1) 23 5 [some (cv X 0 (some a0)), some (.int x1), some (.int x2), o3] [cv X 8 v_4] T_3 Q) : cA ext X (d + 1) 23 0 [some (cv X 0 (some a0)), some (.int x1), some (.int x2), o3] [] T Q := by
  intro S hS
  refine aw_ald j23_0 rfl (cv_isR _ _ _) ?_
  refine aw_ild j23_1 rfl ?_
  refine aw_callr (as := [cv X 0 (some a0), .int x1]) j23_2 rfl rfl (Nat.le_of_ble_eq_true rfl) cy9.1 cy9.2 (cs_cons rfl (cs_cons rfl cs_nil)) (decide_eq_true (hS.kd l_1)) (m_5 _ hS) (fun v1 S1 h1 => ?_)
  obtain ⟨o1, W1, he, h1, h2⟩ := h1
  subst he
  exact k_6 o1 W1 h2 S1 h1
theorem bc23_5 {r0 : Option Nat} {x1 : Int32} {x2 : Int32} {o3 : Option Value} {rk0 : Option Nat}  (k_2 : rk0 = none → cA ext X d 23 10 [some (cv X 0 r0), some (.int x1), some (.int x2), some (cv X 8 rk0)] [] T Q) (k_3 : ∀ c_1, rk0 = some c_1 → cA ext X d 23 12 [some (cv X 0 r0), some (.int x1), some (.int x2), some (cv X 8 rk0)] [] T Q) : cA ext X d 23 5 [some (cv X 0 r0), some (.int x1), some (.int x2), o3] [cv X 8 rk0] T Q := by
  intro S hS
  refine aw_ast j23_5 (cv_isR _ _ _) (Nat.le_of_ble_eq_true rfl) ?_
  refine aw_ald j23_6 rfl (cv_isR _ _ _) ?_
  exact aw_nonn (r := (rk0).map (X.1 8)) j23_7 (fun h => k_2 (cv_none h) _ hS) (fun c h => by obtain ⟨c, hc⟩ := cv_some h; exact k_3 c hc _ hS)
theorem bc23_10 {r0 : Option Nat} {x1 : Int32} {x2 : Int32} {r3 : Option Nat}  (k_1 : ∀ S, cr X T S → Q (some (.int (-1 : Int32))) S) : cA ext X d 23 10 [some (cv X 0 r0), some (.int x1), some (.int x2), some (cv X 8 r3)] [] T Q := by
  intro S hS
  refine aw_con j23_10 ?_
  exact aw_ret j23_11 (by rw [rt23]; exact rfl) (k_1 _ hS)
theorem bc23_12 {r0 : Option Nat} {x1 : Int32} {x2 : Int32} {r3 : Option Nat}  (k_1 : cA ext X d 23 (if x2.toInt < (0 : Int32).toInt then 119 else List.getD [56, 61, 80, 85, 90, 95, 114] (x2.toInt - (0 : Int32).toInt).toNat 119) [some (cv X 0 r0), some (.int x1), some (.int x2), some (cv X 8 r3)] [] T Q) : cA ext X d 23 12 [some (cv X 0 r0), some (.int x1), some (.int x2), some (cv X 8 r3)] [] T Q := by
  intro S hS
  refine aw_ild j23_12 rfl ?_
  exact aw_tsw j23_13 (k_1 _ hS)
theorem bc23_56 {r0 : Option Nat} {x1 : Int32} {x2 : Int32} {a3 : Nat} (l_1 : X.2.1 8 a3) (k_2 : ∀ S, cr X T S → Q (some (.int (T.1 8 a3 1))) S) : cA ext X d 23 56 [some (cv X 0 r0), some (.int x1), some (.int x2), some (cv X 8 (some a3))] [] T Q := by
  intro S hS
  refine aw_ald j23_56 rfl (cv_isR _ _ _) ?_
  refine aw_get j23_57 (hS.kd l_1) (hS.i 1 rfl rfl l_1) ?_
  exact aw_ret j23_60 (by rw [rt23]; exact rfl) (k_2 _ hS)
theorem bc23_61 {r0 : Option Nat} {x1 : Int32} {x2 : Int32} {a3 : Nat} (l_1 : X.2.1 8 a3) (k_3 : (T.2 8 a3 6) = none → cA ext X d 23 68 [some (cv X 0 r0), some (.int x1), some (.int x2), some (cv X 8 (some a3))] [] T Q) (k_4 : ∀ c_2, (T.2 8 a3 6) = some c_2 → cA ext X d 23 72 [some (cv X 0 r0), some (.int x1), some (.int x2), some (cv X 8 (some a3))] [] T Q) : cA ext X d 23 61 [some (cv X 0 r0), some (.int x1), some (.int x2), some (cv X 8 (some a3))] [] T Q := by
  intro S hS
  refine aw_ald j23_61 rfl (cv_isR _ _ _) ?_
  refine aw_get j23_62 (hS.kd l_1) (hS.r 6 rfl l_1) ?_
  exact aw_nonn (r := ((T.2 8 a3 6)).map (X.1 8)) j23_65 (fun h => k_3 (cv_none h) _ hS) (fun c h => by obtain ⟨c, hc⟩ := cv_some h; exact k_4 c hc _ hS)
theorem bc23_68 {r0 : Option Nat} {x1 : Int32} {x2 : Int32} {r3 : Option Nat}  (k_1 : cA ext X d 23 79 [some (cv X 0 r0), some (.int x1), some (.int x2), some (cv X 8 r3)] [.int (-1 : Int32)] T Q) : cA ext X d 23 68 [some (cv X 0 r0), some (.int x1), some (.int x2), some (cv X 8 r3)] [] T Q := by
  intro S hS
  refine aw_con j23_68 ?_
  exact aw_goto j23_69 (k_1 _ hS)
theorem bc23_72 {r0 : Option Nat} {x1 : Int32} {x2 : Int32} {a3 : Nat} {b_2 : Nat} (l_1 : X.2.1 8 a3) (f_3 : T.2 8 a3 6 = some b_2) (k_4 : cA ext X d 23 79 [some (cv X 0 r0), some (.int x1), some (.int x2), some (cv X 8 (some a3))] [.int (T.1 8 b_2 0)] T Q) : cA ext X d 23 72 [some (cv X 0 r0), some (.int x1), some (.int x2), some (cv X 8 (some a3))] [] T Q := by
  intro S hS
  refine aw_ald j23_72 rfl (cv_isR _ _ _) ?_
  refine aw_get j23_73 (hS.kd l_1) (hS.rr 6 rfl l_1 f_3) ?_
  refine aw_get j23_76 (hS.kd (hS.rl 6 rfl l_1 _ f_3)) (hS.i 0 rfl rfl (hS.rl 6 rfl l_1 _ f_3)) ?_
  exact k_4 _ hS
theorem bc23_79 {r0 : Option Nat} {x1 : Int32} {x2 : Int32} {r3 : Option Nat} {xk0 : Int32}  (k_1 : ∀ S, cr X T S → Q (some (.int xk0)) S) : cA ext X d 23 79 [some (cv X 0 r0), some (.int x1), some (.int x2), some (cv X 8 r3)] [.int xk0] T Q := by
  intro S hS
  exact aw_ret j23_79 (by rw [rt23]; exact rfl) (k_1 _ hS)
theorem bc23_80 {r0 : Option Nat} {x1 : Int32} {x2 : Int32} {a3 : Nat} (l_1 : X.2.1 8 a3) (k_2 : ∀ S, cr X T S → Q (some (.int (T.1 8 a3 2))) S) : cA ext X d 23 80 [some (cv X 0 r0), some (.int x1), some (.int x2), some (cv X 8 (some a3))] [] T Q := by
  intro S hS
  refine aw_ald j23_80 rfl (cv_isR _ _ _) ?_
  refine aw_get j23_81 (hS.kd l_1) (hS.i 2 rfl rfl l_1) ?_
  exact aw_ret j23_84 (by rw [rt23]; exact rfl) (k_2 _ hS)
theorem bc23_85 {r0 : Option Nat} {x1 : Int32} {x2 : Int32} {a3 : Nat} (l_1 : X.2.1 8 a3) (k_2 : ∀ S, cr X T S → Q (some (.int (T.1 8 a3 3))) S) : cA ext X d 23 85 [some (cv X 0 r0), some (.int x1), some (.int x2), some (cv X 8 (some a3))] [] T Q := by
  intro S hS
  refine aw_ald j23_85 rfl (cv_isR _ _ _) ?_
  refine aw_get j23_86 (hS.kd l_1) (hS.i 3 rfl rfl l_1) ?_
  exact aw_ret j23_89 (by rw [rt23]; exact rfl) (k_2 _ hS)
theorem bc23_90 {r0 : Option Nat} {x1 : Int32} {x2 : Int32} {a3 : Nat} (l_1 : X.2.1 8 a3) (k_2 : ∀ S, cr X T S → Q (some (.int (T.1 8 a3 5))) S) : cA ext X d 23 90 [some (cv X 0 r0), some (.int x1), some (.int x2), some (cv X 8 (some a3))] [] T Q := by
  intro S hS
  refine aw_ald j23_90 rfl (cv_isR _ _ _) ?_
  refine aw_get j23_91 (hS.kd l_1) (hS.i 5 rfl rfl l_1) ?_
  exact aw_ret j23_94 (by rw [rt23]; exact rfl) (k_2 _ hS)
theorem bc23_95 {r0 : Option Nat} {x1 : Int32} {x2 : Int32} {a3 : Nat} (l_1 : X.2.1 8 a3) (k_3 : (T.2 8 a3 9) = none → cA ext X d 23 102 [some (cv X 0 r0), some (.int x1), some (.int x2), some (cv X 8 (some a3))] [] T Q) (k_4 : ∀ c_2, (T.2 8 a3 9) = some c_2 → cA ext X d 23 106 [some (cv X 0 r0), some (.int x1), some (.int x2), some (cv X 8 (some a3))] [] T Q) : cA ext X d 23 95 [some (cv X 0 r0), some (.int x1), some (.int x2), some (cv X 8 (some a3))] [] T Q := by
  intro S hS
  refine aw_ald j23_95 rfl (cv_isR _ _ _) ?_
  refine aw_get j23_96 (hS.kd l_1) (hS.r 9 rfl l_1) ?_
  exact aw_nonn (r := ((T.2 8 a3 9)).map (X.1 8)) j23_99 (fun h => k_3 (cv_none h) _ hS) (fun c h => by obtain ⟨c, hc⟩ := cv_some h; exact k_4 c hc _ hS)
theorem bc23_102 {r0 : Option Nat} {x1 : Int32} {x2 : Int32} {r3 : Option Nat}  (k_1 : cA ext X d 23 113 [some (cv X 0 r0), some (.int x1), some (.int x2), some (cv X 8 r3)] [.int (-1 : Int32)] T Q) : cA ext X d 23 102 [some (cv X 0 r0), some (.int x1), some (.int x2), some (cv X 8 r3)] [] T Q := by
  intro S hS
  refine aw_con j23_102 ?_
  exact aw_goto j23_103 (k_1 _ hS)
theorem bc23_106 {r0 : Option Nat} {x1 : Int32} {x2 : Int32} {a3 : Nat} {b_2 : Nat} (l_1 : X.2.1 8 a3) (f_3 : T.2 8 a3 9 = some b_2) (k_4 : cA ext X d 23 113 [some (cv X 0 r0), some (.int x1), some (.int x2), some (cv X 8 (some a3))] [.int (T.1 8 b_2 0)] T Q) : cA ext X d 23 106 [some (cv X 0 r0), some (.int x1), some (.int x2), some (cv X 8 (some a3))] [] T Q := by
  intro S hS
  refine aw_ald j23_106 rfl (cv_isR _ _ _) ?_
  refine aw_get j23_107 (hS.kd l_1) (hS.rr 9 rfl l_1 f_3) ?_
  refine aw_get j23_110 (hS.kd (hS.rl 9 rfl l_1 _ f_3)) (hS.i 0 rfl rfl (hS.rl 9 rfl l_1 _ f_3)) ?_
  exact k_4 _ hS
theorem bc23_113 {r0 : Option Nat} {x1 : Int32} {x2 : Int32} {r3 : Option Nat} {xk0 : Int32}  (k_1 : ∀ S, cr X T S → Q (some (.int xk0)) S) : cA ext X d 23 113 [some (cv X 0 r0), some (.int x1), some (.int x2), some (cv X 8 r3)] [.int xk0] T Q := by
  intro S hS
  exact aw_ret j23_113 (by rw [rt23]; exact rfl) (k_1 _ hS)
theorem bc23_114 {r0 : Option Nat} {x1 : Int32} {x2 : Int32} {a3 : Nat} {P_2 : Int32 → cT → Prop} (l_1 : X.2.1 8 a3) (m_5 : cCi ext X d 59 [cv X 8 (some a3)] T P_2) (k_6 : ∀ v_4 T_3, P_2 v_4 T_3 → cA ext X (d + 1) 23 118 [some (cv X 0 r0), some (.int x1), some (.int x2), some (cv X 8 (some a3))] [.int v_4] T_3 Q) : cA ext X (d + 1) 23 114 [some (cv X 0 r0), some (.int x1), some (.int x2), some (cv X 8 (some a3))] [] T Q := by
  intro S hS
  refine aw_ald j23_114 rfl (cv_isR _ _ _) ?_
  refine aw_calli (as := [cv X 8 (some a3)]) j23_115 rfl rfl (Nat.le_of_ble_eq_true rfl) cy59.1 cy59.2 (cs_cons rfl cs_nil) (decide_eq_true (hS.kd l_1)) (m_5 _ hS) (fun v1 S1 h1 => ?_)
  obtain ⟨W1, h1, h2⟩ := h1
  exact k_6 v1 W1 h2 S1 h1
theorem bc23_118 {r0 : Option Nat} {x1 : Int32} {x2 : Int32} {r3 : Option Nat} {xk0 : Int32}  (k_1 : ∀ S, cr X T S → Q (some (.int xk0)) S) : cA ext X d 23 118 [some (cv X 0 r0), some (.int x1), some (.int x2), some (cv X 8 r3)] [.int xk0] T Q := by
  intro S hS
  exact aw_ret j23_118 (by rw [rt23]; exact rfl) (k_1 _ hS)
theorem bc23_119 {r0 : Option Nat} {x1 : Int32} {x2 : Int32} {r3 : Option Nat}  (k_1 : ∀ S, cr X T S → Q (some (.int (-1 : Int32))) S) : cA ext X d 23 119 [some (cv X 0 r0), some (.int x1), some (.int x2), some (cv X 8 r3)] [] T Q := by
  intro S hS
  refine aw_con j23_119 ?_
  exact aw_ret j23_120 (by rw [rt23]; exact rfl) (k_1 _ hS)
end
