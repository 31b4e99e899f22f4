section
variable {ext : av_X} {X : rX} {d : Nat} {W : rW} {Q : Option Value → rW → Prop}
/-! Ref_thrown -/
theorem br63_0   (k_1 : Q (some (.int (W.2 0))) W) : rA ext X d 63 0 [some (.ref X.1)] [] W Q := by
  intro S hS
  refine aw_ald j63_0 rfl rfl ?_
  refine aw_get j63_1 hS.to (hS.n 0 rfl) ?_
  exact aw_ret j63_4 (by rw [rt63]; exact rfl) ⟨_, hS, k_1⟩
/-! Ref_file -/
theorem br64_0 {x1 : Int32} {P_1 : Int32 → rW → Prop} (m_4 : rCi ext X d 65 [.int x1, .int (0 : Int32), .int (100000 : Int32)] (hset W 0 (0 : Int32)) P_1) (k_5 : ∀ v_3 W_2, P_1 v_3 W_2 → rA ext X (d + 1) 64 12 [some (.ref X.1), some (.int x1)] [.int v_3] W_2 Q) : rA ext X (d + 1) 64 0 [some (.ref X.1), some (.int x1)] [] W Q := by
  intro S hS
  refine aw_ald j64_0 rfl rfl ?_
  refine aw_con j64_1 ?_
  refine aw_put j64_2 hS.to rfl ?_
  have hS := hS.seth 0 (0 : Int32) rfl
  refine aw_ild j64_5 rfl ?_
  refine aw_con j64_6 ?_
  refine aw_con j64_7 ?_
  refine aw_calli (as := [.int x1, .int (0 : Int32), .int (100000 : Int32)]) j64_9 rfl rfl (Nat.le_of_ble_eq_true rfl) cy65.1 cy65.2 (cs_cons rfl (cs_cons rfl (cs_cons rfl cs_nil))) rfl (m_4 _ hS) (fun v1 S1 h1 => ?_)
  obtain ⟨W1, h1, h2⟩ := h1
  exact k_5 v1 W1 h2 S1 h1
theorem br64_12 {x1 : Int32} {xk0 : Int32}  (k_1 : (¬ xk0 = 0) → rA ext X d 64 18 [some (.ref X.1), some (.int x1)] [] W Q) (k_2 : (xk0 = 0) → rA ext X d 64 15 [some (.ref X.1), some (.int x1)] [] W Q) : rA ext X d 64 12 [some (.ref X.1), some (.int x1)] [.int xk0] W Q := by
  intro S hS
  exact aw_if j64_12 (fun h => k_1 (of_decide_eq_true h) _ hS) (fun h => k_2 (Decidable.of_not_not (of_decide_eq_false h)) _ hS)
theorem br64_15 {x1 : Int32}  (k_1 : Q (some (.int (-2 : Int32))) W) : rA ext X d 64 15 [some (.ref X.1), some (.int x1)] [] W Q := by
  intro S hS
  refine aw_con j64_15 ?_
  exact aw_ret j64_17 (by rw [rt64]; exact rfl) ⟨_, hS, k_1⟩
theorem br64_18 {x1 : Int32}  (k_1 : (¬ (W.2 1) = (30 : Int32)) → rA ext X d 64 30 [some (.ref X.1), some (.int x1)] [] W Q) (k_2 : ((W.2 1) = (30 : Int32)) → rA ext X d 64 27 [some (.ref X.1), some (.int x1)] [] W Q) : rA ext X d 64 18 [some (.ref X.1), some (.int x1)] [] W Q := by
  intro S hS
  refine aw_ald j64_18 rfl rfl ?_
  refine aw_get j64_19 hS.to (hS.n 1 rfl) ?_
  refine aw_con j64_22 ?_
  exact aw_ic j64_24 (fun h => k_1 (of_decide_eq_true h) _ hS) (fun h => k_2 (Decidable.of_not_not (of_decide_eq_false h)) _ hS)
theorem br64_27 {x1 : Int32}  (k_1 : Q (some (.int (-4 : Int32))) W) : rA ext X d 64 27 [some (.ref X.1), some (.int x1)] [] W Q := by
  intro S hS
  refine aw_con j64_27 ?_
  exact aw_ret j64_29 (by rw [rt64]; exact rfl) ⟨_, hS, k_1⟩
theorem br64_30 {x1 : Int32} {i_1 : Nat} (e_2 : (W.2 1) = nI i_1) (c_3 : i_1 < 30) (k_4 : Q (some (.int (((hset (gset W 2 i_1 x1) 1 (((gset W 2 i_1 x1).2 1) + (1 : Int32))).2 1) - (1 : Int32)))) (hset (gset W 2 i_1 x1) 1 (((gset W 2 i_1 x1).2 1) + (1 : Int32)))) : rA ext X d 64 30 [some (.ref X.1), some (.int x1)] [] W Q := by
  intro S hS
  refine aw_ald j64_30 rfl rfl ?_
  refine aw_get j64_31 hS.to (hS.fa 2 rfl) ?_
  refine aw_ald j64_34 rfl rfl ?_
  refine aw_get j64_35 hS.to (hS.n 1 rfl) ?_
  refine aw_ild j64_38 rfl ?_
  refine aw_xst (n := 30) j64_39 (hS.ta 2 rfl) e_2 c_3 (by decide) ?_
  have hS := hS.seta 2 i_1 x1 rfl
  refine aw_ald j64_40 rfl rfl ?_
  refine aw_dup j64_41 rfl ?_
  refine aw_get j64_42 hS.to (hS.n 1 rfl) ?_
  refine aw_con j64_45 ?_
  refine aw_bin (z := (((gset W 2 i_1 x1).2 1) + (1 : Int32))) j64_46 rfl ?_
  refine aw_put j64_47 hS.to rfl ?_
  have hS := hS.seth 1 (((gset W 2 i_1 x1).2 1) + (1 : Int32)) rfl
  refine aw_ald j64_50 rfl rfl ?_
  refine aw_get j64_51 hS.to (hS.n 1 rfl) ?_
  refine aw_con j64_54 ?_
  refine aw_bin (z := (((hset (gset W 2 i_1 x1) 1 (((gset W 2 i_1 x1).2 1) + (1 : Int32))).2 1) - (1 : Int32))) j64_55 rfl ?_
  exact aw_ret j64_56 (by rw [rt64]; exact rfl) ⟨_, hS, k_4⟩
/-! Ref_in -/
theorem br65_0 {x0 : Int32} {x1 : Int32} {x2 : Int32}  (k_1 : (x0 < x1) → rA ext X d 65 14 [some (.int x0), some (.int x1), some (.int x2)] [] W Q) (k_2 : (¬ (x0 < x1)) → rA ext X d 65 5 [some (.int x0), some (.int x1), some (.int x2)] [] W Q) : rA ext X d 65 0 [some (.int x0), some (.int x1), some (.int x2)] [] W Q := by
  intro S hS
  refine aw_ild j65_0 rfl ?_
  refine aw_ild j65_1 rfl ?_
  exact aw_ic j65_2 (fun h => k_1 (of_decide_eq_true h) _ hS) (fun h => k_2 (of_decide_eq_false h) _ hS)
theorem br65_5 {x0 : Int32} {x1 : Int32} {x2 : Int32}  (k_1 : (x2 < x0) → rA ext X d 65 14 [some (.int x0), some (.int x1), some (.int x2)] [] W Q) (k_2 : (¬ (x2 < x0)) → rA ext X d 65 10 [some (.int x0), some (.int x1), some (.int x2)] [] W Q) : rA ext X d 65 5 [some (.int x0), some (.int x1), some (.int x2)] [] W Q := by
  intro S hS
  refine aw_ild j65_5 rfl ?_
  refine aw_ild j65_6 rfl ?_
  exact aw_ic j65_7 (fun h => k_1 (of_decide_eq_true h) _ hS) (fun h => k_2 (of_decide_eq_false h) _ hS)
theorem br65_10 {x0 : Int32} {x1 : Int32} {x2 : Int32}  (k_1 : rA ext X d 65 15 [some (.int x0), some (.int x1), some (.int x2)] [.int (1 : Int32)] W Q) : rA ext X d 65 10 [some (.int x0), some (.int x1), some (.int x2)] [] W Q := by
  intro S hS
  refine aw_con j65_10 ?_
  exact aw_goto j65_11 (k_1 _ hS)
theorem br65_14 {x0 : Int32} {x1 : Int32} {x2 : Int32}  (k_1 : rA ext X d 65 15 [some (.int x0), some (.int x1), some (.int x2)] [.int (0 : Int32)] W Q) : rA ext X d 65 14 [some (.int x0), some (.int x1), some (.int x2)] [] W Q := by
  intro S hS
  refine aw_con j65_14 ?_
  exact k_1 _ hS
theorem br65_15 {x0 : Int32} {x1 : Int32} {x2 : Int32} {xk0 : Int32} (o_2 : xk0 = 0 ∨ xk0 = 1) (k_1 : Q (some (.int xk0)) W) : rA ext X d 65 15 [some (.int x0), some (.int x1), some (.int x2)] [.int xk0] W Q := by
  intro S hS
  exact aw_ret j65_15 (by rw [rt65]; exact (decide_eq_true o_2)) ⟨_, hS, k_1⟩
/-! Ref_size -/
theorem br66_0 {x1 : Int32} {x2 : Int32} {o3 : Option Value} {P_1 : Int32 → rW → Prop} (m_4 : rCi ext X d 67 [.ref X.1, .int x1] (hset W 0 (0 : Int32)) P_1) (k_5 : ∀ v_3 W_2, P_1 v_3 W_2 → rA ext X (d + 1) 66 10 [some (.ref X.1), some (.int x1), some (.int x2), o3] [.int v_3] W_2 Q) : rA ext X (d + 1) 66 0 [some (.ref X.1), some (.int x1), some (.int x2), o3] [] W Q := by
  intro S hS
  refine aw_ald j66_0 rfl rfl ?_
  refine aw_con j66_1 ?_
  refine aw_put j66_2 hS.to rfl ?_
  have hS := hS.seth 0 (0 : Int32) rfl
  refine aw_ald j66_5 rfl rfl ?_
  refine aw_ild j66_6 rfl ?_
  refine aw_calli (as := [.ref X.1, .int x1]) j66_7 rfl rfl (Nat.le_of_ble_eq_true rfl) cy67.1 cy67.2 (cs_cons rfl (cs_cons rfl cs_nil)) (decide_eq_true hS.to) (m_4 _ hS) (fun v1 S1 h1 => ?_)
  obtain ⟨W1, h1, h2⟩ := h1
  exact k_5 v1 W1 h2 S1 h1
theorem br66_10 {x1 : Int32} {x2 : Int32} {o3 : Option Value} {xk0 : Int32}  (k_1 : (¬ xk0 = 0) → rA ext X d 66 15 [some (.ref X.1), some (.int x1), some (.int x2), o3] [] W Q) (k_2 : (xk0 = 0) → rA ext X d 66 13 [some (.ref X.1), some (.int x1), some (.int x2), o3] [] W Q) : rA ext X d 66 10 [some (.ref X.1), some (.int x1), some (.int x2), o3] [.int xk0] W Q := by
  intro S hS
  exact aw_if j66_10 (fun h => k_1 (of_decide_eq_true h) _ hS) (fun h => k_2 (Decidable.of_not_not (of_decide_eq_false h)) _ hS)
theorem br66_13 {x1 : Int32} {x2 : Int32} {o3 : Option Value}  (k_1 : Q (some (.int (-1 : Int32))) W) : rA ext X d 66 13 [some (.ref X.1), some (.int x1), some (.int x2), o3] [] W Q := by
  intro S hS
  refine aw_con j66_13 ?_
  exact aw_ret j66_14 (by rw [rt66]; exact rfl) ⟨_, hS, k_1⟩
theorem br66_15 {x1 : Int32} {x2 : Int32} {o3 : Option Value} {P_1 : Int32 → rW → Prop} (m_4 : rCi ext X d 65 [.int x2, .int (0 : Int32), .int (100000 : Int32)] W P_1) (k_5 : ∀ v_3 W_2, P_1 v_3 W_2 → rA ext X (d + 1) 66 22 [some (.ref X.1), some (.int x1), some (.int x2), o3] [.int v_3] W_2 Q) : rA ext X (d + 1) 66 15 [some (.ref X.1), some (.int x1), some (.int x2), o3] [] W Q := by
  intro S hS
  refine aw_ild j66_15 rfl ?_
  refine aw_con j66_16 ?_
  refine aw_con j66_17 ?_
  refine aw_calli (as := [.int x2, .int (0 : Int32), .int (100000 : Int32)]) j66_19 rfl rfl (Nat.le_of_ble_eq_true rfl) cy65.1 cy65.2 (cs_cons rfl (cs_cons rfl (cs_cons rfl cs_nil))) rfl (m_4 _ hS) (fun v1 S1 h1 => ?_)
  obtain ⟨W1, h1, h2⟩ := h1
  exact k_5 v1 W1 h2 S1 h1
theorem br66_22 {x1 : Int32} {x2 : Int32} {o3 : Option Value} {xk0 : Int32}  (k_1 : (¬ xk0 = 0) → rA ext X d 66 28 [some (.ref X.1), some (.int x1), some (.int x2), o3] [] W Q) (k_2 : (xk0 = 0) → rA ext X d 66 25 [some (.ref X.1), some (.int x1), some (.int x2), o3] [] W Q) : rA ext X d 66 22 [some (.ref X.1), some (.int x1), some (.int x2), o3] [.int xk0] W Q := by
  intro S hS
  exact aw_if j66_22 (fun h => k_1 (of_decide_eq_true h) _ hS) (fun h => k_2 (Decidable.of_not_not (of_decide_eq_false h)) _ hS)
theorem br66_25 {x1 : Int32} {x2 : Int32} {o3 : Option Value}  (k_1 : Q (some (.int (-2 : Int32))) W) : rA ext X d 66 25 [some (.ref X.1), some (.int x1), some (.int x2), o3] [] W Q := by
  intro S hS
  refine aw_con j66_25 ?_
  exact aw_ret j66_27 (by rw [rt66]; exact rfl) ⟨_, hS, k_1⟩
theorem br66_28 {x1 : Int32} {x2 : Int32} {o3 : Option Value} {i_1 : Nat} {i_4 : Nat} (e_2 : x1 = nI i_1) (c_3 : i_1 < 30) (e_5 : x1 = nI i_4) (c_6 : i_4 < 30) (k_7 : Q (some (.int (W.1 2 i_1))) (gset W 2 i_4 x2)) : rA ext X d 66 28 [some (.ref X.1), some (.int x1), some (.int x2), o3] [] W Q := by
  intro S hS
  refine aw_ald j66_28 rfl rfl ?_
  refine aw_get j66_29 hS.to (hS.fa 2 rfl) ?_
  refine aw_ild j66_32 rfl ?_
  refine aw_xld (n := 30) j66_33 (hS.ta 2 rfl) e_2 c_3 (by decide) (hS.g 2 i_1 rfl c_3) ?_
  refine aw_ist j66_34 (Nat.le_of_ble_eq_true rfl) ?_
  refine aw_ald j66_35 rfl rfl ?_
  refine aw_get j66_36 hS.to (hS.fa 2 rfl) ?_
  refine aw_ild j66_39 rfl ?_
  refine aw_ild j66_40 rfl ?_
  refine aw_xst (n := 30) j66_41 (hS.ta 2 rfl) e_5 c_6 (by decide) ?_
  have hS := hS.seta 2 i_4 x2 rfl
  refine aw_ild j66_42 rfl ?_
  exact aw_ret j66_43 (by rw [rt66]; exact rfl) ⟨_, hS, k_7⟩
/-! Ref_isFile -/
theorem br67_0 {x1 : Int32} {P_1 : Int32 → rW → Prop} (m_4 : rCi ext X d 65 [.int x1, .int (0 : Int32), .int ((W.2 1) - (1 : Int32))] W P_1) (k_5 : ∀ v_3 W_2, P_1 v_3 W_2 → rA ext X (d + 1) 67 11 [some (.ref X.1), some (.int x1)] [.int v_3] W_2 Q) : rA ext X (d + 1) 67 0 [some (.ref X.1), some (.int x1)] [] W Q := by
  intro S hS
  refine aw_ild j67_0 rfl ?_
  refine aw_con j67_1 ?_
  refine aw_ald j67_2 rfl rfl ?_
  refine aw_get j67_3 hS.to (hS.n 1 rfl) ?_
  refine aw_con j67_6 ?_
  refine aw_bin (z := ((W.2 1) - (1 : Int32))) j67_7 rfl ?_
  refine aw_calli (as := [.int x1, .int (0 : Int32), .int ((W.2 1) - (1 : Int32))]) j67_8 rfl rfl (Nat.le_of_ble_eq_true rfl) cy65.1 cy65.2 (cs_cons rfl (cs_cons rfl (cs_cons rfl cs_nil))) rfl (m_4 _ hS) (fun v1 S1 h1 => ?_)
  obtain ⟨W1, h1, h2⟩ := h1
  exact k_5 v1 W1 h2 S1 h1
theorem br67_11 {x1 : Int32} {xk0 : Int32} (o_2 : xk0 = 0 ∨ xk0 = 1) (k_1 : Q (some (.int xk0)) W) : rA ext X d 67 11 [some (.ref X.1), some (.int x1)] [.int xk0] W Q := by
  intro S hS
  exact aw_ret j67_11 (by rw [rt67]; exact (decide_eq_true o_2)) ⟨_, hS, k_1⟩
/-! Ref_map -/
theorem br68_0 {x1 : Int32} {P_1 : Int32 → rW → Prop} (m_4 : rCi ext X d 65 [.int x1, .int (0 : Int32), .int (1 : Int32)] (hset W 0 (0 : Int32)) P_1) (k_5 : ∀ v_3 W_2, P_1 v_3 W_2 → rA ext X (d + 1) 68 11 [some (.ref X.1), some (.int x1)] [.int v_3] W_2 Q) : rA ext X (d + 1) 68 0 [some (.ref X.1), some (.int x1)] [] W Q := by
  intro S hS
  refine aw_ald j68_0 rfl rfl ?_
  refine aw_con j68_1 ?_
  refine aw_put j68_2 hS.to rfl ?_
  have hS := hS.seth 0 (0 : Int32) rfl
  refine aw_ild j68_5 rfl ?_
  refine aw_con j68_6 ?_
  refine aw_con j68_7 ?_
  refine aw_calli (as := [.int x1, .int (0 : Int32), .int (1 : Int32)]) j68_8 rfl rfl (Nat.le_of_ble_eq_true rfl) cy65.1 cy65.2 (cs_cons rfl (cs_cons rfl (cs_cons rfl cs_nil))) rfl (m_4 _ hS) (fun v1 S1 h1 => ?_)
  obtain ⟨W1, h1, h2⟩ := h1
  exact k_5 v1 W1 h2 S1 h1
theorem br68_11 {x1 : Int32} {xk0 : Int32}  (k_1 : (¬ xk0 = 0) → rA ext X d 68 17 [some (.ref X.1), some (.int x1)] [] W Q) (k_2 : (xk0 = 0) → rA ext X d 68 14 [some (.ref X.1), some (.int x1)] [] W Q) : rA ext X d 68 11 [some (.ref X.1), some (.int x1)] [.int xk0] W Q := by
  intro S hS
  exact aw_if j68_11 (fun h => k_1 (of_decide_eq_true h) _ hS) (fun h => k_2 (Decidable.of_not_not (of_decide_eq_false h)) _ hS)
theorem br68_14 {x1 : Int32}  (k_1 : Q (some (.int (-2 : Int32))) W) : rA ext X d 68 14 [some (.ref X.1), some (.int x1)] [] W Q := by
  intro S hS
  refine aw_con j68_14 ?_
  exact aw_ret j68_16 (by rw [rt68]; exact rfl) ⟨_, hS, k_1⟩
theorem br68_17 {x1 : Int32}  (k_1 : (¬ (W.2 3) = (5 : Int32)) → rA ext X d 68 28 [some (.ref X.1), some (.int x1)] [] W Q) (k_2 : ((W.2 3) = (5 : Int32)) → rA ext X d 68 25 [some (.ref X.1), some (.int x1)] [] W Q) : rA ext X d 68 17 [some (.ref X.1), some (.int x1)] [] W Q := by
  intro S hS
  refine aw_ald j68_17 rfl rfl ?_
  refine aw_get j68_18 hS.to (hS.n 3 rfl) ?_
  refine aw_con j68_21 ?_
  exact aw_ic j68_22 (fun h => k_1 (of_decide_eq_true h) _ hS) (fun h => k_2 (Decidable.of_not_not (of_decide_eq_false h)) _ hS)
theorem br68_25 {x1 : Int32}  (k_1 : Q (some (.int (-4 : Int32))) W) : rA ext X d 68 25 [some (.ref X.1), some (.int x1)] [] W Q := by
  intro S hS
  refine aw_con j68_25 ?_
  exact aw_ret j68_27 (by rw [rt68]; exact rfl) ⟨_, hS, k_1⟩
theorem br68_28 {x1 : Int32} {i_1 : Nat} (e_2 : (W.2 3) = nI i_1) (c_3 : i_1 < 5) (k_4 : Q (some (.int (((hset (gset W 4 i_1 x1) 3 (((gset W 4 i_1 x1).2 3) + (1 : Int32))).2 3) - (1 : Int32)))) (hset (gset W 4 i_1 x1) 3 (((gset W 4 i_1 x1).2 3) + (1 : Int32)))) : rA ext X d 68 28 [some (.ref X.1), some (.int x1)] [] W Q := by
  intro S hS
  refine aw_ald j68_28 rfl rfl ?_
  refine aw_get j68_29 hS.to (hS.fa 4 rfl) ?_
  refine aw_ald j68_32 rfl rfl ?_
  refine aw_get j68_33 hS.to (hS.n 3 rfl) ?_
  refine aw_ild j68_36 rfl ?_
  refine aw_xst (n := 5) j68_37 (hS.ta 4 rfl) e_2 c_3 (by decide) ?_
  have hS := hS.seta 4 i_1 x1 rfl
  refine aw_ald j68_38 rfl rfl ?_
  refine aw_dup j68_39 rfl ?_
  refine aw_get j68_40 hS.to (hS.n 3 rfl) ?_
  refine aw_con j68_43 ?_
  refine aw_bin (z := (((gset W 4 i_1 x1).2 3) + (1 : Int32))) j68_44 rfl ?_
  refine aw_put j68_45 hS.to rfl ?_
  have hS := hS.seth 3 (((gset W 4 i_1 x1).2 3) + (1 : Int32)) rfl
  refine aw_ald j68_48 rfl rfl ?_
  refine aw_get j68_49 hS.to (hS.n 3 rfl) ?_
  refine aw_con j68_52 ?_
  refine aw_bin (z := (((hset (gset W 4 i_1 x1) 3 (((gset W 4 i_1 x1).2 3) + (1 : Int32))).2 3) - (1 : Int32))) j68_53 rfl ?_
  exact aw_ret j68_54 (by rw [rt68]; exact rfl) ⟨_, hS, k_4⟩
/-! Ref_division -/
theorem br69_0 {x1 : Int32} {x2 : Int32} {x3 : Int32} {x4 : Int32} {P_1 : Int32 → rW → Prop} (m_4 : rCi ext X d 70 [.ref X.1, .int x1] (hset W 0 (0 : Int32)) P_1) (k_5 : ∀ v_3 W_2, P_1 v_3 W_2 → rA ext X (d + 1) 69 10 [some (.ref X.1), some (.int x1), some (.int x2), some (.int x3), some (.int x4)] [.int v_3] W_2 Q) : rA ext X (d + 1) 69 0 [some (.ref X.1), some (.int x1), some (.int x2), some (.int x3), some (.int x4)] [] W Q := by
  intro S hS
  refine aw_ald j69_0 rfl rfl ?_
  refine aw_con j69_1 ?_
  refine aw_put j69_2 hS.to rfl ?_
  have hS := hS.seth 0 (0 : Int32) rfl
  refine aw_ald j69_5 rfl rfl ?_
  refine aw_ild j69_6 rfl ?_
  refine aw_calli (as := [.ref X.1, .int x1]) j69_7 rfl rfl (Nat.le_of_ble_eq_true rfl) cy70.1 cy70.2 (cs_cons rfl (cs_cons rfl cs_nil)) (decide_eq_true hS.to) (m_4 _ hS) (fun v1 S1 h1 => ?_)
  obtain ⟨W1, h1, h2⟩ := h1
  exact k_5 v1 W1 h2 S1 h1
theorem br69_10 {x1 : Int32} {x2 : Int32} {x3 : Int32} {x4 : Int32} {xk0 : Int32}  (k_1 : (xk0 = 0) → rA ext X d 69 26 [some (.ref X.1), some (.int x1), some (.int x2), some (.int x3), some (.int x4)] [] W Q) (k_2 : (¬ (xk0 = 0)) → rA ext X d 69 13 [some (.ref X.1), some (.int x1), some (.int x2), some (.int x3), some (.int x4)] [] W Q) : rA ext X d 69 10 [some (.ref X.1), some (.int x1), some (.int x2), some (.int x3), some (.int x4)] [.int xk0] W Q := by
  intro S hS
  exact aw_if j69_10 (fun h => k_1 (of_decide_eq_true h) _ hS) (fun h => k_2 (of_decide_eq_false h) _ hS)
theorem br69_13 {x1 : Int32} {x2 : Int32} {x3 : Int32} {x4 : Int32}  (k_1 : (x2 = (-1 : Int32)) → rA ext X d 69 28 [some (.ref X.1), some (.int x1), some (.int x2), some (.int x3), some (.int x4)] [] W Q) (k_2 : (¬ (x2 = (-1 : Int32))) → rA ext X d 69 18 [some (.ref X.1), some (.int x1), some (.int x2), some (.int x3), some (.int x4)] [] W Q) : rA ext X d 69 13 [some (.ref X.1), some (.int x1), some (.int x2), some (.int x3), some (.int x4)] [] W Q := by
  intro S hS
  refine aw_ild j69_13 rfl ?_
  refine aw_con j69_14 ?_
  exact aw_ic j69_15 (fun h => k_1 (of_decide_eq_true h) _ hS) (fun h => k_2 (of_decide_eq_false h) _ hS)
theorem br69_18 {x1 : Int32} {x2 : Int32} {x3 : Int32} {x4 : Int32} {P_1 : Int32 → rW → Prop} (m_4 : rCi ext X d 71 [.ref X.1, .int x2] W P_1) (k_5 : ∀ v_3 W_2, P_1 v_3 W_2 → rA ext X (d + 1) 69 23 [some (.ref X.1), some (.int x1), some (.int x2), some (.int x3), some (.int x4)] [.int v_3] W_2 Q) : rA ext X (d + 1) 69 18 [some (.ref X.1), some (.int x1), some (.int x2), some (.int x3), some (.int x4)] [] W Q := by
  intro S hS
  refine aw_ald j69_18 rfl rfl ?_
  refine aw_ild j69_19 rfl ?_
  refine aw_calli (as := [.ref X.1, .int x2]) j69_20 rfl rfl (Nat.le_of_ble_eq_true rfl) cy71.1 cy71.2 (cs_cons rfl (cs_cons rfl cs_nil)) (decide_eq_true hS.to) (m_4 _ hS) (fun v1 S1 h1 => ?_)
  obtain ⟨W1, h1, h2⟩ := h1
  exact k_5 v1 W1 h2 S1 h1
theorem br69_23 {x1 : Int32} {x2 : Int32} {x3 : Int32} {x4 : Int32} {xk0 : Int32}  (k_1 : (¬ xk0 = 0) → rA ext X d 69 28 [some (.ref X.1), some (.int x1), some (.int x2), some (.int x3), some (.int x4)] [] W Q) (k_2 : (xk0 = 0) → rA ext X d 69 26 [some (.ref X.1), some (.int x1), some (.int x2), some (.int x3), some (.int x4)] [] W Q) : rA ext X d 69 23 [some (.ref X.1), some (.int x1), some (.int x2), some (.int x3), some (.int x4)] [.int xk0] W Q := by
  intro S hS
  exact aw_if j69_23 (fun h => k_1 (of_decide_eq_true h) _ hS) (fun h => k_2 (Decidable.of_not_not (of_decide_eq_false h)) _ hS)
theorem br69_26 {x1 : Int32} {x2 : Int32} {x3 : Int32} {x4 : Int32}  (k_1 : Q (some (.int (-1 : Int32))) W) : rA ext X d 69 26 [some (.ref X.1), some (.int x1), some (.int x2), some (.int x3), some (.int x4)] [] W Q := by
  intro S hS
  refine aw_con j69_26 ?_
  exact aw_ret j69_27 (by rw [rt69]; exact rfl) ⟨_, hS, k_1⟩
theorem br69_28 {x1 : Int32} {x2 : Int32} {x3 : Int32} {x4 : Int32} {P_1 : Int32 → rW → Prop} (m_4 : rCi ext X d 65 [.int x3, .int (0 : Int32), .int (999 : Int32)] W P_1) (k_5 : ∀ v_3 W_2, P_1 v_3 W_2 → rA ext X (d + 1) 69 36 [some (.ref X.1), some (.int x1), some (.int x2), some (.int x3), some (.int x4)] [.int v_3] W_2 Q) : rA ext X (d + 1) 69 28 [some (.ref X.1), some (.int x1), some (.int x2), some (.int x3), some (.int x4)] [] W Q := by
  intro S hS
  refine aw_ild j69_28 rfl ?_
  refine aw_con j69_29 ?_
  refine aw_con j69_30 ?_
  refine aw_calli (as := [.int x3, .int (0 : Int32), .int (999 : Int32)]) j69_33 rfl rfl (Nat.le_of_ble_eq_true rfl) cy65.1 cy65.2 (cs_cons rfl (cs_cons rfl (cs_cons rfl cs_nil))) rfl (m_4 _ hS) (fun v1 S1 h1 => ?_)
  obtain ⟨W1, h1, h2⟩ := h1
  exact k_5 v1 W1 h2 S1 h1
theorem br69_36 {x1 : Int32} {x2 : Int32} {x3 : Int32} {x4 : Int32} {xk0 : Int32}  (k_1 : (xk0 = 0) → rA ext X d 69 51 [some (.ref X.1), some (.int x1), some (.int x2), some (.int x3), some (.int x4)] [] W Q) (k_2 : (¬ (xk0 = 0)) → rA ext X d 69 39 [some (.ref X.1), some (.int x1), some (.int x2), some (.int x3), some (.int x4)] [] W Q) : rA ext X d 69 36 [some (.ref X.1), some (.int x1), some (.int x2), some (.int x3), some (.int x4)] [.int xk0] W Q := by
  intro S hS
  exact aw_if j69_36 (fun h => k_1 (of_decide_eq_true h) _ hS) (fun h => k_2 (of_decide_eq_false h) _ hS)
theorem br69_39 {x1 : Int32} {x2 : Int32} {x3 : Int32} {x4 : Int32} {P_1 : Int32 → rW → Prop} (m_4 : rCi ext X d 65 [.int x4, .int (0 : Int32), .int (9999 : Int32)] W P_1) (k_5 : ∀ v_3 W_2, P_1 v_3 W_2 → rA ext X (d + 1) 69 48 [some (.ref X.1), some (.int x1), some (.int x2), some (.int x3), some (.int x4)] [.int v_3] W_2 Q) : rA ext X (d + 1) 69 39 [some (.ref X.1), some (.int x1), some (.int x2), some (.int x3), some (.int x4)] [] W Q := by
  intro S hS
  refine aw_ild j69_39 rfl ?_
  refine aw_con j69_41 ?_
  refine aw_con j69_42 ?_
  refine aw_calli (as := [.int x4, .int (0 : Int32), .int (9999 : Int32)]) j69_45 rfl rfl (Nat.le_of_ble_eq_true rfl) cy65.1 cy65.2 (cs_cons rfl (cs_cons rfl (cs_cons rfl cs_nil))) rfl (m_4 _ hS) (fun v1 S1 h1 => ?_)
  obtain ⟨W1, h1, h2⟩ := h1
  exact k_5 v1 W1 h2 S1 h1
theorem br69_48 {x1 : Int32} {x2 : Int32} {x3 : Int32} {x4 : Int32} {xk0 : Int32}  (k_1 : (¬ xk0 = 0) → rA ext X d 69 54 [some (.ref X.1), some (.int x1), some (.int x2), some (.int x3), some (.int x4)] [] W Q) (k_2 : (xk0 = 0) → rA ext X d 69 51 [some (.ref X.1), some (.int x1), some (.int x2), some (.int x3), some (.int x4)] [] W Q) : rA ext X d 69 48 [some (.ref X.1), some (.int x1), some (.int x2), some (.int x3), some (.int x4)] [.int xk0] W Q := by
  intro S hS
  exact aw_if j69_48 (fun h => k_1 (of_decide_eq_true h) _ hS) (fun h => k_2 (Decidable.of_not_not (of_decide_eq_false h)) _ hS)
theorem br69_51 {x1 : Int32} {x2 : Int32} {x3 : Int32} {x4 : Int32}  (k_1 : Q (some (.int (-2 : Int32))) W) : rA ext X d 69 51 [some (.ref X.1), some (.int x1), some (.int x2), some (.int x3), some (.int x4)] [] W Q := by
  intro S hS
  refine aw_con j69_51 ?_
  exact aw_ret j69_53 (by rw [rt69]; exact rfl) ⟨_, hS, k_1⟩
theorem br69_54 {x1 : Int32} {x2 : Int32} {x3 : Int32} {x4 : Int32}  (k_1 : (x2 < 0) → rA ext X d 69 80 [some (.ref X.1), some (.int x1), some (.int x2), some (.int x3), some (.int x4)] [] W Q) (k_2 : (¬ (x2 < 0)) → rA ext X d 69 58 [some (.ref X.1), some (.int x1), some (.int x2), some (.int x3), some (.int x4)] [] W Q) : rA ext X d 69 54 [some (.ref X.1), some (.int x1), some (.int x2), some (.int x3), some (.int x4)] [] W Q := by
  intro S hS
  refine aw_ild j69_54 rfl ?_
  exact aw_if j69_55 (fun h => k_1 (of_decide_eq_true h) _ hS) (fun h => k_2 (of_decide_eq_false h) _ hS)
theorem br69_58 {x1 : Int32} {x2 : Int32} {x3 : Int32} {x4 : Int32} {i_1 : Nat} (e_2 : x2 = nI i_1) (c_3 : i_1 < 120) (k_4 : (¬ (W.1 6 i_1) = x1) → rA ext X d 69 77 [some (.ref X.1), some (.int x1), some (.int x2), some (.int x3), some (.int x4)] [] W Q) (k_5 : ((W.1 6 i_1) = x1) → rA ext X d 69 68 [some (.ref X.1), some (.int x1), some (.int x2), some (.int x3), some (.int x4)] [] W Q) : rA ext X d 69 58 [some (.ref X.1), some (.int x1), some (.int x2), some (.int x3), some (.int x4)] [] W Q := by
  intro S hS
  refine aw_ald j69_58 rfl rfl ?_
  refine aw_get j69_59 hS.to (hS.fa 6 rfl) ?_
  refine aw_ild j69_62 rfl ?_
  refine aw_xld (n := 120) j69_63 (hS.ta 6 rfl) e_2 c_3 (by decide) (hS.g 6 i_1 rfl c_3) ?_
  refine aw_ild j69_64 rfl ?_
  exact aw_ic j69_65 (fun h => k_4 (of_decide_eq_true h) _ hS) (fun h => k_5 (Decidable.of_not_not (of_decide_eq_false h)) _ hS)
theorem br69_68 {x1 : Int32} {x2 : Int32} {x3 : Int32} {x4 : Int32} {i_1 : Nat} (e_2 : x2 = nI i_1) (c_3 : i_1 < 120) (k_4 : ((W.1 10 i_1) < 0) → rA ext X d 69 80 [some (.ref X.1), some (.int x1), some (.int x2), some (.int x3), some (.int x4)] [] W Q) (k_5 : (¬ ((W.1 10 i_1) < 0)) → rA ext X d 69 77 [some (.ref X.1), some (.int x1), some (.int x2), some (.int x3), some (.int x4)] [] W Q) : rA ext X d 69 68 [some (.ref X.1), some (.int x1), some (.int x2), some (.int x3), some (.int x4)] [] W Q := by
  intro S hS
  refine aw_ald j69_68 rfl rfl ?_
  refine aw_get j69_69 hS.to (hS.fa 10 rfl) ?_
  refine aw_ild j69_72 rfl ?_
  refine aw_xld (n := 120) j69_73 (hS.ta 10 rfl) e_2 c_3 (by decide) (hS.g 10 i_1 rfl c_3) ?_
  exact aw_if j69_74 (fun h => k_4 (of_decide_eq_true h) _ hS) (fun h => k_5 (of_decide_eq_false h) _ hS)
theorem br69_77 {x1 : Int32} {x2 : Int32} {x3 : Int32} {x4 : Int32}  (k_1 : Q (some (.int (-3 : Int32))) W) : rA ext X d 69 77 [some (.ref X.1), some (.int x1), some (.int x2), some (.int x3), some (.int x4)] [] W Q := by
  intro S hS
  refine aw_con j69_77 ?_
  exact aw_ret j69_79 (by rw [rt69]; exact rfl) ⟨_, hS, k_1⟩
theorem br69_80 {x1 : Int32} {x2 : Int32} {x3 : Int32} {x4 : Int32}  (k_1 : (¬ (W.2 5) = (120 : Int32)) → rA ext X d 69 92 [some (.ref X.1), some (.int x1), some (.int x2), some (.int x3), some (.int x4)] [] W Q) (k_2 : ((W.2 5) = (120 : Int32)) → rA ext X d 69 89 [some (.ref X.1), some (.int x1), some (.int x2), some (.int x3), some (.int x4)] [] W Q) : rA ext X d 69 80 [some (.ref X.1), some (.int x1), some (.int x2), some (.int x3), some (.int x4)] [] W Q := by
  intro S hS
  refine aw_ald j69_80 rfl rfl ?_
  refine aw_get j69_81 hS.to (hS.n 5 rfl) ?_
  refine aw_con j69_84 ?_
  exact aw_ic j69_86 (fun h => k_1 (of_decide_eq_true h) _ hS) (fun h => k_2 (Decidable.of_not_not (of_decide_eq_false h)) _ hS)
theorem br69_89 {x1 : Int32} {x2 : Int32} {x3 : Int32} {x4 : Int32}  (k_1 : Q (some (.int (-4 : Int32))) W) : rA ext X d 69 89 [some (.ref X.1), some (.int x1), some (.int x2), some (.int x3), some (.int x4)] [] W Q := by
  intro S hS
  refine aw_con j69_89 ?_
  exact aw_ret j69_91 (by rw [rt69]; exact rfl) ⟨_, hS, k_1⟩
theorem br69_92 {x1 : Int32} {x2 : Int32} {x3 : Int32} {x4 : Int32} {i_1 : Nat} {i_4 : Nat} {i_7 : Nat} {i_10 : Nat} {i_13 : Nat} (e_2 : (W.2 5) = nI i_1) (c_3 : i_1 < 120) (e_5 : ((gset W 6 i_1 x1).2 5) = nI i_4) (c_6 : i_4 < 120) (e_8 : ((gset (gset W 6 i_1 x1) 7 i_4 x2).2 5) = nI i_7) (c_9 : i_7 < 120) (e_11 : ((gset (gset (gset W 6 i_1 x1) 7 i_4 x2) 8 i_7 x3).2 5) = nI i_10) (c_12 : i_10 < 120) (e_14 : ((gset (gset (gset (gset W 6 i_1 x1) 7 i_4 x2) 8 i_7 x3) 9 i_10 x4).2 5) = nI i_13) (c_15 : i_13 < 120) (k_16 : Q (some (.int (((hset (gset (gset (gset (gset (gset W 6 i_1 x1) 7 i_4 x2) 8 i_7 x3) 9 i_10 x4) 10 i_13 (-1 : Int32)) 5 (((gset (gset (gset (gset (gset W 6 i_1 x1) 7 i_4 x2) 8 i_7 x3) 9 i_10 x4) 10 i_13 (-1 : Int32)).2 5) + (1 : Int32))).2 5) - (1 : Int32)))) (hset (gset (gset (gset (gset (gset W 6 i_1 x1) 7 i_4 x2) 8 i_7 x3) 9 i_10 x4) 10 i_13 (-1 : Int32)) 5 (((gset (gset (gset (gset (gset W 6 i_1 x1) 7 i_4 x2) 8 i_7 x3) 9 i_10 x4) 10 i_13 (-1 : Int32)).2 5) + (1 : Int32)))) : rA ext X d 69 92 [some (.ref X.1), some (.int x1), some (.int x2), some (.int x3), some (.int x4)] [] W Q := by
  intro S hS
  refine aw_ald j69_92 rfl rfl ?_
  refine aw_get j69_93 hS.to (hS.fa 6 rfl) ?_
  refine aw_ald j69_96 rfl rfl ?_
  refine aw_get j69_97 hS.to (hS.n 5 rfl) ?_
  refine aw_ild j69_100 rfl ?_
  refine aw_xst (n := 120) j69_101 (hS.ta 6 rfl) e_2 c_3 (by decide) ?_
  have hS := hS.seta 6 i_1 x1 rfl
  refine aw_ald j69_102 rfl rfl ?_
  refine aw_get j69_103 hS.to (hS.fa 7 rfl) ?_
  refine aw_ald j69_106 rfl rfl ?_
  refine aw_get j69_107 hS.to (hS.n 5 rfl) ?_
  refine aw_ild j69_110 rfl ?_
  refine aw_xst (n := 120) j69_111 (hS.ta 7 rfl) e_5 c_6 (by decide) ?_
  have hS := hS.seta 7 i_4 x2 rfl
  refine aw_ald j69_112 rfl rfl ?_
  refine aw_get j69_113 hS.to (hS.fa 8 rfl) ?_
  refine aw_ald j69_116 rfl rfl ?_
  refine aw_get j69_117 hS.to (hS.n 5 rfl) ?_
  refine aw_ild j69_120 rfl ?_
  refine aw_xst (n := 120) j69_121 (hS.ta 8 rfl) e_8 c_9 (by decide) ?_
  have hS := hS.seta 8 i_7 x3 rfl
  refine aw_ald j69_122 rfl rfl ?_
  refine aw_get j69_123 hS.to (hS.fa 9 rfl) ?_
  refine aw_ald j69_126 rfl rfl ?_
  refine aw_get j69_127 hS.to (hS.n 5 rfl) ?_
  refine aw_ild j69_130 rfl ?_
  refine aw_xst (n := 120) j69_132 (hS.ta 9 rfl) e_11 c_12 (by decide) ?_
  have hS := hS.seta 9 i_10 x4 rfl
  refine aw_ald j69_133 rfl rfl ?_
  refine aw_get j69_134 hS.to (hS.fa 10 rfl) ?_
  refine aw_ald j69_137 rfl rfl ?_
  refine aw_get j69_138 hS.to (hS.n 5 rfl) ?_
  refine aw_con j69_141 ?_
  refine aw_xst (n := 120) j69_142 (hS.ta 10 rfl) e_14 c_15 (by decide) ?_
  have hS := hS.seta 10 i_13 (-1 : Int32) rfl
  refine aw_ald j69_143 rfl rfl ?_
  refine aw_dup j69_144 rfl ?_
  refine aw_get j69_145 hS.to (hS.n 5 rfl) ?_
  refine aw_con j69_148 ?_
  refine aw_bin (z := (((gset (gset (gset (gset (gset W 6 i_1 x1) 7 i_4 x2) 8 i_7 x3) 9 i_10 x4) 10 i_13 (-1 : Int32)).2 5) + (1 : Int32))) j69_149 rfl ?_
  refine aw_put j69_150 hS.to rfl ?_
  have hS := hS.seth 5 (((gset (gset (gset (gset (gset W 6 i_1 x1) 7 i_4 x2) 8 i_7 x3) 9 i_10 x4) 10 i_13 (-1 : Int32)).2 5) + (1 : Int32)) rfl
  refine aw_ald j69_153 rfl rfl ?_
  refine aw_get j69_154 hS.to (hS.n 5 rfl) ?_
  refine aw_con j69_157 ?_
  refine aw_bin (z := (((hset (gset (gset (gset (gset (gset W 6 i_1 x1) 7 i_4 x2) 8 i_7 x3) 9 i_10 x4) 10 i_13 (-1 : Int32)) 5 (((gset (gset (gset (gset (gset W 6 i_1 x1) 7 i_4 x2) 8 i_7 x3) 9 i_10 x4) 10 i_13 (-1 : Int32)).2 5) + (1 : Int32))).2 5) - (1 : Int32))) j69_158 rfl ?_
  exact aw_ret j69_159 (by rw [rt69]; exact rfl) ⟨_, hS, k_16⟩
/-! Ref_isMap -/
theorem br70_0 {x1 : Int32} {P_1 : Int32 → rW → Prop} (m_4 : rCi ext X d 65 [.int x1, .int (0 : Int32), .int ((W.2 3) - (1 : Int32))] W P_1) (k_5 : ∀ v_3 W_2, P_1 v_3 W_2 → rA ext X (d + 1) 70 11 [some (.ref X.1), some (.int x1)] [.int v_3] W_2 Q) : rA ext X (d + 1) 70 0 [some (.ref X.1), some (.int x1)] [] W Q := by
  intro S hS
  refine aw_ild j70_0 rfl ?_
  refine aw_con j70_1 ?_
  refine aw_ald j70_2 rfl rfl ?_
  refine aw_get j70_3 hS.to (hS.n 3 rfl) ?_
  refine aw_con j70_6 ?_
  refine aw_bin (z := ((W.2 3) - (1 : Int32))) j70_7 rfl ?_
  refine aw_calli (as := [.int x1, .int (0 : Int32), .int ((W.2 3) - (1 : Int32))]) j70_8 rfl rfl (Nat.le_of_ble_eq_true rfl) cy65.1 cy65.2 (cs_cons rfl (cs_cons rfl (cs_cons rfl cs_nil))) rfl (m_4 _ hS) (fun v1 S1 h1 => ?_)
  obtain ⟨W1, h1, h2⟩ := h1
  exact k_5 v1 W1 h2 S1 h1
theorem br70_11 {x1 : Int32} {xk0 : Int32} (o_2 : xk0 = 0 ∨ xk0 = 1) (k_1 : Q (some (.int xk0)) W) : rA ext X d 70 11 [some (.ref X.1), some (.int x1)] [.int xk0] W Q := by
  intro S hS
  exact aw_ret j70_11 (by rw [rt70]; exact (decide_eq_true o_2)) ⟨_, hS, k_1⟩
/-! Ref_isDivision -/
theorem br71_0 {x1 : Int32} {P_1 : Int32 → rW → Prop} (m_4 : rCi ext X d 65 [.int x1, .int (0 : Int32), .int ((W.2 5) - (1 : Int32))] W P_1) (k_5 : ∀ v_3 W_2, P_1 v_3 W_2 → rA ext X (d + 1) 71 11 [some (.ref X.1), some (.int x1)] [.int v_3] W_2 Q) : rA ext X (d + 1) 71 0 [some (.ref X.1), some (.int x1)] [] W Q := by
  intro S hS
  refine aw_ild j71_0 rfl ?_
  refine aw_con j71_1 ?_
  refine aw_ald j71_2 rfl rfl ?_
  refine aw_get j71_3 hS.to (hS.n 5 rfl) ?_
  refine aw_con j71_6 ?_
  refine aw_bin (z := ((W.2 5) - (1 : Int32))) j71_7 rfl ?_
  refine aw_calli (as := [.int x1, .int (0 : Int32), .int ((W.2 5) - (1 : Int32))]) j71_8 rfl rfl (Nat.le_of_ble_eq_true rfl) cy65.1 cy65.2 (cs_cons rfl (cs_cons rfl (cs_cons rfl cs_nil))) rfl (m_4 _ hS) (fun v1 S1 h1 => ?_)
  obtain ⟨W1, h1, h2⟩ := h1
  exact k_5 v1 W1 h2 S1 h1
theorem br71_11 {x1 : Int32} {xk0 : Int32} (o_2 : xk0 = 0 ∨ xk0 = 1) (k_1 : Q (some (.int xk0)) W) : rA ext X d 71 11 [some (.ref X.1), some (.int x1)] [.int xk0] W Q := by
  intro S hS
  exact aw_ret j71_11 (by rw [rt71]; exact (decide_eq_true o_2)) ⟨_, hS, k_1⟩
/-! Ref_link -/
theorem br72_0 {x1 : Int32} {x2 : Int32} {x3 : Int32} {x4 : Int32} {o5 : Option Value} {P_1 : Int32 → rW → Prop} (m_4 : rCi ext X d 71 [.ref X.1, .int x1] (hset W 0 (0 : Int32)) P_1) (k_5 : ∀ v_3 W_2, P_1 v_3 W_2 → rA ext X (d + 1) 72 10 [some (.ref X.1), some (.int x1), some (.int x2), some (.int x3), some (.int x4), o5] [.int v_3] W_2 Q) : rA ext X (d + 1) 72 0 [some (.ref X.1), some (.int x1), some (.int x2), some (.int x3), some (.int x4), o5] [] W Q := by
  intro S hS
  refine aw_ald j72_0 rfl rfl ?_
  refine aw_con j72_1 ?_
  refine aw_put j72_2 hS.to rfl ?_
  have hS := hS.seth 0 (0 : Int32) rfl
  refine aw_ald j72_5 rfl rfl ?_
  refine aw_ild j72_6 rfl ?_
  refine aw_calli (as := [.ref X.1, .int x1]) j72_7 rfl rfl (Nat.le_of_ble_eq_true rfl) cy71.1 cy71.2 (cs_cons rfl (cs_cons rfl cs_nil)) (decide_eq_true hS.to) (m_4 _ hS) (fun v1 S1 h1 => ?_)
  obtain ⟨W1, h1, h2⟩ := h1
  exact k_5 v1 W1 h2 S1 h1
theorem br72_10 {x1 : Int32} {x2 : Int32} {x3 : Int32} {x4 : Int32} {o5 : Option Value} {xk0 : Int32}  (k_1 : (xk0 = 0) → rA ext X d 72 21 [some (.ref X.1), some (.int x1), some (.int x2), some (.int x3), some (.int x4), o5] [] W Q) (k_2 : (¬ (xk0 = 0)) → rA ext X d 72 13 [some (.ref X.1), some (.int x1), some (.int x2), some (.int x3), some (.int x4), o5] [] W Q) : rA ext X d 72 10 [some (.ref X.1), some (.int x1), some (.int x2), some (.int x3), some (.int x4), o5] [.int xk0] W Q := by
  intro S hS
  exact aw_if j72_10 (fun h => k_1 (of_decide_eq_true h) _ hS) (fun h => k_2 (of_decide_eq_false h) _ hS)
theorem br72_13 {x1 : Int32} {x2 : Int32} {x3 : Int32} {x4 : Int32} {o5 : Option Value} {P_1 : Int32 → rW → Prop} (m_4 : rCi ext X d 67 [.ref X.1, .int x2] W P_1) (k_5 : ∀ v_3 W_2, P_1 v_3 W_2 → rA ext X (d + 1) 72 18 [some (.ref X.1), some (.int x1), some (.int x2), some (.int x3), some (.int x4), o5] [.int v_3] W_2 Q) : rA ext X (d + 1) 72 13 [some (.ref X.1), some (.int x1), some (.int x2), some (.int x3), some (.int x4), o5] [] W Q := by
  intro S hS
  refine aw_ald j72_13 rfl rfl ?_
  refine aw_ild j72_14 rfl ?_
  refine aw_calli (as := [.ref X.1, .int x2]) j72_15 rfl rfl (Nat.le_of_ble_eq_true rfl) cy67.1 cy67.2 (cs_cons rfl (cs_cons rfl cs_nil)) (decide_eq_true hS.to) (m_4 _ hS) (fun v1 S1 h1 => ?_)
  obtain ⟨W1, h1, h2⟩ := h1
  exact k_5 v1 W1 h2 S1 h1
theorem br72_18 {x1 : Int32} {x2 : Int32} {x3 : Int32} {x4 : Int32} {o5 : Option Value} {xk0 : Int32}  (k_1 : (¬ xk0 = 0) → rA ext X d 72 23 [some (.ref X.1), some (.int x1), some (.int x2), some (.int x3), some (.int x4), o5] [] W Q) (k_2 : (xk0 = 0) → rA ext X d 72 21 [some (.ref X.1), some (.int x1), some (.int x2), some (.int x3), some (.int x4), o5] [] W Q) : rA ext X d 72 18 [some (.ref X.1), some (.int x1), some (.int x2), some (.int x3), some (.int x4), o5] [.int xk0] W Q := by
  intro S hS
  exact aw_if j72_18 (fun h => k_1 (of_decide_eq_true h) _ hS) (fun h => k_2 (Decidable.of_not_not (of_decide_eq_false h)) _ hS)
theorem br72_21 {x1 : Int32} {x2 : Int32} {x3 : Int32} {x4 : Int32} {o5 : Option Value}  (k_1 : Q (some (.int (-1 : Int32))) W) : rA ext X d 72 21 [some (.ref X.1), some (.int x1), some (.int x2), some (.int x3), some (.int x4), o5] [] W Q := by
  intro S hS
  refine aw_con j72_21 ?_
  exact aw_ret j72_22 (by rw [rt72]; exact rfl) ⟨_, hS, k_1⟩
theorem br72_23 {x1 : Int32} {x2 : Int32} {x3 : Int32} {x4 : Int32} {o5 : Option Value} {P_1 : Int32 → rW → Prop} (m_4 : rCi ext X d 65 [.int x3, .int (0 : Int32), .int (100000 : Int32)] W P_1) (k_5 : ∀ v_3 W_2, P_1 v_3 W_2 → rA ext X (d + 1) 72 30 [some (.ref X.1), some (.int x1), some (.int x2), some (.int x3), some (.int x4), o5] [.int v_3] W_2 Q) : rA ext X (d + 1) 72 23 [some (.ref X.1), some (.int x1), some (.int x2), some (.int x3), some (.int x4), o5] [] W Q := by
  intro S hS
  refine aw_ild j72_23 rfl ?_
  refine aw_con j72_24 ?_
  refine aw_con j72_25 ?_
  refine aw_calli (as := [.int x3, .int (0 : Int32), .int (100000 : Int32)]) j72_27 rfl rfl (Nat.le_of_ble_eq_true rfl) cy65.1 cy65.2 (cs_cons rfl (cs_cons rfl (cs_cons rfl cs_nil))) rfl (m_4 _ hS) (fun v1 S1 h1 => ?_)
  obtain ⟨W1, h1, h2⟩ := h1
  exact k_5 v1 W1 h2 S1 h1
theorem br72_30 {x1 : Int32} {x2 : Int32} {x3 : Int32} {x4 : Int32} {o5 : Option Value} {xk0 : Int32}  (k_1 : (xk0 = 0) → rA ext X d 72 46 [some (.ref X.1), some (.int x1), some (.int x2), some (.int x3), some (.int x4), o5] [] W Q) (k_2 : (¬ (xk0 = 0)) → rA ext X d 72 33 [some (.ref X.1), some (.int x1), some (.int x2), some (.int x3), some (.int x4), o5] [] W Q) : rA ext X d 72 30 [some (.ref X.1), some (.int x1), some (.int x2), some (.int x3), some (.int x4), o5] [.int xk0] W Q := by
  intro S hS
  exact aw_if j72_30 (fun h => k_1 (of_decide_eq_true h) _ hS) (fun h => k_2 (of_decide_eq_false h) _ hS)
theorem br72_33 {x1 : Int32} {x2 : Int32} {x3 : Int32} {x4 : Int32} {o5 : Option Value} {P_1 : Int32 → rW → Prop} (m_4 : rCi ext X d 65 [.int x4, .int (x3 + (1 : Int32)), .int (100000 : Int32)] W P_1) (k_5 : ∀ v_3 W_2, P_1 v_3 W_2 → rA ext X (d + 1) 72 43 [some (.ref X.1), some (.int x1), some (.int x2), some (.int x3), some (.int x4), o5] [.int v_3] W_2 Q) : rA ext X (d + 1) 72 33 [some (.ref X.1), some (.int x1), some (.int x2), some (.int x3), some (.int x4), o5] [] W Q := by
  intro S hS
  refine aw_ild j72_33 rfl ?_
  refine aw_ild j72_35 rfl ?_
  refine aw_con j72_36 ?_
  refine aw_bin (z := (x3 + (1 : Int32))) j72_37 rfl ?_
  refine aw_con j72_38 ?_
  refine aw_calli (as := [.int x4, .int (x3 + (1 : Int32)), .int (100000 : Int32)]) j72_40 rfl rfl (Nat.le_of_ble_eq_true rfl) cy65.1 cy65.2 (cs_cons rfl (cs_cons rfl (cs_cons rfl cs_nil))) rfl (m_4 _ hS) (fun v1 S1 h1 => ?_)
  obtain ⟨W1, h1, h2⟩ := h1
  exact k_5 v1 W1 h2 S1 h1
theorem br72_43 {x1 : Int32} {x2 : Int32} {x3 : Int32} {x4 : Int32} {o5 : Option Value} {xk0 : Int32}  (k_1 : (¬ xk0 = 0) → rA ext X d 72 49 [some (.ref X.1), some (.int x1), some (.int x2), some (.int x3), some (.int x4), o5] [] W Q) (k_2 : (xk0 = 0) → rA ext X d 72 46 [some (.ref X.1), some (.int x1), some (.int x2), some (.int x3), some (.int x4), o5] [] W Q) : rA ext X d 72 43 [some (.ref X.1), some (.int x1), some (.int x2), some (.int x3), some (.int x4), o5] [.int xk0] W Q := by
  intro S hS
  exact aw_if j72_43 (fun h => k_1 (of_decide_eq_true h) _ hS) (fun h => k_2 (Decidable.of_not_not (of_decide_eq_false h)) _ hS)
theorem br72_46 {x1 : Int32} {x2 : Int32} {x3 : Int32} {x4 : Int32} {o5 : Option Value}  (k_1 : Q (some (.int (-2 : Int32))) W) : rA ext X d 72 46 [some (.ref X.1), some (.int x1), some (.int x2), some (.int x3), some (.int x4), o5] [] W Q := by
  intro S hS
  refine aw_con j72_46 ?_
  exact aw_ret j72_48 (by rw [rt72]; exact rfl) ⟨_, hS, k_1⟩
theorem br72_49 {x1 : Int32} {x2 : Int32} {x3 : Int32} {x4 : Int32} {o5 : Option Value} {i_1 : Nat} (e_2 : x1 = nI i_1) (c_3 : i_1 < 120) (k_4 : ((W.1 10 i_1) < 0) → rA ext X d 72 61 [some (.ref X.1), some (.int x1), some (.int x2), some (.int x3), some (.int x4), o5] [] W Q) (k_5 : (¬ ((W.1 10 i_1) < 0)) → rA ext X d 72 58 [some (.ref X.1), some (.int x1), some (.int x2), some (.int x3), some (.int x4), o5] [] W Q) : rA ext X d 72 49 [some (.ref X.1), some (.int x1), some (.int x2), some (.int x3), some (.int x4), o5] [] W Q := by
  intro S hS
  refine aw_ald j72_49 rfl rfl ?_
  refine aw_get j72_50 hS.to (hS.fa 10 rfl) ?_
  refine aw_ild j72_53 rfl ?_
  refine aw_xld (n := 120) j72_54 (hS.ta 10 rfl) e_2 c_3 (by decide) (hS.g 10 i_1 rfl c_3) ?_
  exact aw_if j72_55 (fun h => k_4 (of_decide_eq_true h) _ hS) (fun h => k_5 (of_decide_eq_false h) _ hS)
theorem br72_58 {x1 : Int32} {x2 : Int32} {x3 : Int32} {x4 : Int32} {o5 : Option Value}  (k_1 : Q (some (.int (-3 : Int32))) W) : rA ext X d 72 58 [some (.ref X.1), some (.int x1), some (.int x2), some (.int x3), some (.int x4), o5] [] W Q := by
  intro S hS
  refine aw_con j72_58 ?_
  exact aw_ret j72_60 (by rw [rt72]; exact rfl) ⟨_, hS, k_1⟩
theorem br72_61 {x1 : Int32} {x2 : Int32} {x3 : Int32} {x4 : Int32} {o5 : Option Value} {i_1 : Nat} (e_2 : x1 = nI i_1) (c_3 : i_1 < 120) (k_4 : (¬ (W.1 11 i_1) = (5 : Int32)) → rA ext X d 72 74 [some (.ref X.1), some (.int x1), some (.int x2), some (.int x3), some (.int x4), o5] [] W Q) (k_5 : ((W.1 11 i_1) = (5 : Int32)) → rA ext X d 72 71 [some (.ref X.1), some (.int x1), some (.int x2), some (.int x3), some (.int x4), o5] [] W Q) : rA ext X d 72 61 [some (.ref X.1), some (.int x1), some (.int x2), some (.int x3), some (.int x4), o5] [] W Q := by
  intro S hS
  refine aw_ald j72_61 rfl rfl ?_
  refine aw_get j72_62 hS.to (hS.fa 11 rfl) ?_
  refine aw_ild j72_65 rfl ?_
  refine aw_xld (n := 120) j72_66 (hS.ta 11 rfl) e_2 c_3 (by decide) (hS.g 11 i_1 rfl c_3) ?_
  refine aw_con j72_67 ?_
  exact aw_ic j72_68 (fun h => k_4 (of_decide_eq_true h) _ hS) (fun h => k_5 (Decidable.of_not_not (of_decide_eq_false h)) _ hS)
theorem br72_71 {x1 : Int32} {x2 : Int32} {x3 : Int32} {x4 : Int32} {o5 : Option Value}  (k_1 : Q (some (.int (-4 : Int32))) W) : rA ext X d 72 71 [some (.ref X.1), some (.int x1), some (.int x2), some (.int x3), some (.int x4), o5] [] W Q := by
  intro S hS
  refine aw_con j72_71 ?_
  exact aw_ret j72_73 (by rw [rt72]; exact rfl) ⟨_, hS, k_1⟩
theorem br72_74 {x1 : Int32} {x2 : Int32} {x3 : Int32} {x4 : Int32} {o5 : Option Value} {i_1 : Nat} {i_4 : Nat} {i_7 : Nat} {i_10 : Nat} {i_13 : Nat} {i_16 : Nat} {i_19 : Nat} (e_2 : x1 = nI i_1) (c_3 : i_1 < 120) (e_5 : (((5 : Int32) * x1) + (W.1 11 i_1)) = nI i_4) (c_6 : i_4 < 600) (e_8 : (((5 : Int32) * x1) + (W.1 11 i_1)) = nI i_7) (c_9 : i_7 < 600) (e_11 : (((5 : Int32) * x1) + (W.1 11 i_1)) = nI i_10) (c_12 : i_10 < 600) (e_14 : x1 = nI i_13) (c_15 : i_13 < 120) (e_17 : x1 = nI i_16) (c_18 : i_16 < 120) (e_20 : x1 = nI i_19) (c_21 : i_19 < 120) (k_22 : Q (some (.int ((gset (gset (gset (gset W 12 i_4 x2) 13 i_7 x3) 14 i_10 x4) 11 i_16 (((gset (gset (gset W 12 i_4 x2) 13 i_7 x3) 14 i_10 x4).1 11 i_13) + (1 : Int32))).1 11 i_19))) (gset (gset (gset (gset W 12 i_4 x2) 13 i_7 x3) 14 i_10 x4) 11 i_16 (((gset (gset (gset W 12 i_4 x2) 13 i_7 x3) 14 i_10 x4).1 11 i_13) + (1 : Int32)))) : rA ext X d 72 74 [some (.ref X.1), some (.int x1), some (.int x2), some (.int x3), some (.int x4), o5] [] W Q := by
  intro S hS
  refine aw_con j72_74 ?_
  refine aw_ild j72_75 rfl ?_
  refine aw_bin (z := ((5 : Int32) * x1)) j72_76 rfl ?_
  refine aw_ald j72_77 rfl rfl ?_
  refine aw_get j72_78 hS.to (hS.fa 11 rfl) ?_
  refine aw_ild j72_81 rfl ?_
  refine aw_xld (n := 120) j72_82 (hS.ta 11 rfl) e_2 c_3 (by decide) (hS.g 11 i_1 rfl c_3) ?_
  refine aw_bin (z := (((5 : Int32) * x1) + (W.1 11 i_1))) j72_83 rfl ?_
  refine aw_ist j72_84 (Nat.le_of_ble_eq_true rfl) ?_
  refine aw_ald j72_86 rfl rfl ?_
  refine aw_get j72_87 hS.to (hS.fa 12 rfl) ?_
  refine aw_ild j72_90 rfl ?_
  refine aw_ild j72_92 rfl ?_
  refine aw_xst (n := 600) j72_93 (hS.ta 12 rfl) e_5 c_6 (by decide) ?_
  have hS := hS.seta 12 i_4 x2 rfl
  refine aw_ald j72_94 rfl rfl ?_
  refine aw_get j72_95 hS.to (hS.fa 13 rfl) ?_
  refine aw_ild j72_98 rfl ?_
  refine aw_ild j72_100 rfl ?_
  refine aw_xst (n := 600) j72_101 (hS.ta 13 rfl) e_8 c_9 (by decide) ?_
  have hS := hS.seta 13 i_7 x3 rfl
  refine aw_ald j72_102 rfl rfl ?_
  refine aw_get j72_103 hS.to (hS.fa 14 rfl) ?_
  refine aw_ild j72_106 rfl ?_
  refine aw_ild j72_108 rfl ?_
  refine aw_xst (n := 600) j72_110 (hS.ta 14 rfl) e_11 c_12 (by decide) ?_
  have hS := hS.seta 14 i_10 x4 rfl
  refine aw_ald j72_111 rfl rfl ?_
  refine aw_get j72_112 hS.to (hS.fa 11 rfl) ?_
  refine aw_ild j72_115 rfl ?_
  refine aw_dup2 j72_116 rfl rfl ?_
  refine aw_xld (n := 120) j72_117 (hS.ta 11 rfl) e_14 c_15 (by decide) (hS.g 11 i_13 rfl c_15) ?_
  refine aw_con j72_118 ?_
  refine aw_bin (z := (((gset (gset (gset W 12 i_4 x2) 13 i_7 x3) 14 i_10 x4).1 11 i_13) + (1 : Int32))) j72_119 rfl ?_
  refine aw_xst (n := 120) j72_120 (hS.ta 11 rfl) e_17 c_18 (by decide) ?_
  have hS := hS.seta 11 i_16 (((gset (gset (gset W 12 i_4 x2) 13 i_7 x3) 14 i_10 x4).1 11 i_13) + (1 : Int32)) rfl
  refine aw_ald j72_121 rfl rfl ?_
  refine aw_get j72_122 hS.to (hS.fa 11 rfl) ?_
  refine aw_ild j72_125 rfl ?_
  refine aw_xld (n := 120) j72_126 (hS.ta 11 rfl) e_20 c_21 (by decide) (hS.g 11 i_19 rfl c_21) ?_
  exact aw_ret j72_127 (by rw [rt72]; exact rfl) ⟨_, hS, k_22⟩
/-! Ref_repeat -/
theorem br73_0 {x1 : Int32} {x2 : Int32} {o3 : Option Value} {P_1 : Int32 → rW → Prop} (m_4 : rCi ext X d 71 [.ref X.1, .int x1] (hset W 0 (0 : Int32)) P_1) (k_5 : ∀ v_3 W_2, P_1 v_3 W_2 → rA ext X (d + 1) 73 10 [some (.ref X.1), some (.int x1), some (.int x2), o3] [.int v_3] W_2 Q) : rA ext X (d + 1) 73 0 [some (.ref X.1), some (.int x1), some (.int x2), o3] [] W Q := by
  intro S hS
  refine aw_ald j73_0 rfl rfl ?_
  refine aw_con j73_1 ?_
  refine aw_put j73_2 hS.to rfl ?_
  have hS := hS.seth 0 (0 : Int32) rfl
  refine aw_ald j73_5 rfl rfl ?_
  refine aw_ild j73_6 rfl ?_
  refine aw_calli (as := [.ref X.1, .int x1]) j73_7 rfl rfl (Nat.le_of_ble_eq_true rfl) cy71.1 cy71.2 (cs_cons rfl (cs_cons rfl cs_nil)) (decide_eq_true hS.to) (m_4 _ hS) (fun v1 S1 h1 => ?_)
  obtain ⟨W1, h1, h2⟩ := h1
  exact k_5 v1 W1 h2 S1 h1
theorem br73_10 {x1 : Int32} {x2 : Int32} {o3 : Option Value} {xk0 : Int32}  (k_1 : (xk0 = 0) → rA ext X d 73 21 [some (.ref X.1), some (.int x1), some (.int x2), o3] [] W Q) (k_2 : (¬ (xk0 = 0)) → rA ext X d 73 13 [some (.ref X.1), some (.int x1), some (.int x2), o3] [] W Q) : rA ext X d 73 10 [some (.ref X.1), some (.int x1), some (.int x2), o3] [.int xk0] W Q := by
  intro S hS
  exact aw_if j73_10 (fun h => k_1 (of_decide_eq_true h) _ hS) (fun h => k_2 (of_decide_eq_false h) _ hS)
theorem br73_13 {x1 : Int32} {x2 : Int32} {o3 : Option Value} {P_1 : Int32 → rW → Prop} (m_4 : rCi ext X d 71 [.ref X.1, .int x2] W P_1) (k_5 : ∀ v_3 W_2, P_1 v_3 W_2 → rA ext X (d + 1) 73 18 [some (.ref X.1), some (.int x1), some (.int x2), o3] [.int v_3] W_2 Q) : rA ext X (d + 1) 73 13 [some (.ref X.1), some (.int x1), some (.int x2), o3] [] W Q := by
  intro S hS
  refine aw_ald j73_13 rfl rfl ?_
  refine aw_ild j73_14 rfl ?_
  refine aw_calli (as := [.ref X.1, .int x2]) j73_15 rfl rfl (Nat.le_of_ble_eq_true rfl) cy71.1 cy71.2 (cs_cons rfl (cs_cons rfl cs_nil)) (decide_eq_true hS.to) (m_4 _ hS) (fun v1 S1 h1 => ?_)
  obtain ⟨W1, h1, h2⟩ := h1
  exact k_5 v1 W1 h2 S1 h1
theorem br73_18 {x1 : Int32} {x2 : Int32} {o3 : Option Value} {xk0 : Int32}  (k_1 : (¬ xk0 = 0) → rA ext X d 73 23 [some (.ref X.1), some (.int x1), some (.int x2), o3] [] W Q) (k_2 : (xk0 = 0) → rA ext X d 73 21 [some (.ref X.1), some (.int x1), some (.int x2), o3] [] W Q) : rA ext X d 73 18 [some (.ref X.1), some (.int x1), some (.int x2), o3] [.int xk0] W Q := by
  intro S hS
  exact aw_if j73_18 (fun h => k_1 (of_decide_eq_true h) _ hS) (fun h => k_2 (Decidable.of_not_not (of_decide_eq_false h)) _ hS)
theorem br73_21 {x1 : Int32} {x2 : Int32} {o3 : Option Value}  (k_1 : Q (some (.int (-1 : Int32))) W) : rA ext X d 73 21 [some (.ref X.1), some (.int x1), some (.int x2), o3] [] W Q := by
  intro S hS
  refine aw_con j73_21 ?_
  exact aw_ret j73_22 (by rw [rt73]; exact rfl) ⟨_, hS, k_1⟩
theorem br73_23 {x1 : Int32} {x2 : Int32} {o3 : Option Value} {i_1 : Nat} (e_2 : x1 = nI i_1) (c_3 : i_1 < 120) (k_4 : (¬ (W.1 11 i_1) = 0) → rA ext X d 73 68 [some (.ref X.1), some (.int x1), some (.int x2), o3] [] W Q) (k_5 : ((W.1 11 i_1) = 0) → rA ext X d 73 32 [some (.ref X.1), some (.int x1), some (.int x2), o3] [] W Q) : rA ext X d 73 23 [some (.ref X.1), some (.int x1), some (.int x2), o3] [] W Q := by
  intro S hS
  refine aw_ald j73_23 rfl rfl ?_
  refine aw_get j73_24 hS.to (hS.fa 11 rfl) ?_
  refine aw_ild j73_27 rfl ?_
  refine aw_xld (n := 120) j73_28 (hS.ta 11 rfl) e_2 c_3 (by decide) (hS.g 11 i_1 rfl c_3) ?_
  exact aw_if j73_29 (fun h => k_4 (of_decide_eq_true h) _ hS) (fun h => k_5 (Decidable.of_not_not (of_decide_eq_false h)) _ hS)
theorem br73_32 {x1 : Int32} {x2 : Int32} {o3 : Option Value} {P_1 : Int32 → rW → Prop} (m_4 : rCi ext X d 74 [.ref X.1, .int x1] W P_1) (k_5 : ∀ v_3 W_2, P_1 v_3 W_2 → rA ext X (d + 1) 73 37 [some (.ref X.1), some (.int x1), some (.int x2), o3] [.int v_3] W_2 Q) : rA ext X (d + 1) 73 32 [some (.ref X.1), some (.int x1), some (.int x2), o3] [] W Q := by
  intro S hS
  refine aw_ald j73_32 rfl rfl ?_
  refine aw_ild j73_33 rfl ?_
  refine aw_calli (as := [.ref X.1, .int x1]) j73_34 rfl rfl (Nat.le_of_ble_eq_true rfl) cy74.1 cy74.2 (cs_cons rfl (cs_cons rfl cs_nil)) (decide_eq_true hS.to) (m_4 _ hS) (fun v1 S1 h1 => ?_)
  obtain ⟨W1, h1, h2⟩ := h1
  exact k_5 v1 W1 h2 S1 h1
theorem br73_37 {x1 : Int32} {x2 : Int32} {o3 : Option Value} {xk0 : Int32}  (k_1 : (¬ xk0 = 0) → rA ext X d 73 68 [some (.ref X.1), some (.int x1), some (.int x2), o3] [] W Q) (k_2 : (xk0 = 0) → rA ext X d 73 40 [some (.ref X.1), some (.int x1), some (.int x2), o3] [] W Q) : rA ext X d 73 37 [some (.ref X.1), some (.int x1), some (.int x2), o3] [.int xk0] W Q := by
  intro S hS
  exact aw_if j73_37 (fun h => k_1 (of_decide_eq_true h) _ hS) (fun h => k_2 (Decidable.of_not_not (of_decide_eq_false h)) _ hS)
theorem br73_40 {x1 : Int32} {x2 : Int32} {o3 : Option Value} {i_1 : Nat} (e_2 : x1 = nI i_1) (c_3 : i_1 < 120) (k_4 : (0 ≤ (W.1 10 i_1)) → rA ext X d 73 68 [some (.ref X.1), some (.int x1), some (.int x2), o3] [] W Q) (k_5 : (¬ (0 ≤ (W.1 10 i_1))) → rA ext X d 73 49 [some (.ref X.1), some (.int x1), some (.int x2), o3] [] W Q) : rA ext X d 73 40 [some (.ref X.1), some (.int x1), some (.int x2), o3] [] W Q := by
  intro S hS
  refine aw_ald j73_40 rfl rfl ?_
  refine aw_get j73_41 hS.to (hS.fa 10 rfl) ?_
  refine aw_ild j73_44 rfl ?_
  refine aw_xld (n := 120) j73_45 (hS.ta 10 rfl) e_2 c_3 (by decide) (hS.g 10 i_1 rfl c_3) ?_
  exact aw_if j73_46 (fun h => k_4 (of_decide_eq_true h) _ hS) (fun h => k_5 (of_decide_eq_false h) _ hS)
theorem br73_49 {x1 : Int32} {x2 : Int32} {o3 : Option Value} {i_1 : Nat} {i_4 : Nat} (e_2 : x1 = nI i_1) (c_3 : i_1 < 120) (e_5 : x2 = nI i_4) (c_6 : i_4 < 120) (k_7 : (¬ (W.1 6 i_1) = (W.1 6 i_4)) → rA ext X d 73 68 [some (.ref X.1), some (.int x1), some (.int x2), o3] [] W Q) (k_8 : ((W.1 6 i_1) = (W.1 6 i_4)) → rA ext X d 73 64 [some (.ref X.1), some (.int x1), some (.int x2), o3] [] W Q) : rA ext X d 73 49 [some (.ref X.1), some (.int x1), some (.int x2), o3] [] W Q := by
  intro S hS
  refine aw_ald j73_49 rfl rfl ?_
  refine aw_get j73_50 hS.to (hS.fa 6 rfl) ?_
  refine aw_ild j73_53 rfl ?_
  refine aw_xld (n := 120) j73_54 (hS.ta 6 rfl) e_2 c_3 (by decide) (hS.g 6 i_1 rfl c_3) ?_
  refine aw_ald j73_55 rfl rfl ?_
  refine aw_get j73_56 hS.to (hS.fa 6 rfl) ?_
  refine aw_ild j73_59 rfl ?_
  refine aw_xld (n := 120) j73_60 (hS.ta 6 rfl) e_5 c_6 (by decide) (hS.g 6 i_4 rfl c_6) ?_
  exact aw_ic j73_61 (fun h => k_7 (of_decide_eq_true h) _ hS) (fun h => k_8 (Decidable.of_not_not (of_decide_eq_false h)) _ hS)
theorem br73_64 {x1 : Int32} {x2 : Int32} {o3 : Option Value}  (k_1 : rA ext X d 73 69 [some (.ref X.1), some (.int x1), some (.int x2), o3] [.int (1 : Int32)] W Q) : rA ext X d 73 64 [some (.ref X.1), some (.int x1), some (.int x2), o3] [] W Q := by
  intro S hS
  refine aw_con j73_64 ?_
  exact aw_goto j73_65 (k_1 _ hS)
theorem br73_68 {x1 : Int32} {x2 : Int32} {o3 : Option Value}  (k_1 : rA ext X d 73 69 [some (.ref X.1), some (.int x1), some (.int x2), o3] [.int (0 : Int32)] W Q) : rA ext X d 73 68 [some (.ref X.1), some (.int x1), some (.int x2), o3] [] W Q := by
  intro S hS
  refine aw_con j73_68 ?_
  exact k_1 _ hS
theorem br73_69 {x1 : Int32} {x2 : Int32} {o3 : Option Value} {xk0 : Int32}  (k_1 : (xk0 = 0) → rA ext X d 73 83 [some (.ref X.1), some (.int x1), some (.int x2), some (.int xk0)] [] W Q) (k_2 : (¬ (xk0 = 0)) → rA ext X d 73 74 [some (.ref X.1), some (.int x1), some (.int x2), some (.int xk0)] [] W Q) : rA ext X d 73 69 [some (.ref X.1), some (.int x1), some (.int x2), o3] [.int xk0] W Q := by
  intro S hS
  refine aw_ist j73_69 (Nat.le_of_ble_eq_true rfl) ?_
  refine aw_ild j73_70 rfl ?_
  exact aw_if j73_71 (fun h => k_1 (of_decide_eq_true h) _ hS) (fun h => k_2 (of_decide_eq_false h) _ hS)
theorem br73_74 {x1 : Int32} {x2 : Int32} {x3 : Int32} {P_1 : Int32 → rW → Prop} (m_4 : rCi ext X d 75 [.ref X.1, .int x1, .int x2] W P_1) (k_5 : ∀ v_3 W_2, P_1 v_3 W_2 → rA ext X (d + 1) 73 80 [some (.ref X.1), some (.int x1), some (.int x2), some (.int x3)] [.int v_3] W_2 Q) : rA ext X (d + 1) 73 74 [some (.ref X.1), some (.int x1), some (.int x2), some (.int x3)] [] W Q := by
  intro S hS
  refine aw_ald j73_74 rfl rfl ?_
  refine aw_ild j73_75 rfl ?_
  refine aw_ild j73_76 rfl ?_
  refine aw_calli (as := [.ref X.1, .int x1, .int x2]) j73_77 rfl rfl (Nat.le_of_ble_eq_true rfl) cy75.1 cy75.2 (cs_cons rfl (cs_cons rfl (cs_cons rfl cs_nil))) (decide_eq_true hS.to) (m_4 _ hS) (fun v1 S1 h1 => ?_)
  obtain ⟨W1, h1, h2⟩ := h1
  exact k_5 v1 W1 h2 S1 h1
theorem br73_80 {x1 : Int32} {x2 : Int32} {x3 : Int32} {xk0 : Int32}  (k_1 : (xk0 = 0) → rA ext X d 73 86 [some (.ref X.1), some (.int x1), some (.int x2), some (.int x3)] [] W Q) (k_2 : (¬ (xk0 = 0)) → rA ext X d 73 83 [some (.ref X.1), some (.int x1), some (.int x2), some (.int x3)] [] W Q) : rA ext X d 73 80 [some (.ref X.1), some (.int x1), some (.int x2), some (.int x3)] [.int xk0] W Q := by
  intro S hS
  exact aw_if j73_80 (fun h => k_1 (of_decide_eq_true h) _ hS) (fun h => k_2 (of_decide_eq_false h) _ hS)
theorem br73_83 {x1 : Int32} {x2 : Int32} {x3 : Int32}  (k_1 : Q (some (.int (-3 : Int32))) W) : rA ext X d 73 83 [some (.ref X.1), some (.int x1), some (.int x2), some (.int x3)] [] W Q := by
  intro S hS
  refine aw_con j73_83 ?_
  exact aw_ret j73_85 (by rw [rt73]; exact rfl) ⟨_, hS, k_1⟩
theorem br73_86 {x1 : Int32} {x2 : Int32} {x3 : Int32} {i_1 : Nat} (e_2 : x1 = nI i_1) (c_3 : i_1 < 120) (k_4 : Q (some (.int (1 : Int32))) (gset W 10 i_1 x2)) : rA ext X d 73 86 [some (.ref X.1), some (.int x1), some (.int x2), some (.int x3)] [] W Q := by
  intro S hS
  refine aw_ald j73_86 rfl rfl ?_
  refine aw_get j73_87 hS.to (hS.fa 10 rfl) ?_
  refine aw_ild j73_90 rfl ?_
  refine aw_ild j73_91 rfl ?_
  refine aw_xst (n := 120) j73_92 (hS.ta 10 rfl) e_2 c_3 (by decide) ?_
  have hS := hS.seta 10 i_1 x2 rfl
  refine aw_con j73_93 ?_
  exact aw_ret j73_94 (by rw [rt73]; exact rfl) ⟨_, hS, k_4⟩
/-! Ref_children -/
theorem br74_0 {x1 : Int32} {o2 : Option Value} {o3 : Option Value}  (k_1 : rA ext X d 74 4 [some (.ref X.1), some (.int x1), some (.int (0 : Int32)), some (.int (0 : Int32))] [] W Q) : rA ext X d 74 0 [some (.ref X.1), some (.int x1), o2, o3] [] W Q := by
  intro S hS
  refine aw_con j74_0 ?_
  refine aw_ist j74_1 (Nat.le_of_ble_eq_true rfl) ?_
  refine aw_con j74_2 ?_
  refine aw_ist j74_3 (Nat.le_of_ble_eq_true rfl) ?_
  exact k_1 _ hS
theorem br74_4 {x1 : Int32} {x2 : Int32} {x3 : Int32}  (k_1 : ((W.2 5) ≤ x3) → rA ext X d 74 36 [some (.ref X.1), some (.int x1), some (.int x2), some (.int x3)] [] W Q) (k_2 : (¬ ((W.2 5) ≤ x3)) → rA ext X d 74 12 [some (.ref X.1), some (.int x1), some (.int x2), some (.int x3)] [] W Q) : rA ext X d 74 4 [some (.ref X.1), some (.int x1), some (.int x2), some (.int x3)] [] W Q := by
  intro S hS
  refine aw_ild j74_4 rfl ?_
  refine aw_ald j74_5 rfl rfl ?_
  refine aw_get j74_6 hS.to (hS.n 5 rfl) ?_
  exact aw_ic j74_9 (fun h => k_1 (of_decide_eq_true h) _ hS) (fun h => k_2 (of_decide_eq_false h) _ hS)
theorem br74_12 {x1 : Int32} {x2 : Int32} {x3 : Int32} {i_1 : Nat} (e_2 : x3 = nI i_1) (c_3 : i_1 < 120) (k_4 : (¬ (W.1 7 i_1) = x1) → rA ext X d 74 27 [some (.ref X.1), some (.int x1), some (.int x2), some (.int x3)] [.int x2] W Q) (k_5 : ((W.1 7 i_1) = x1) → rA ext X d 74 23 [some (.ref X.1), some (.int x1), some (.int x2), some (.int x3)] [.int x2] W Q) : rA ext X d 74 12 [some (.ref X.1), some (.int x1), some (.int x2), some (.int x3)] [] W Q := by
  intro S hS
  refine aw_ild j74_12 rfl ?_
  refine aw_ald j74_13 rfl rfl ?_
  refine aw_get j74_14 hS.to (hS.fa 7 rfl) ?_
  refine aw_ild j74_17 rfl ?_
  refine aw_xld (n := 120) j74_18 (hS.ta 7 rfl) e_2 c_3 (by decide) (hS.g 7 i_1 rfl c_3) ?_
  refine aw_ild j74_19 rfl ?_
  exact aw_ic j74_20 (fun h => k_4 (of_decide_eq_true h) _ hS) (fun h => k_5 (Decidable.of_not_not (of_decide_eq_false h)) _ hS)
theorem br74_23 {x1 : Int32} {x2 : Int32} {x3 : Int32} {xk0 : Int32}  (k_1 : rA ext X d 74 28 [some (.ref X.1), some (.int x1), some (.int x2), some (.int x3)] [.int (1 : Int32), .int xk0] W Q) : rA ext X d 74 23 [some (.ref X.1), some (.int x1), some (.int x2), some (.int x3)] [.int xk0] W Q := by
  intro S hS
  refine aw_con j74_23 ?_
  exact aw_goto j74_24 (k_1 _ hS)
theorem br74_27 {x1 : Int32} {x2 : Int32} {x3 : Int32} {xk0 : Int32}  (k_1 : rA ext X d 74 28 [some (.ref X.1), some (.int x1), some (.int x2), some (.int x3)] [.int (0 : Int32), .int xk0] W Q) : rA ext X d 74 27 [some (.ref X.1), some (.int x1), some (.int x2), some (.int x3)] [.int xk0] W Q := by
  intro S hS
  refine aw_con j74_27 ?_
  exact k_1 _ hS
theorem br74_28 {x1 : Int32} {x2 : Int32} {x3 : Int32} {xk0 : Int32} {xk1 : Int32}  (k_1 : rA ext X d 74 4 [some (.ref X.1), some (.int x1), some (.int (xk0 + xk1)), some (.int (x3 + 1))] [] W Q) : rA ext X d 74 28 [some (.ref X.1), some (.int x1), some (.int x2), some (.int x3)] [.int xk1, .int xk0] W Q := by
  intro S hS
  refine aw_bin (z := (xk0 + xk1)) j74_28 rfl ?_
  refine aw_ist j74_29 (Nat.le_of_ble_eq_true rfl) ?_
  refine aw_inc j74_30 rfl ?_
  exact aw_goto j74_33 (k_1 _ hS)
theorem br74_36 {x1 : Int32} {x2 : Int32} {x3 : Int32}  (k_1 : Q (some (.int x2)) W) : rA ext X d 74 36 [some (.ref X.1), some (.int x1), some (.int x2), some (.int x3)] [] W Q := by
  intro S hS
  refine aw_ild j74_36 rfl ?_
  exact aw_ret j74_37 (by rw [rt74]; exact rfl) ⟨_, hS, k_1⟩
/-! Ref_comesBack -/
theorem br75_0 {x1 : Int32} {x2 : Int32} {o3 : Option Value} {o4 : Option Value} {P_1 : rW → Prop} (m_4 : rCv ext X d 76 [.ref X.1, .int x2] W P_1) (k_5 : ∀ W_2, P_1 W_2 → rA ext X (d + 1) 75 5 [some (.ref X.1), some (.int x1), some (.int x2), o3, o4] [] W_2 Q) : rA ext X (d + 1) 75 0 [some (.ref X.1), some (.int x1), some (.int x2), o3, o4] [] W Q := by
  intro S hS
  refine aw_ald j75_0 rfl rfl ?_
  refine aw_ild j75_1 rfl ?_
  refine aw_callv (as := [.ref X.1, .int x2]) j75_2 rfl rfl (Nat.le_of_ble_eq_true rfl) cy76.1 cy76.2 (cs_cons rfl (cs_cons rfl cs_nil)) (decide_eq_true hS.to) (m_4 _ hS) (fun S1 h1 => ?_)
  obtain ⟨W1, h1, h2⟩ := h1
  exact k_5 W1 h2 S1 h1
theorem br75_5 {x1 : Int32} {x2 : Int32} {o3 : Option Value} {o4 : Option Value}  (k_1 : rA ext X d 75 10 [some (.ref X.1), some (.int x1), some (.int x2), some (.int (0 : Int32)), some (.int x1)] [] W Q) : rA ext X d 75 5 [some (.ref X.1), some (.int x1), some (.int x2), o3, o4] [] W Q := by
  intro S hS
  refine aw_con j75_5 ?_
  refine aw_ist j75_6 (Nat.le_of_ble_eq_true rfl) ?_
  refine aw_ild j75_7 rfl ?_
  refine aw_ist j75_8 (Nat.le_of_ble_eq_true rfl) ?_
  exact k_1 _ hS
theorem br75_10 {x1 : Int32} {x2 : Int32} {x3 : Int32} {x4 : Int32}  (k_1 : (x4 < 0) → rA ext X d 75 47 [some (.ref X.1), some (.int x1), some (.int x2), some (.int x3), some (.int x4)] [] W Q) (k_2 : (¬ (x4 < 0)) → rA ext X d 75 15 [some (.ref X.1), some (.int x1), some (.int x2), some (.int x3), some (.int x4)] [] W Q) : rA ext X d 75 10 [some (.ref X.1), some (.int x1), some (.int x2), some (.int x3), some (.int x4)] [] W Q := by
  intro S hS
  refine aw_ild j75_10 rfl ?_
  exact aw_if j75_12 (fun h => k_1 (of_decide_eq_true h) _ hS) (fun h => k_2 (of_decide_eq_false h) _ hS)
theorem br75_15 {x1 : Int32} {x2 : Int32} {x3 : Int32} {x4 : Int32}  (k_1 : (¬ x3 = 0) → rA ext X d 75 29 [some (.ref X.1), some (.int x1), some (.int x2), some (.int x3), some (.int x4)] [] W Q) (k_2 : (x3 = 0) → rA ext X d 75 19 [some (.ref X.1), some (.int x1), some (.int x2), some (.int x3), some (.int x4)] [] W Q) : rA ext X d 75 15 [some (.ref X.1), some (.int x1), some (.int x2), some (.int x3), some (.int x4)] [] W Q := by
  intro S hS
  refine aw_ild j75_15 rfl ?_
  exact aw_if j75_16 (fun h => k_1 (of_decide_eq_true h) _ hS) (fun h => k_2 (Decidable.of_not_not (of_decide_eq_false h)) _ hS)
theorem br75_19 {x1 : Int32} {x2 : Int32} {x3 : Int32} {x4 : Int32} {i_1 : Nat} (e_2 : x4 = nI i_1) (c_3 : i_1 < 120) (k_4 : ((W.1 18 i_1) = 0) → rA ext X d 75 33 [some (.ref X.1), some (.int x1), some (.int x2), some (.int x3), some (.int x4)] [] W Q) (k_5 : (¬ ((W.1 18 i_1) = 0)) → rA ext X d 75 29 [some (.ref X.1), some (.int x1), some (.int x2), some (.int x3), some (.int x4)] [] W Q) : rA ext X d 75 19 [some (.ref X.1), some (.int x1), some (.int x2), some (.int x3), some (.int x4)] [] W Q := by
  intro S hS
  refine aw_ald j75_19 rfl rfl ?_
  refine aw_get j75_20 hS.to (hS.fa 18 rfl) ?_
  refine aw_ild j75_23 rfl ?_
  refine aw_xld (n := 120) j75_25 (hS.ta 18 rfl) e_2 c_3 (by decide) (hS.g 18 i_1 rfl c_3) ?_
  exact aw_if j75_26 (fun h => k_4 (of_decide_eq_true h) _ hS) (fun h => k_5 (of_decide_eq_false h) _ hS)
theorem br75_29 {x1 : Int32} {x2 : Int32} {x3 : Int32} {x4 : Int32}  (k_1 : rA ext X d 75 34 [some (.ref X.1), some (.int x1), some (.int x2), some (.int x3), some (.int x4)] [.int (1 : Int32)] W Q) : rA ext X d 75 29 [some (.ref X.1), some (.int x1), some (.int x2), some (.int x3), some (.int x4)] [] W Q := by
  intro S hS
  refine aw_con j75_29 ?_
  exact aw_goto j75_30 (k_1 _ hS)
theorem br75_33 {x1 : Int32} {x2 : Int32} {x3 : Int32} {x4 : Int32}  (k_1 : rA ext X d 75 34 [some (.ref X.1), some (.int x1), some (.int x2), some (.int x3), some (.int x4)] [.int (0 : Int32)] W Q) : rA ext X d 75 33 [some (.ref X.1), some (.int x1), some (.int x2), some (.int x3), some (.int x4)] [] W Q := by
  intro S hS
  refine aw_con j75_33 ?_
  exact k_1 _ hS
theorem br75_34 {x1 : Int32} {x2 : Int32} {x3 : Int32} {x4 : Int32} {xk0 : Int32} {i_1 : Nat} (e_2 : x4 = nI i_1) (c_3 : i_1 < 120) (k_4 : rA ext X d 75 10 [some (.ref X.1), some (.int x1), some (.int x2), some (.int xk0), some (.int (W.1 7 i_1))] [] W Q) : rA ext X d 75 34 [some (.ref X.1), some (.int x1), some (.int x2), some (.int x3), some (.int x4)] [.int xk0] W Q := by
  intro S hS
  refine aw_ist j75_34 (Nat.le_of_ble_eq_true rfl) ?_
  refine aw_ald j75_35 rfl rfl ?_
  refine aw_get j75_36 hS.to (hS.fa 7 rfl) ?_
  refine aw_ild j75_39 rfl ?_
  refine aw_xld (n := 120) j75_41 (hS.ta 7 rfl) e_2 c_3 (by decide) (hS.g 7 i_1 rfl c_3) ?_
  refine aw_ist j75_42 (Nat.le_of_ble_eq_true rfl) ?_
  exact aw_goto j75_44 (k_4 _ hS)
theorem br75_47 {x1 : Int32} {x2 : Int32} {x3 : Int32} {x4 : Int32} (o_2 : x3 = 0 ∨ x3 = 1) (k_1 : Q (some (.int x3)) W) : rA ext X d 75 47 [some (.ref X.1), some (.int x1), some (.int x2), some (.int x3), some (.int x4)] [] W Q := by
  intro S hS
  refine aw_ild j75_47 rfl ?_
  exact aw_ret j75_48 (by rw [rt75]; exact (decide_eq_true o_2)) ⟨_, hS, k_1⟩
/-! Ref_reach -/
theorem br76_0 {x1 : Int32} {o2 : Option Value} {o3 : Option Value} {o4 : Option Value} {o5 : Option Value}  (k_1 : rA ext X d 76 2 [some (.ref X.1), some (.int x1), some (.int (0 : Int32)), o3, o4, o5] [] W Q) : rA ext X d 76 0 [some (.ref X.1), some (.int x1), o2, o3, o4, o5] [] W Q := by
  intro S hS
  refine aw_con j76_0 ?_
  refine aw_ist j76_1 (Nat.le_of_ble_eq_true rfl) ?_
  exact k_1 _ hS
theorem br76_2 {x1 : Int32} {x2 : Int32} {o3 : Option Value} {o4 : Option Value} {o5 : Option Value}  (k_1 : ((W.2 5) ≤ x2) → rA ext X d 76 32 [some (.ref X.1), some (.int x1), some (.int x2), o3, o4, o5] [] W Q) (k_2 : (¬ ((W.2 5) ≤ x2)) → rA ext X d 76 10 [some (.ref X.1), some (.int x1), some (.int x2), o3, o4, o5] [] W Q) : rA ext X d 76 2 [some (.ref X.1), some (.int x1), some (.int x2), o3, o4, o5] [] W Q := by
  intro S hS
  refine aw_ild j76_2 rfl ?_
  refine aw_ald j76_3 rfl rfl ?_
  refine aw_get j76_4 hS.to (hS.n 5 rfl) ?_
  exact aw_ic j76_7 (fun h => k_1 (of_decide_eq_true h) _ hS) (fun h => k_2 (of_decide_eq_false h) _ hS)
theorem br76_10 {x1 : Int32} {x2 : Int32} {o3 : Option Value} {o4 : Option Value} {o5 : Option Value}  (k_1 : (¬ x2 = x1) → rA ext X d 76 24 [some (.ref X.1), some (.int x1), some (.int x2), o3, o4, o5] [.int x2, .ref (X.2.1 18)] W Q) (k_2 : (x2 = x1) → rA ext X d 76 20 [some (.ref X.1), some (.int x1), some (.int x2), o3, o4, o5] [.int x2, .ref (X.2.1 18)] W Q) : rA ext X d 76 10 [some (.ref X.1), some (.int x1), some (.int x2), o3, o4, o5] [] W Q := by
  intro S hS
  refine aw_ald j76_10 rfl rfl ?_
  refine aw_get j76_11 hS.to (hS.fa 18 rfl) ?_
  refine aw_ild j76_14 rfl ?_
  refine aw_ild j76_15 rfl ?_
  refine aw_ild j76_16 rfl ?_
  exact aw_ic j76_17 (fun h => k_1 (of_decide_eq_true h) _ hS) (fun h => k_2 (Decidable.of_not_not (of_decide_eq_false h)) _ hS)
theorem br76_20 {x1 : Int32} {x2 : Int32} {o3 : Option Value} {o4 : Option Value} {o5 : Option Value} {xk1 : Int32}  (k_1 : rA ext X d 76 25 [some (.ref X.1), some (.int x1), some (.int x2), o3, o4, o5] [.int (1 : Int32), .int xk1, .ref (X.2.1 18)] W Q) : rA ext X d 76 20 [some (.ref X.1), some (.int x1), some (.int x2), o3, o4, o5] [.int xk1, .ref (X.2.1 18)] W Q := by
  intro S hS
  refine aw_con j76_20 ?_
  exact aw_goto j76_21 (k_1 _ hS)
theorem br76_24 {x1 : Int32} {x2 : Int32} {o3 : Option Value} {o4 : Option Value} {o5 : Option Value} {xk1 : Int32}  (k_1 : rA ext X d 76 25 [some (.ref X.1), some (.int x1), some (.int x2), o3, o4, o5] [.int (0 : Int32), .int xk1, .ref (X.2.1 18)] W Q) : rA ext X d 76 24 [some (.ref X.1), some (.int x1), some (.int x2), o3, o4, o5] [.int xk1, .ref (X.2.1 18)] W Q := by
  intro S hS
  refine aw_con j76_24 ?_
  exact k_1 _ hS
theorem br76_25 {x1 : Int32} {x2 : Int32} {o3 : Option Value} {o4 : Option Value} {o5 : Option Value} {xk1 : Int32} {xk2 : Int32} {i_1 : Nat} (e_2 : xk1 = nI i_1) (c_3 : i_1 < 120) (k_4 : rA ext X d 76 2 [some (.ref X.1), some (.int x1), some (.int (x2 + 1)), o3, o4, o5] [] (gset W 18 i_1 (xk2 &&& 1)) Q) : rA ext X d 76 25 [some (.ref X.1), some (.int x1), some (.int x2), o3, o4, o5] [.int xk2, .int xk1, .ref (X.2.1 18)] W Q := by
  intro S hS
  refine aw_xst (n := 120) j76_25 (hS.ta 18 rfl) e_2 c_3 (by decide) ?_
  have hS := hS.seta 18 i_1 (xk2 &&& 1) rfl
  refine aw_inc j76_26 rfl ?_
  exact aw_goto j76_29 (k_4 _ hS)
theorem br76_32 {x1 : Int32} {x2 : Int32} {o3 : Option Value} {o4 : Option Value} {o5 : Option Value}  (k_1 : rA ext X d 76 34 [some (.ref X.1), some (.int x1), some (.int (1 : Int32)), o3, o4, o5] [] W Q) : rA ext X d 76 32 [some (.ref X.1), some (.int x1), some (.int x2), o3, o4, o5] [] W Q := by
  intro S hS
  refine aw_con j76_32 ?_
  refine aw_ist j76_33 (Nat.le_of_ble_eq_true rfl) ?_
  exact k_1 _ hS
theorem br76_34 {x1 : Int32} {x2 : Int32} {o3 : Option Value} {o4 : Option Value} {o5 : Option Value}  (k_1 : (x2 = 0) → rA ext X d 76 189 [some (.ref X.1), some (.int x1), some (.int x2), o3, o4, o5] [] W Q) (k_2 : (¬ (x2 = 0)) → rA ext X d 76 38 [some (.ref X.1), some (.int x1), some (.int x2), o3, o4, o5] [] W Q) : rA ext X d 76 34 [some (.ref X.1), some (.int x1), some (.int x2), o3, o4, o5] [] W Q := by
  intro S hS
  refine aw_ild j76_34 rfl ?_
  exact aw_if j76_35 (fun h => k_1 (of_decide_eq_true h) _ hS) (fun h => k_2 (of_decide_eq_false h) _ hS)
theorem br76_38 {x1 : Int32} {x2 : Int32} {o3 : Option Value} {o4 : Option Value} {o5 : Option Value}  (k_1 : rA ext X d 76 42 [some (.ref X.1), some (.int x1), some (.int (0 : Int32)), some (.int (0 : Int32)), o4, o5] [] W Q) : rA ext X d 76 38 [some (.ref X.1), some (.int x1), some (.int x2), o3, o4, o5] [] W Q := by
  intro S hS
  refine aw_con j76_38 ?_
  refine aw_ist j76_39 (Nat.le_of_ble_eq_true rfl) ?_
  refine aw_con j76_40 ?_
  refine aw_ist j76_41 (Nat.le_of_ble_eq_true rfl) ?_
  exact k_1 _ hS
theorem br76_42 {x1 : Int32} {x2 : Int32} {x3 : Int32} {o4 : Option Value} {o5 : Option Value}  (k_1 : ((W.2 5) ≤ x3) → rA ext X d 76 186 [some (.ref X.1), some (.int x1), some (.int x2), some (.int x3), o4, o5] [] W Q) (k_2 : (¬ ((W.2 5) ≤ x3)) → rA ext X d 76 50 [some (.ref X.1), some (.int x1), some (.int x2), some (.int x3), o4, o5] [] W Q) : rA ext X d 76 42 [some (.ref X.1), some (.int x1), some (.int x2), some (.int x3), o4, o5] [] W Q := by
  intro S hS
  refine aw_ild j76_42 rfl ?_
  refine aw_ald j76_43 rfl rfl ?_
  refine aw_get j76_44 hS.to (hS.n 5 rfl) ?_
  exact aw_ic j76_47 (fun h => k_1 (of_decide_eq_true h) _ hS) (fun h => k_2 (of_decide_eq_false h) _ hS)
theorem br76_50 {x1 : Int32} {x2 : Int32} {x3 : Int32} {o4 : Option Value} {o5 : Option Value} {i_1 : Nat} (e_2 : x3 = nI i_1) (c_3 : i_1 < 120) (k_4 : ((W.1 7 i_1) < 0) → rA ext X d 76 77 [some (.ref X.1), some (.int x1), some (.int x2), some (.int x3), o4, o5] [] W Q) (k_5 : (¬ ((W.1 7 i_1) < 0)) → rA ext X d 76 59 [some (.ref X.1), some (.int x1), some (.int x2), some (.int x3), o4, o5] [] W Q) : rA ext X d 76 50 [some (.ref X.1), some (.int x1), some (.int x2), some (.int x3), o4, o5] [] W Q := by
  intro S hS
  refine aw_ald j76_50 rfl rfl ?_
  refine aw_get j76_51 hS.to (hS.fa 7 rfl) ?_
  refine aw_ild j76_54 rfl ?_
  refine aw_xld (n := 120) j76_55 (hS.ta 7 rfl) e_2 c_3 (by decide) (hS.g 7 i_1 rfl c_3) ?_
  exact aw_if j76_56 (fun h => k_4 (of_decide_eq_true h) _ hS) (fun h => k_5 (of_decide_eq_false h) _ hS)
theorem br76_59 {x1 : Int32} {x2 : Int32} {x3 : Int32} {o4 : Option Value} {o5 : Option Value} {i_1 : Nat} {i_4 : Nat} (e_2 : x3 = nI i_1) (c_3 : i_1 < 120) (e_5 : (W.1 7 i_1) = nI i_4) (c_6 : i_4 < 120) (k_7 : ((W.1 18 i_4) = 0) → rA ext X d 76 77 [some (.ref X.1), some (.int x1), some (.int x2), some (.int x3), o4, o5] [] W Q) (k_8 : (¬ ((W.1 18 i_4) = 0)) → rA ext X d 76 73 [some (.ref X.1), some (.int x1), some (.int x2), some (.int x3), o4, o5] [] W Q) : rA ext X d 76 59 [some (.ref X.1), some (.int x1), some (.int x2), some (.int x3), o4, o5] [] W Q := by
  intro S hS
  refine aw_ald j76_59 rfl rfl ?_
  refine aw_get j76_60 hS.to (hS.fa 18 rfl) ?_
  refine aw_ald j76_63 rfl rfl ?_
  refine aw_get j76_64 hS.to (hS.fa 7 rfl) ?_
  refine aw_ild j76_67 rfl ?_
  refine aw_xld (n := 120) j76_68 (hS.ta 7 rfl) e_2 c_3 (by decide) (hS.g 7 i_1 rfl c_3) ?_
  refine aw_xld (n := 120) j76_69 (hS.ta 18 rfl) e_5 c_6 (by decide) (hS.g 18 i_4 rfl c_6) ?_
  exact aw_if j76_70 (fun h => k_7 (of_decide_eq_true h) _ hS) (fun h => k_8 (of_decide_eq_false h) _ hS)
theorem br76_73 {x1 : Int32} {x2 : Int32} {x3 : Int32} {o4 : Option Value} {o5 : Option Value}  (k_1 : rA ext X d 76 78 [some (.ref X.1), some (.int x1), some (.int x2), some (.int x3), o4, o5] [.int (1 : Int32)] W Q) : rA ext X d 76 73 [some (.ref X.1), some (.int x1), some (.int x2), some (.int x3), o4, o5] [] W Q := by
  intro S hS
  refine aw_con j76_73 ?_
  exact aw_goto j76_74 (k_1 _ hS)
theorem br76_77 {x1 : Int32} {x2 : Int32} {x3 : Int32} {o4 : Option Value} {o5 : Option Value}  (k_1 : rA ext X d 76 78 [some (.ref X.1), some (.int x1), some (.int x2), some (.int x3), o4, o5] [.int (0 : Int32)] W Q) : rA ext X d 76 77 [some (.ref X.1), some (.int x1), some (.int x2), some (.int x3), o4, o5] [] W Q := by
  intro S hS
  refine aw_con j76_77 ?_
  exact k_1 _ hS
theorem br76_78 {x1 : Int32} {x2 : Int32} {x3 : Int32} {o4 : Option Value} {o5 : Option Value} {xk0 : Int32}  (k_1 : rA ext X d 76 83 [some (.ref X.1), some (.int x1), some (.int x2), some (.int x3), some (.int xk0), some (.int (0 : Int32))] [] W Q) : rA ext X d 76 78 [some (.ref X.1), some (.int x1), some (.int x2), some (.int x3), o4, o5] [.int xk0] W Q := by
  intro S hS
  refine aw_ist j76_78 (Nat.le_of_ble_eq_true rfl) ?_
  refine aw_con j76_80 ?_
  refine aw_ist j76_81 (Nat.le_of_ble_eq_true rfl) ?_
  exact k_1 _ hS
theorem br76_83 {x1 : Int32} {x2 : Int32} {x3 : Int32} {x4 : Int32} {x5 : Int32}  (k_1 : ((W.2 5) ≤ x5) → rA ext X d 76 131 [some (.ref X.1), some (.int x1), some (.int x2), some (.int x3), some (.int x4), some (.int x5)] [] W Q) (k_2 : (¬ ((W.2 5) ≤ x5)) → rA ext X d 76 92 [some (.ref X.1), some (.int x1), some (.int x2), some (.int x3), some (.int x4), some (.int x5)] [] W Q) : rA ext X d 76 83 [some (.ref X.1), some (.int x1), some (.int x2), some (.int x3), some (.int x4), some (.int x5)] [] W Q := by
  intro S hS
  refine aw_ild j76_83 rfl ?_
  refine aw_ald j76_85 rfl rfl ?_
  refine aw_get j76_86 hS.to (hS.n 5 rfl) ?_
  exact aw_ic j76_89 (fun h => k_1 (of_decide_eq_true h) _ hS) (fun h => k_2 (of_decide_eq_false h) _ hS)
theorem br76_92 {x1 : Int32} {x2 : Int32} {x3 : Int32} {x4 : Int32} {x5 : Int32}  (k_1 : (¬ x4 = 0) → rA ext X d 76 131 [some (.ref X.1), some (.int x1), some (.int x2), some (.int x3), some (.int x4), some (.int x5)] [] W Q) (k_2 : (x4 = 0) → rA ext X d 76 97 [some (.ref X.1), some (.int x1), some (.int x2), some (.int x3), some (.int x4), some (.int x5)] [] W Q) : rA ext X d 76 92 [some (.ref X.1), some (.int x1), some (.int x2), some (.int x3), some (.int x4), some (.int x5)] [] W Q := by
  intro S hS
  refine aw_ild j76_92 rfl ?_
  exact aw_if j76_94 (fun h => k_1 (of_decide_eq_true h) _ hS) (fun h => k_2 (Decidable.of_not_not (of_decide_eq_false h)) _ hS)
theorem br76_97 {x1 : Int32} {x2 : Int32} {x3 : Int32} {x4 : Int32} {x5 : Int32} {i_1 : Nat} (e_2 : x5 = nI i_1) (c_3 : i_1 < 120) (k_4 : ((W.1 18 i_1) = 0) → rA ext X d 76 122 [some (.ref X.1), some (.int x1), some (.int x2), some (.int x3), some (.int x4), some (.int x5)] [] W Q) (k_5 : (¬ ((W.1 18 i_1) = 0)) → rA ext X d 76 107 [some (.ref X.1), some (.int x1), some (.int x2), some (.int x3), some (.int x4), some (.int x5)] [] W Q) : rA ext X d 76 97 [some (.ref X.1), some (.int x1), some (.int x2), some (.int x3), some (.int x4), some (.int x5)] [] W Q := by
  intro S hS
  refine aw_ald j76_97 rfl rfl ?_
  refine aw_get j76_98 hS.to (hS.fa 18 rfl) ?_
  refine aw_ild j76_101 rfl ?_
  refine aw_xld (n := 120) j76_103 (hS.ta 18 rfl) e_2 c_3 (by decide) (hS.g 18 i_1 rfl c_3) ?_
  exact aw_if j76_104 (fun h => k_4 (of_decide_eq_true h) _ hS) (fun h => k_5 (of_decide_eq_false h) _ hS)
theorem br76_107 {x1 : Int32} {x2 : Int32} {x3 : Int32} {x4 : Int32} {x5 : Int32} {i_1 : Nat} (e_2 : x5 = nI i_1) (c_3 : i_1 < 120) (k_4 : (¬ (W.1 10 i_1) = x3) → rA ext X d 76 122 [some (.ref X.1), some (.int x1), some (.int x2), some (.int x3), some (.int x4), some (.int x5)] [] W Q) (k_5 : ((W.1 10 i_1) = x3) → rA ext X d 76 118 [some (.ref X.1), some (.int x1), some (.int x2), some (.int x3), some (.int x4), some (.int x5)] [] W Q) : rA ext X d 76 107 [some (.ref X.1), some (.int x1), some (.int x2), some (.int x3), some (.int x4), some (.int x5)] [] W Q := by
  intro S hS
  refine aw_ald j76_107 rfl rfl ?_
  refine aw_get j76_108 hS.to (hS.fa 10 rfl) ?_
  refine aw_ild j76_111 rfl ?_
  refine aw_xld (n := 120) j76_113 (hS.ta 10 rfl) e_2 c_3 (by decide) (hS.g 10 i_1 rfl c_3) ?_
  refine aw_ild j76_114 rfl ?_
  exact aw_ic j76_115 (fun h => k_4 (of_decide_eq_true h) _ hS) (fun h => k_5 (Decidable.of_not_not (of_decide_eq_false h)) _ hS)
theorem br76_118 {x1 : Int32} {x2 : Int32} {x3 : Int32} {x4 : Int32} {x5 : Int32}  (k_1 : rA ext X d 76 123 [some (.ref X.1), some (.int x1), some (.int x2), some (.int x3), some (.int x4), some (.int x5)] [.int (1 : Int32)] W Q) : rA ext X d 76 118 [some (.ref X.1), some (.int x1), some (.int x2), some (.int x3), some (.int x4), some (.int x5)] [] W Q := by
  intro S hS
  refine aw_con j76_118 ?_
  exact aw_goto j76_119 (k_1 _ hS)
theorem br76_122 {x1 : Int32} {x2 : Int32} {x3 : Int32} {x4 : Int32} {x5 : Int32}  (k_1 : rA ext X d 76 123 [some (.ref X.1), some (.int x1), some (.int x2), some (.int x3), some (.int x4), some (.int x5)] [.int (0 : Int32)] W Q) : rA ext X d 76 122 [some (.ref X.1), some (.int x1), some (.int x2), some (.int x3), some (.int x4), some (.int x5)] [] W Q := by
  intro S hS
  refine aw_con j76_122 ?_
  exact k_1 _ hS
theorem br76_123 {x1 : Int32} {x2 : Int32} {x3 : Int32} {x4 : Int32} {x5 : Int32} {xk0 : Int32}  (k_1 : rA ext X d 76 83 [some (.ref X.1), some (.int x1), some (.int x2), some (.int x3), some (.int xk0), some (.int (x5 + 1))] [] W Q) : rA ext X d 76 123 [some (.ref X.1), some (.int x1), some (.int x2), some (.int x3), some (.int x4), some (.int x5)] [.int xk0] W Q := by
  intro S hS
  refine aw_ist j76_123 (Nat.le_of_ble_eq_true rfl) ?_
  refine aw_inc j76_125 rfl ?_
  exact aw_goto j76_128 (k_1 _ hS)
theorem br76_131 {x1 : Int32} {x2 : Int32} {x3 : Int32} {x4 : Int32} {x5 : Int32}  (k_1 : (¬ x2 = 0) → rA ext X d 76 149 [some (.ref X.1), some (.int x1), some (.int x2), some (.int x3), some (.int x4), some (.int x5)] [] W Q) (k_2 : (x2 = 0) → rA ext X d 76 135 [some (.ref X.1), some (.int x1), some (.int x2), some (.int x3), some (.int x4), some (.int x5)] [] W Q) : rA ext X d 76 131 [some (.ref X.1), some (.int x1), some (.int x2), some (.int x3), some (.int x4), some (.int x5)] [] W Q := by
  intro S hS
  refine aw_ild j76_131 rfl ?_
  exact aw_if j76_132 (fun h => k_1 (of_decide_eq_true h) _ hS) (fun h => k_2 (Decidable.of_not_not (of_decide_eq_false h)) _ hS)
theorem br76_135 {x1 : Int32} {x2 : Int32} {x3 : Int32} {x4 : Int32} {x5 : Int32}  (k_1 : (x4 = 0) → rA ext X d 76 153 [some (.ref X.1), some (.int x1), some (.int x2), some (.int x3), some (.int x4), some (.int x5)] [] W Q) (k_2 : (¬ (x4 = 0)) → rA ext X d 76 140 [some (.ref X.1), some (.int x1), some (.int x2), some (.int x3), some (.int x4), some (.int x5)] [] W Q) : rA ext X d 76 135 [some (.ref X.1), some (.int x1), some (.int x2), some (.int x3), some (.int x4), some (.int x5)] [] W Q := by
  intro S hS
  refine aw_ild j76_135 rfl ?_
  exact aw_if j76_137 (fun h => k_1 (of_decide_eq_true h) _ hS) (fun h => k_2 (of_decide_eq_false h) _ hS)
theorem br76_140 {x1 : Int32} {x2 : Int32} {x3 : Int32} {x4 : Int32} {x5 : Int32} {i_1 : Nat} (e_2 : x3 = nI i_1) (c_3 : i_1 < 120) (k_4 : (¬ (W.1 18 i_1) = 0) → rA ext X d 76 153 [some (.ref X.1), some (.int x1), some (.int x2), some (.int x3), some (.int x4), some (.int x5)] [] W Q) (k_5 : ((W.1 18 i_1) = 0) → rA ext X d 76 149 [some (.ref X.1), some (.int x1), some (.int x2), some (.int x3), some (.int x4), some (.int x5)] [] W Q) : rA ext X d 76 140 [some (.ref X.1), some (.int x1), some (.int x2), some (.int x3), some (.int x4), some (.int x5)] [] W Q := by
  intro S hS
  refine aw_ald j76_140 rfl rfl ?_
  refine aw_get j76_141 hS.to (hS.fa 18 rfl) ?_
  refine aw_ild j76_144 rfl ?_
  refine aw_xld (n := 120) j76_145 (hS.ta 18 rfl) e_2 c_3 (by decide) (hS.g 18 i_1 rfl c_3) ?_
  exact aw_if j76_146 (fun h => k_4 (of_decide_eq_true h) _ hS) (fun h => k_5 (Decidable.of_not_not (of_decide_eq_false h)) _ hS)
theorem br76_149 {x1 : Int32} {x2 : Int32} {x3 : Int32} {x4 : Int32} {x5 : Int32}  (k_1 : rA ext X d 76 154 [some (.ref X.1), some (.int x1), some (.int x2), some (.int x3), some (.int x4), some (.int x5)] [.int (1 : Int32)] W Q) : rA ext X d 76 149 [some (.ref X.1), some (.int x1), some (.int x2), some (.int x3), some (.int x4), some (.int x5)] [] W Q := by
  intro S hS
  refine aw_con j76_149 ?_
  exact aw_goto j76_150 (k_1 _ hS)
theorem br76_153 {x1 : Int32} {x2 : Int32} {x3 : Int32} {x4 : Int32} {x5 : Int32}  (k_1 : rA ext X d 76 154 [some (.ref X.1), some (.int x1), some (.int x2), some (.int x3), some (.int x4), some (.int x5)] [.int (0 : Int32)] W Q) : rA ext X d 76 153 [some (.ref X.1), some (.int x1), some (.int x2), some (.int x3), some (.int x4), some (.int x5)] [] W Q := by
  intro S hS
  refine aw_con j76_153 ?_
  exact k_1 _ hS
theorem br76_154 {x1 : Int32} {x2 : Int32} {x3 : Int32} {x4 : Int32} {x5 : Int32} {xk0 : Int32} {i_1 : Nat} (e_2 : x3 = nI i_1) (c_3 : i_1 < 120) (k_4 : (¬ (W.1 18 i_1) = 0) → rA ext X d 76 174 [some (.ref X.1), some (.int x1), some (.int xk0), some (.int x3), some (.int x4), some (.int x5)] [.int x3, .ref (X.2.1 18)] W Q) (k_5 : ((W.1 18 i_1) = 0) → rA ext X d 76 169 [some (.ref X.1), some (.int x1), some (.int xk0), some (.int x3), some (.int x4), some (.int x5)] [.int x3, .ref (X.2.1 18)] W Q) : rA ext X d 76 154 [some (.ref X.1), some (.int x1), some (.int x2), some (.int x3), some (.int x4), some (.int x5)] [.int xk0] W Q := by
  intro S hS
  refine aw_ist j76_154 (Nat.le_of_ble_eq_true rfl) ?_
  refine aw_ald j76_155 rfl rfl ?_
  refine aw_get j76_156 hS.to (hS.fa 18 rfl) ?_
  refine aw_ild j76_159 rfl ?_
  refine aw_ald j76_160 rfl rfl ?_
  refine aw_get j76_161 hS.to (hS.fa 18 rfl) ?_
  refine aw_ild j76_164 rfl ?_
  refine aw_xld (n := 120) j76_165 (hS.ta 18 rfl) e_2 c_3 (by decide) (hS.g 18 i_1 rfl c_3) ?_
  exact aw_if j76_166 (fun h => k_4 (of_decide_eq_true h) _ hS) (fun h => k_5 (Decidable.of_not_not (of_decide_eq_false h)) _ hS)
theorem br76_169 {x1 : Int32} {x2 : Int32} {x3 : Int32} {x4 : Int32} {x5 : Int32} {xk1 : Int32}  (k_1 : (x4 = 0) → rA ext X d 76 178 [some (.ref X.1), some (.int x1), some (.int x2), some (.int x3), some (.int x4), some (.int x5)] [.int xk1, .ref (X.2.1 18)] W Q) (k_2 : (¬ (x4 = 0)) → rA ext X d 76 174 [some (.ref X.1), some (.int x1), some (.int x2), some (.int x3), some (.int x4), some (.int x5)] [.int xk1, .ref (X.2.1 18)] W Q) : rA ext X d 76 169 [some (.ref X.1), some (.int x1), some (.int x2), some (.int x3), some (.int x4), some (.int x5)] [.int xk1, .ref (X.2.1 18)] W Q := by
  intro S hS
  refine aw_ild j76_169 rfl ?_
  exact aw_if j76_171 (fun h => k_1 (of_decide_eq_true h) _ hS) (fun h => k_2 (of_decide_eq_false h) _ hS)
theorem br76_174 {x1 : Int32} {x2 : Int32} {x3 : Int32} {x4 : Int32} {x5 : Int32} {xk1 : Int32}  (k_1 : rA ext X d 76 179 [some (.ref X.1), some (.int x1), some (.int x2), some (.int x3), some (.int x4), some (.int x5)] [.int (1 : Int32), .int xk1, .ref (X.2.1 18)] W Q) : rA ext X d 76 174 [some (.ref X.1), some (.int x1), some (.int x2), some (.int x3), some (.int x4), some (.int x5)] [.int xk1, .ref (X.2.1 18)] W Q := by
  intro S hS
  refine aw_con j76_174 ?_
  exact aw_goto j76_175 (k_1 _ hS)
theorem br76_178 {x1 : Int32} {x2 : Int32} {x3 : Int32} {x4 : Int32} {x5 : Int32} {xk1 : Int32}  (k_1 : rA ext X d 76 179 [some (.ref X.1), some (.int x1), some (.int x2), some (.int x3), some (.int x4), some (.int x5)] [.int (0 : Int32), .int xk1, .ref (X.2.1 18)] W Q) : rA ext X d 76 178 [some (.ref X.1), some (.int x1), some (.int x2), some (.int x3), some (.int x4), some (.int x5)] [.int xk1, .ref (X.2.1 18)] W Q := by
  intro S hS
  refine aw_con j76_178 ?_
  exact k_1 _ hS
theorem br76_179 {x1 : Int32} {x2 : Int32} {x3 : Int32} {x4 : Int32} {x5 : Int32} {xk1 : Int32} {xk2 : Int32} {i_1 : Nat} (e_2 : xk1 = nI i_1) (c_3 : i_1 < 120) (k_4 : rA ext X d 76 42 [some (.ref X.1), some (.int x1), some (.int x2), some (.int (x3 + 1)), some (.int x4), some (.int x5)] [] (gset W 18 i_1 (xk2 &&& 1)) Q) : rA ext X d 76 179 [some (.ref X.1), some (.int x1), some (.int x2), some (.int x3), some (.int x4), some (.int x5)] [.int xk2, .int xk1, .ref (X.2.1 18)] W Q := by
  intro S hS
  refine aw_xst (n := 120) j76_179 (hS.ta 18 rfl) e_2 c_3 (by decide) ?_
  have hS := hS.seta 18 i_1 (xk2 &&& 1) rfl
  refine aw_inc j76_180 rfl ?_
  exact aw_goto j76_183 (k_4 _ hS)
theorem br76_186 {x1 : Int32} {x2 : Int32} {x3 : Int32} {o4 : Option Value} {o5 : Option Value}  (k_1 : rA ext X d 76 34 [some (.ref X.1), some (.int x1), some (.int x2), some (.int x3), o4, o5] [] W Q) : rA ext X d 76 186 [some (.ref X.1), some (.int x1), some (.int x2), some (.int x3), o4, o5] [] W Q := by
  intro S hS
  exact aw_goto j76_186 (k_1 _ hS)
theorem br76_189 {x1 : Int32} {x2 : Int32} {o3 : Option Value} {o4 : Option Value} {o5 : Option Value}  (k_1 : Q none W) : rA ext X d 76 189 [some (.ref X.1), some (.int x1), some (.int x2), o3, o4, o5] [] W Q := by
  intro S hS
  exact aw_vret j76_189 rt76 ⟨_, hS, k_1⟩
/-! Ref_move -/
theorem br77_0 {x1 : Int32} {x2 : Int32} {o3 : Option Value} {o4 : Option Value} {o5 : Option Value} {P_1 : Int32 → rW → Prop} (m_4 : rCi ext X d 71 [.ref X.1, .int x1] (hset W 0 (0 : Int32)) P_1) (k_5 : ∀ v_3 W_2, P_1 v_3 W_2 → rA ext X (d + 1) 77 10 [some (.ref X.1), some (.int x1), some (.int x2), o3, o4, o5] [.int v_3] W_2 Q) : rA ext X (d + 1) 77 0 [some (.ref X.1), some (.int x1), some (.int x2), o3, o4, o5] [] W Q := by
  intro S hS
  refine aw_ald j77_0 rfl rfl ?_
  refine aw_con j77_1 ?_
  refine aw_put j77_2 hS.to rfl ?_
  have hS := hS.seth 0 (0 : Int32) rfl
  refine aw_ald j77_5 rfl rfl ?_
  refine aw_ild j77_6 rfl ?_
  refine aw_calli (as := [.ref X.1, .int x1]) j77_7 rfl rfl (Nat.le_of_ble_eq_true rfl) cy71.1 cy71.2 (cs_cons rfl (cs_cons rfl cs_nil)) (decide_eq_true hS.to) (m_4 _ hS) (fun v1 S1 h1 => ?_)
  obtain ⟨W1, h1, h2⟩ := h1
  exact k_5 v1 W1 h2 S1 h1
theorem br77_10 {x1 : Int32} {x2 : Int32} {o3 : Option Value} {o4 : Option Value} {o5 : Option Value} {xk0 : Int32}  (k_1 : (xk0 = 0) → rA ext X d 77 26 [some (.ref X.1), some (.int x1), some (.int x2), o3, o4, o5] [] W Q) (k_2 : (¬ (xk0 = 0)) → rA ext X d 77 13 [some (.ref X.1), some (.int x1), some (.int x2), o3, o4, o5] [] W Q) : rA ext X d 77 10 [some (.ref X.1), some (.int x1), some (.int x2), o3, o4, o5] [.int xk0] W Q := by
  intro S hS
  exact aw_if j77_10 (fun h => k_1 (of_decide_eq_true h) _ hS) (fun h => k_2 (of_decide_eq_false h) _ hS)
theorem br77_13 {x1 : Int32} {x2 : Int32} {o3 : Option Value} {o4 : Option Value} {o5 : Option Value}  (k_1 : (x2 = (-1 : Int32)) → rA ext X d 77 28 [some (.ref X.1), some (.int x1), some (.int x2), o3, o4, o5] [] W Q) (k_2 : (¬ (x2 = (-1 : Int32))) → rA ext X d 77 18 [some (.ref X.1), some (.int x1), some (.int x2), o3, o4, o5] [] W Q) : rA ext X d 77 13 [some (.ref X.1), some (.int x1), some (.int x2), o3, o4, o5] [] W Q := by
  intro S hS
  refine aw_ild j77_13 rfl ?_
  refine aw_con j77_14 ?_
  exact aw_ic j77_15 (fun h => k_1 (of_decide_eq_true h) _ hS) (fun h => k_2 (of_decide_eq_false h) _ hS)
theorem br77_18 {x1 : Int32} {x2 : Int32} {o3 : Option Value} {o4 : Option Value} {o5 : Option Value} {P_1 : Int32 → rW → Prop} (m_4 : rCi ext X d 71 [.ref X.1, .int x2] W P_1) (k_5 : ∀ v_3 W_2, P_1 v_3 W_2 → rA ext X (d + 1) 77 23 [some (.ref X.1), some (.int x1), some (.int x2), o3, o4, o5] [.int v_3] W_2 Q) : rA ext X (d + 1) 77 18 [some (.ref X.1), some (.int x1), some (.int x2), o3, o4, o5] [] W Q := by
  intro S hS
  refine aw_ald j77_18 rfl rfl ?_
  refine aw_ild j77_19 rfl ?_
  refine aw_calli (as := [.ref X.1, .int x2]) j77_20 rfl rfl (Nat.le_of_ble_eq_true rfl) cy71.1 cy71.2 (cs_cons rfl (cs_cons rfl cs_nil)) (decide_eq_true hS.to) (m_4 _ hS) (fun v1 S1 h1 => ?_)
  obtain ⟨W1, h1, h2⟩ := h1
  exact k_5 v1 W1 h2 S1 h1
theorem br77_23 {x1 : Int32} {x2 : Int32} {o3 : Option Value} {o4 : Option Value} {o5 : Option Value} {xk0 : Int32}  (k_1 : (¬ xk0 = 0) → rA ext X d 77 28 [some (.ref X.1), some (.int x1), some (.int x2), o3, o4, o5] [] W Q) (k_2 : (xk0 = 0) → rA ext X d 77 26 [some (.ref X.1), some (.int x1), some (.int x2), o3, o4, o5] [] W Q) : rA ext X d 77 23 [some (.ref X.1), some (.int x1), some (.int x2), o3, o4, o5] [.int xk0] W Q := by
  intro S hS
  exact aw_if j77_23 (fun h => k_1 (of_decide_eq_true h) _ hS) (fun h => k_2 (Decidable.of_not_not (of_decide_eq_false h)) _ hS)
theorem br77_26 {x1 : Int32} {x2 : Int32} {o3 : Option Value} {o4 : Option Value} {o5 : Option Value}  (k_1 : Q (some (.int (-1 : Int32))) W) : rA ext X d 77 26 [some (.ref X.1), some (.int x1), some (.int x2), o3, o4, o5] [] W Q := by
  intro S hS
  refine aw_con j77_26 ?_
  exact aw_ret j77_27 (by rw [rt77]; exact rfl) ⟨_, hS, k_1⟩
theorem br77_28 {x1 : Int32} {x2 : Int32} {o3 : Option Value} {o4 : Option Value} {o5 : Option Value}  (k_1 : (x2 < 0) → rA ext X d 77 68 [some (.ref X.1), some (.int x1), some (.int x2), o3, o4, o5] [] W Q) (k_2 : (¬ (x2 < 0)) → rA ext X d 77 32 [some (.ref X.1), some (.int x1), some (.int x2), o3, o4, o5] [] W Q) : rA ext X d 77 28 [some (.ref X.1), some (.int x1), some (.int x2), o3, o4, o5] [] W Q := by
  intro S hS
  refine aw_ild j77_28 rfl ?_
  exact aw_if j77_29 (fun h => k_1 (of_decide_eq_true h) _ hS) (fun h => k_2 (of_decide_eq_false h) _ hS)
theorem br77_32 {x1 : Int32} {x2 : Int32} {o3 : Option Value} {o4 : Option Value} {o5 : Option Value} {i_1 : Nat} {i_4 : Nat} (e_2 : x2 = nI i_1) (c_3 : i_1 < 120) (e_5 : x1 = nI i_4) (c_6 : i_4 < 120) (k_7 : (¬ (W.1 6 i_1) = (W.1 6 i_4)) → rA ext X d 77 65 [some (.ref X.1), some (.int x1), some (.int x2), o3, o4, o5] [] W Q) (k_8 : ((W.1 6 i_1) = (W.1 6 i_4)) → rA ext X d 77 47 [some (.ref X.1), some (.int x1), some (.int x2), o3, o4, o5] [] W Q) : rA ext X d 77 32 [some (.ref X.1), some (.int x1), some (.int x2), o3, o4, o5] [] W Q := by
  intro S hS
  refine aw_ald j77_32 rfl rfl ?_
  refine aw_get j77_33 hS.to (hS.fa 6 rfl) ?_
  refine aw_ild j77_36 rfl ?_
  refine aw_xld (n := 120) j77_37 (hS.ta 6 rfl) e_2 c_3 (by decide) (hS.g 6 i_1 rfl c_3) ?_
  refine aw_ald j77_38 rfl rfl ?_
  refine aw_get j77_39 hS.to (hS.fa 6 rfl) ?_
  refine aw_ild j77_42 rfl ?_
  refine aw_xld (n := 120) j77_43 (hS.ta 6 rfl) e_5 c_6 (by decide) (hS.g 6 i_4 rfl c_6) ?_
  exact aw_ic j77_44 (fun h => k_7 (of_decide_eq_true h) _ hS) (fun h => k_8 (Decidable.of_not_not (of_decide_eq_false h)) _ hS)
theorem br77_47 {x1 : Int32} {x2 : Int32} {o3 : Option Value} {o4 : Option Value} {o5 : Option Value} {i_1 : Nat} (e_2 : x2 = nI i_1) (c_3 : i_1 < 120) (k_4 : (0 ≤ (W.1 10 i_1)) → rA ext X d 77 65 [some (.ref X.1), some (.int x1), some (.int x2), o3, o4, o5] [] W Q) (k_5 : (¬ (0 ≤ (W.1 10 i_1))) → rA ext X d 77 56 [some (.ref X.1), some (.int x1), some (.int x2), o3, o4, o5] [] W Q) : rA ext X d 77 47 [some (.ref X.1), some (.int x1), some (.int x2), o3, o4, o5] [] W Q := by
  intro S hS
  refine aw_ald j77_47 rfl rfl ?_
  refine aw_get j77_48 hS.to (hS.fa 10 rfl) ?_
  refine aw_ild j77_51 rfl ?_
  refine aw_xld (n := 120) j77_52 (hS.ta 10 rfl) e_2 c_3 (by decide) (hS.g 10 i_1 rfl c_3) ?_
  exact aw_if j77_53 (fun h => k_4 (of_decide_eq_true h) _ hS) (fun h => k_5 (of_decide_eq_false h) _ hS)
theorem br77_56 {x1 : Int32} {x2 : Int32} {o3 : Option Value} {o4 : Option Value} {o5 : Option Value} {P_1 : Int32 → rW → Prop} (m_4 : rCi ext X d 78 [.ref X.1, .int x2, .int x1] W P_1) (k_5 : ∀ v_3 W_2, P_1 v_3 W_2 → rA ext X (d + 1) 77 62 [some (.ref X.1), some (.int x1), some (.int x2), o3, o4, o5] [.int v_3] W_2 Q) : rA ext X (d + 1) 77 56 [some (.ref X.1), some (.int x1), some (.int x2), o3, o4, o5] [] W Q := by
  intro S hS
  refine aw_ald j77_56 rfl rfl ?_
  refine aw_ild j77_57 rfl ?_
  refine aw_ild j77_58 rfl ?_
  refine aw_calli (as := [.ref X.1, .int x2, .int x1]) j77_59 rfl rfl (Nat.le_of_ble_eq_true rfl) cy78.1 cy78.2 (cs_cons rfl (cs_cons rfl (cs_cons rfl cs_nil))) (decide_eq_true hS.to) (m_4 _ hS) (fun v1 S1 h1 => ?_)
  obtain ⟨W1, h1, h2⟩ := h1
  exact k_5 v1 W1 h2 S1 h1
theorem br77_62 {x1 : Int32} {x2 : Int32} {o3 : Option Value} {o4 : Option Value} {o5 : Option Value} {xk0 : Int32}  (k_1 : (xk0 = 0) → rA ext X d 77 68 [some (.ref X.1), some (.int x1), some (.int x2), o3, o4, o5] [] W Q) (k_2 : (¬ (xk0 = 0)) → rA ext X d 77 65 [some (.ref X.1), some (.int x1), some (.int x2), o3, o4, o5] [] W Q) : rA ext X d 77 62 [some (.ref X.1), some (.int x1), some (.int x2), o3, o4, o5] [.int xk0] W Q := by
  intro S hS
  exact aw_if j77_62 (fun h => k_1 (of_decide_eq_true h) _ hS) (fun h => k_2 (of_decide_eq_false h) _ hS)
theorem br77_65 {x1 : Int32} {x2 : Int32} {o3 : Option Value} {o4 : Option Value} {o5 : Option Value}  (k_1 : Q (some (.int (-3 : Int32))) W) : rA ext X d 77 65 [some (.ref X.1), some (.int x1), some (.int x2), o3, o4, o5] [] W Q := by
  intro S hS
  refine aw_con j77_65 ?_
  exact aw_ret j77_67 (by rw [rt77]; exact rfl) ⟨_, hS, k_1⟩
theorem br77_68 {x1 : Int32} {x2 : Int32} {o3 : Option Value} {o4 : Option Value} {o5 : Option Value} {i_1 : Nat} {i_4 : Nat} (e_2 : x1 = nI i_1) (c_3 : i_1 < 120) (e_5 : x1 = nI i_4) (c_6 : i_4 < 120) (k_7 : rA ext X d 77 88 [some (.ref X.1), some (.int x1), some (.int x2), some (.int (W.1 7 i_1)), some (.int (0 : Int32)), some (.int (0 : Int32))] [] (gset W 7 i_4 x2) Q) : rA ext X d 77 68 [some (.ref X.1), some (.int x1), some (.int x2), o3, o4, o5] [] W Q := by
  intro S hS
  refine aw_ald j77_68 rfl rfl ?_
  refine aw_get j77_69 hS.to (hS.fa 7 rfl) ?_
  refine aw_ild j77_72 rfl ?_
  refine aw_xld (n := 120) j77_73 (hS.ta 7 rfl) e_2 c_3 (by decide) (hS.g 7 i_1 rfl c_3) ?_
  refine aw_ist j77_74 (Nat.le_of_ble_eq_true rfl) ?_
  refine aw_ald j77_75 rfl rfl ?_
  refine aw_get j77_76 hS.to (hS.fa 7 rfl) ?_
  refine aw_ild j77_79 rfl ?_
  refine aw_ild j77_80 rfl ?_
  refine aw_xst (n := 120) j77_81 (hS.ta 7 rfl) e_5 c_6 (by decide) ?_
  have hS := hS.seta 7 i_4 x2 rfl
  refine aw_con j77_82 ?_
  refine aw_ist j77_83 (Nat.le_of_ble_eq_true rfl) ?_
  refine aw_con j77_85 ?_
  refine aw_ist j77_86 (Nat.le_of_ble_eq_true rfl) ?_
  exact k_7 _ hS
theorem br77_88 {x1 : Int32} {x2 : Int32} {x3 : Int32} {x4 : Int32} {x5 : Int32}  (k_1 : ((W.2 5) ≤ x5) → rA ext X d 77 141 [some (.ref X.1), some (.int x1), some (.int x2), some (.int x3), some (.int x4), some (.int x5)] [] W Q) (k_2 : (¬ ((W.2 5) ≤ x5)) → rA ext X d 77 97 [some (.ref X.1), some (.int x1), some (.int x2), some (.int x3), some (.int x4), some (.int x5)] [] W Q) : rA ext X d 77 88 [some (.ref X.1), some (.int x1), some (.int x2), some (.int x3), some (.int x4), some (.int x5)] [] W Q := by
  intro S hS
  refine aw_ild j77_88 rfl ?_
  refine aw_ald j77_90 rfl rfl ?_
  refine aw_get j77_91 hS.to (hS.n 5 rfl) ?_
  exact aw_ic j77_94 (fun h => k_1 (of_decide_eq_true h) _ hS) (fun h => k_2 (of_decide_eq_false h) _ hS)
theorem br77_97 {x1 : Int32} {x2 : Int32} {x3 : Int32} {x4 : Int32} {x5 : Int32}  (k_1 : (¬ x4 = 0) → rA ext X d 77 128 [some (.ref X.1), some (.int x1), some (.int x2), some (.int x3), some (.int x4), some (.int x5)] [] W Q) (k_2 : (x4 = 0) → rA ext X d 77 102 [some (.ref X.1), some (.int x1), some (.int x2), some (.int x3), some (.int x4), some (.int x5)] [] W Q) : rA ext X d 77 97 [some (.ref X.1), some (.int x1), some (.int x2), some (.int x3), some (.int x4), some (.int x5)] [] W Q := by
  intro S hS
  refine aw_ild j77_97 rfl ?_
  exact aw_if j77_99 (fun h => k_1 (of_decide_eq_true h) _ hS) (fun h => k_2 (Decidable.of_not_not (of_decide_eq_false h)) _ hS)
theorem br77_102 {x1 : Int32} {x2 : Int32} {x3 : Int32} {x4 : Int32} {x5 : Int32} {i_1 : Nat} (e_2 : x5 = nI i_1) (c_3 : i_1 < 120) (k_4 : ((W.1 10 i_1) < 0) → rA ext X d 77 132 [some (.ref X.1), some (.int x1), some (.int x2), some (.int x3), some (.int x4), some (.int x5)] [] W Q) (k_5 : (¬ ((W.1 10 i_1) < 0)) → rA ext X d 77 112 [some (.ref X.1), some (.int x1), some (.int x2), some (.int x3), some (.int x4), some (.int x5)] [] W Q) : rA ext X d 77 102 [some (.ref X.1), some (.int x1), some (.int x2), some (.int x3), some (.int x4), some (.int x5)] [] W Q := by
  intro S hS
  refine aw_ald j77_102 rfl rfl ?_
  refine aw_get j77_103 hS.to (hS.fa 10 rfl) ?_
  refine aw_ild j77_106 rfl ?_
  refine aw_xld (n := 120) j77_108 (hS.ta 10 rfl) e_2 c_3 (by decide) (hS.g 10 i_1 rfl c_3) ?_
  exact aw_if j77_109 (fun h => k_4 (of_decide_eq_true h) _ hS) (fun h => k_5 (of_decide_eq_false h) _ hS)
theorem br77_112 {x1 : Int32} {x2 : Int32} {x3 : Int32} {x4 : Int32} {x5 : Int32} {i_1 : Nat} {P_4 : Int32 → rW → Prop} (e_2 : x5 = nI i_1) (c_3 : i_1 < 120) (m_7 : rCi ext X d 75 [.ref X.1, .int x5, .int (W.1 10 i_1)] W P_4) (k_8 : ∀ v_6 W_5, P_4 v_6 W_5 → rA ext X (d + 1) 77 125 [some (.ref X.1), some (.int x1), some (.int x2), some (.int x3), some (.int x4), some (.int x5)] [.int v_6] W_5 Q) : rA ext X (d + 1) 77 112 [some (.ref X.1), some (.int x1), some (.int x2), some (.int x3), some (.int x4), some (.int x5)] [] W Q := by
  intro S hS
  refine aw_ald j77_112 rfl rfl ?_
  refine aw_ild j77_113 rfl ?_
  refine aw_ald j77_115 rfl rfl ?_
  refine aw_get j77_116 hS.to (hS.fa 10 rfl) ?_
  refine aw_ild j77_119 rfl ?_
  refine aw_xld (n := 120) j77_121 (hS.ta 10 rfl) e_2 c_3 (by decide) (hS.g 10 i_1 rfl c_3) ?_
  refine aw_calli (as := [.ref X.1, .int x5, .int (W.1 10 i_1)]) j77_122 rfl rfl (Nat.le_of_ble_eq_true rfl) cy75.1 cy75.2 (cs_cons rfl (cs_cons rfl (cs_cons rfl cs_nil))) (decide_eq_true hS.to) (m_7 _ hS) (fun v1 S1 h1 => ?_)
  obtain ⟨W1, h1, h2⟩ := h1
  exact k_8 v1 W1 h2 S1 h1
theorem br77_125 {x1 : Int32} {x2 : Int32} {x3 : Int32} {x4 : Int32} {x5 : Int32} {xk0 : Int32}  (k_1 : (xk0 = 0) → rA ext X d 77 132 [some (.ref X.1), some (.int x1), some (.int x2), some (.int x3), some (.int x4), some (.int x5)] [] W Q) (k_2 : (¬ (xk0 = 0)) → rA ext X d 77 128 [some (.ref X.1), some (.int x1), some (.int x2), some (.int x3), some (.int x4), some (.int x5)] [] W Q) : rA ext X d 77 125 [some (.ref X.1), some (.int x1), some (.int x2), some (.int x3), some (.int x4), some (.int x5)] [.int xk0] W Q := by
  intro S hS
  exact aw_if j77_125 (fun h => k_1 (of_decide_eq_true h) _ hS) (fun h => k_2 (of_decide_eq_false h) _ hS)
theorem br77_128 {x1 : Int32} {x2 : Int32} {x3 : Int32} {x4 : Int32} {x5 : Int32}  (k_1 : rA ext X d 77 133 [some (.ref X.1), some (.int x1), some (.int x2), some (.int x3), some (.int x4), some (.int x5)] [.int (1 : Int32)] W Q) : rA ext X d 77 128 [some (.ref X.1), some (.int x1), some (.int x2), some (.int x3), some (.int x4), some (.int x5)] [] W Q := by
  intro S hS
  refine aw_con j77_128 ?_
  exact aw_goto j77_129 (k_1 _ hS)
theorem br77_132 {x1 : Int32} {x2 : Int32} {x3 : Int32} {x4 : Int32} {x5 : Int32}  (k_1 : rA ext X d 77 133 [some (.ref X.1), some (.int x1), some (.int x2), some (.int x3), some (.int x4), some (.int x5)] [.int (0 : Int32)] W Q) : rA ext X d 77 132 [some (.ref X.1), some (.int x1), some (.int x2), some (.int x3), some (.int x4), some (.int x5)] [] W Q := by
  intro S hS
  refine aw_con j77_132 ?_
  exact k_1 _ hS
theorem br77_133 {x1 : Int32} {x2 : Int32} {x3 : Int32} {x4 : Int32} {x5 : Int32} {xk0 : Int32}  (k_1 : rA ext X d 77 88 [some (.ref X.1), some (.int x1), some (.int x2), some (.int x3), some (.int xk0), some (.int (x5 + 1))] [] W Q) : rA ext X d 77 133 [some (.ref X.1), some (.int x1), some (.int x2), some (.int x3), some (.int x4), some (.int x5)] [.int xk0] W Q := by
  intro S hS
  refine aw_ist j77_133 (Nat.le_of_ble_eq_true rfl) ?_
  refine aw_inc j77_135 rfl ?_
  exact aw_goto j77_138 (k_1 _ hS)
theorem br77_141 {x1 : Int32} {x2 : Int32} {x3 : Int32} {x4 : Int32} {x5 : Int32}  (k_1 : (x4 = 0) → rA ext X d 77 153 [some (.ref X.1), some (.int x1), some (.int x2), some (.int x3), some (.int x4), some (.int x5)] [] W Q) (k_2 : (¬ (x4 = 0)) → rA ext X d 77 146 [some (.ref X.1), some (.int x1), some (.int x2), some (.int x3), some (.int x4), some (.int x5)] [] W Q) : rA ext X d 77 141 [some (.ref X.1), some (.int x1), some (.int x2), some (.int x3), some (.int x4), some (.int x5)] [] W Q := by
  intro S hS
  refine aw_ild j77_141 rfl ?_
  exact aw_if j77_143 (fun h => k_1 (of_decide_eq_true h) _ hS) (fun h => k_2 (of_decide_eq_false h) _ hS)
theorem br77_146 {x1 : Int32} {x2 : Int32} {x3 : Int32} {x4 : Int32} {x5 : Int32} {i_1 : Nat} (e_2 : x1 = nI i_1) (c_3 : i_1 < 120) (k_4 : rA ext X d 77 153 [some (.ref X.1), some (.int x1), some (.int x2), some (.int x3), some (.int x4), some (.int x5)] [] (gset W 7 i_1 x3) Q) : rA ext X d 77 146 [some (.ref X.1), some (.int x1), some (.int x2), some (.int x3), some (.int x4), some (.int x5)] [] W Q := by
  intro S hS
  refine aw_ald j77_146 rfl rfl ?_
  refine aw_get j77_147 hS.to (hS.fa 7 rfl) ?_
  refine aw_ild j77_150 rfl ?_
  refine aw_ild j77_151 rfl ?_
  refine aw_xst (n := 120) j77_152 (hS.ta 7 rfl) e_2 c_3 (by decide) ?_
  have hS := hS.seta 7 i_1 x3 rfl
  exact k_4 _ hS
theorem br77_153 {x1 : Int32} {x2 : Int32} {x3 : Int32} {x4 : Int32} {x5 : Int32}  (k_1 : (x4 = 0) → rA ext X d 77 163 [some (.ref X.1), some (.int x1), some (.int x2), some (.int x3), some (.int x4), some (.int x5)] [] W Q) (k_2 : (¬ (x4 = 0)) → rA ext X d 77 158 [some (.ref X.1), some (.int x1), some (.int x2), some (.int x3), some (.int x4), some (.int x5)] [] W Q) : rA ext X d 77 153 [some (.ref X.1), some (.int x1), some (.int x2), some (.int x3), some (.int x4), some (.int x5)] [] W Q := by
  intro S hS
  refine aw_ild j77_153 rfl ?_
  exact aw_if j77_155 (fun h => k_1 (of_decide_eq_true h) _ hS) (fun h => k_2 (of_decide_eq_false h) _ hS)
theorem br77_158 {x1 : Int32} {x2 : Int32} {x3 : Int32} {x4 : Int32} {x5 : Int32}  (k_1 : rA ext X d 77 164 [some (.ref X.1), some (.int x1), some (.int x2), some (.int x3), some (.int x4), some (.int x5)] [.int (-3 : Int32)] W Q) : rA ext X d 77 158 [some (.ref X.1), some (.int x1), some (.int x2), some (.int x3), some (.int x4), some (.int x5)] [] W Q := by
  intro S hS
  refine aw_con j77_158 ?_
  exact aw_goto j77_160 (k_1 _ hS)
theorem br77_163 {x1 : Int32} {x2 : Int32} {x3 : Int32} {x4 : Int32} {x5 : Int32}  (k_1 : rA ext X d 77 164 [some (.ref X.1), some (.int x1), some (.int x2), some (.int x3), some (.int x4), some (.int x5)] [.int (1 : Int32)] W Q) : rA ext X d 77 163 [some (.ref X.1), some (.int x1), some (.int x2), some (.int x3), some (.int x4), some (.int x5)] [] W Q := by
  intro S hS
  refine aw_con j77_163 ?_
  exact k_1 _ hS
theorem br77_164 {x1 : Int32} {x2 : Int32} {x3 : Int32} {x4 : Int32} {x5 : Int32} {xk0 : Int32}  (k_1 : Q (some (.int xk0)) W) : rA ext X d 77 164 [some (.ref X.1), some (.int x1), some (.int x2), some (.int x3), some (.int x4), some (.int x5)] [.int xk0] W Q := by
  intro S hS
  exact aw_ret j77_164 (by rw [rt77]; exact rfl) ⟨_, hS, k_1⟩
/-! Ref_isUnder -/
theorem br78_0 {x1 : Int32} {x2 : Int32} {o3 : Option Value}  (k_1 : rA ext X d 78 2 [some (.ref X.1), some (.int x1), some (.int x2), some (.int x1)] [] W Q) : rA ext X d 78 0 [some (.ref X.1), some (.int x1), some (.int x2), o3] [] W Q := by
  intro S hS
  refine aw_ild j78_0 rfl ?_
  refine aw_ist j78_1 (Nat.le_of_ble_eq_true rfl) ?_
  exact k_1 _ hS
theorem br78_2 {x1 : Int32} {x2 : Int32} {x3 : Int32}  (k_1 : (x3 < 0) → rA ext X d 78 21 [some (.ref X.1), some (.int x1), some (.int x2), some (.int x3)] [] W Q) (k_2 : (¬ (x3 < 0)) → rA ext X d 78 6 [some (.ref X.1), some (.int x1), some (.int x2), some (.int x3)] [] W Q) : rA ext X d 78 2 [some (.ref X.1), some (.int x1), some (.int x2), some (.int x3)] [] W Q := by
  intro S hS
  refine aw_ild j78_2 rfl ?_
  exact aw_if j78_3 (fun h => k_1 (of_decide_eq_true h) _ hS) (fun h => k_2 (of_decide_eq_false h) _ hS)
theorem br78_6 {x1 : Int32} {x2 : Int32} {x3 : Int32}  (k_1 : (x3 = x2) → rA ext X d 78 21 [some (.ref X.1), some (.int x1), some (.int x2), some (.int x3)] [] W Q) (k_2 : (¬ (x3 = x2)) → rA ext X d 78 11 [some (.ref X.1), some (.int x1), some (.int x2), some (.int x3)] [] W Q) : rA ext X d 78 6 [some (.ref X.1), some (.int x1), some (.int x2), some (.int x3)] [] W Q := by
  intro S hS
  refine aw_ild j78_6 rfl ?_
  refine aw_ild j78_7 rfl ?_
  exact aw_ic j78_8 (fun h => k_1 (of_decide_eq_true h) _ hS) (fun h => k_2 (of_decide_eq_false h) _ hS)
theorem br78_11 {x1 : Int32} {x2 : Int32} {x3 : Int32} {i_1 : Nat} (e_2 : x3 = nI i_1) (c_3 : i_1 < 120) (k_4 : rA ext X d 78 2 [some (.ref X.1), some (.int x1), some (.int x2), some (.int (W.1 7 i_1))] [] W Q) : rA ext X d 78 11 [some (.ref X.1), some (.int x1), some (.int x2), some (.int x3)] [] W Q := by
  intro S hS
  refine aw_ald j78_11 rfl rfl ?_
  refine aw_get j78_12 hS.to (hS.fa 7 rfl) ?_
  refine aw_ild j78_15 rfl ?_
  refine aw_xld (n := 120) j78_16 (hS.ta 7 rfl) e_2 c_3 (by decide) (hS.g 7 i_1 rfl c_3) ?_
  refine aw_ist j78_17 (Nat.le_of_ble_eq_true rfl) ?_
  exact aw_goto j78_18 (k_4 _ hS)
theorem br78_21 {x1 : Int32} {x2 : Int32} {x3 : Int32}  (k_1 : (¬ x3 = x2) → rA ext X d 78 30 [some (.ref X.1), some (.int x1), some (.int x2), some (.int x3)] [] W Q) (k_2 : (x3 = x2) → rA ext X d 78 26 [some (.ref X.1), some (.int x1), some (.int x2), some (.int x3)] [] W Q) : rA ext X d 78 21 [some (.ref X.1), some (.int x1), some (.int x2), some (.int x3)] [] W Q := by
  intro S hS
  refine aw_ild j78_21 rfl ?_
  refine aw_ild j78_22 rfl ?_
  exact aw_ic j78_23 (fun h => k_1 (of_decide_eq_true h) _ hS) (fun h => k_2 (Decidable.of_not_not (of_decide_eq_false h)) _ hS)
theorem br78_26 {x1 : Int32} {x2 : Int32} {x3 : Int32}  (k_1 : rA ext X d 78 31 [some (.ref X.1), some (.int x1), some (.int x2), some (.int x3)] [.int (1 : Int32)] W Q) : rA ext X d 78 26 [some (.ref X.1), some (.int x1), some (.int x2), some (.int x3)] [] W Q := by
  intro S hS
  refine aw_con j78_26 ?_
  exact aw_goto j78_27 (k_1 _ hS)
theorem br78_30 {x1 : Int32} {x2 : Int32} {x3 : Int32}  (k_1 : rA ext X d 78 31 [some (.ref X.1), some (.int x1), some (.int x2), some (.int x3)] [.int (0 : Int32)] W Q) : rA ext X d 78 30 [some (.ref X.1), some (.int x1), some (.int x2), some (.int x3)] [] W Q := by
  intro S hS
  refine aw_con j78_30 ?_
  exact k_1 _ hS
theorem br78_31 {x1 : Int32} {x2 : Int32} {x3 : Int32} {xk0 : Int32} (o_2 : xk0 = 0 ∨ xk0 = 1) (k_1 : Q (some (.int xk0)) W) : rA ext X d 78 31 [some (.ref X.1), some (.int x1), some (.int x2), some (.int x3)] [.int xk0] W Q := by
  intro S hS
  exact aw_ret j78_31 (by rw [rt78]; exact (decide_eq_true o_2)) ⟨_, hS, k_1⟩
/-! Ref_order -/
theorem br79_0 {x1 : Int32} {x2 : Int32} {P_1 : Int32 → rW → Prop} (m_4 : rCi ext X d 70 [.ref X.1, .int x1] (hset W 0 (0 : Int32)) P_1) (k_5 : ∀ v_3 W_2, P_1 v_3 W_2 → rA ext X (d + 1) 79 10 [some (.ref X.1), some (.int x1), some (.int x2)] [.int v_3] W_2 Q) : rA ext X (d + 1) 79 0 [some (.ref X.1), some (.int x1), some (.int x2)] [] W Q := by
  intro S hS
  refine aw_ald j79_0 rfl rfl ?_
  refine aw_con j79_1 ?_
  refine aw_put j79_2 hS.to rfl ?_
  have hS := hS.seth 0 (0 : Int32) rfl
  refine aw_ald j79_5 rfl rfl ?_
  refine aw_ild j79_6 rfl ?_
  refine aw_calli (as := [.ref X.1, .int x1]) j79_7 rfl rfl (Nat.le_of_ble_eq_true rfl) cy70.1 cy70.2 (cs_cons rfl (cs_cons rfl cs_nil)) (decide_eq_true hS.to) (m_4 _ hS) (fun v1 S1 h1 => ?_)
  obtain ⟨W1, h1, h2⟩ := h1
  exact k_5 v1 W1 h2 S1 h1
theorem br79_10 {x1 : Int32} {x2 : Int32} {xk0 : Int32}  (k_1 : (¬ xk0 = 0) → rA ext X d 79 15 [some (.ref X.1), some (.int x1), some (.int x2)] [] W Q) (k_2 : (xk0 = 0) → rA ext X d 79 13 [some (.ref X.1), some (.int x1), some (.int x2)] [] W Q) : rA ext X d 79 10 [some (.ref X.1), some (.int x1), some (.int x2)] [.int xk0] W Q := by
  intro S hS
  exact aw_if j79_10 (fun h => k_1 (of_decide_eq_true h) _ hS) (fun h => k_2 (Decidable.of_not_not (of_decide_eq_false h)) _ hS)
theorem br79_13 {x1 : Int32} {x2 : Int32}  (k_1 : Q (some (.int (-1 : Int32))) W) : rA ext X d 79 13 [some (.ref X.1), some (.int x1), some (.int x2)] [] W Q := by
  intro S hS
  refine aw_con j79_13 ?_
  exact aw_ret j79_14 (by rw [rt79]; exact rfl) ⟨_, hS, k_1⟩
theorem br79_15 {x1 : Int32} {x2 : Int32} {P_1 : rW → Prop} (m_4 : rCv ext X d 80 [.ref X.1, .int x1] W P_1) (k_5 : ∀ W_2, P_1 W_2 → rA ext X (d + 1) 79 20 [some (.ref X.1), some (.int x1), some (.int x2)] [] W_2 Q) : rA ext X (d + 1) 79 15 [some (.ref X.1), some (.int x1), some (.int x2)] [] W Q := by
  intro S hS
  refine aw_ald j79_15 rfl rfl ?_
  refine aw_ild j79_16 rfl ?_
  refine aw_callv (as := [.ref X.1, .int x1]) j79_17 rfl rfl (Nat.le_of_ble_eq_true rfl) cy80.1 cy80.2 (cs_cons rfl (cs_cons rfl cs_nil)) (decide_eq_true hS.to) (m_4 _ hS) (fun S1 h1 => ?_)
  obtain ⟨W1, h1, h2⟩ := h1
  exact k_5 W1 h2 S1 h1
theorem br79_20 {x1 : Int32} {x2 : Int32} {P_1 : Int32 → rW → Prop} (m_4 : rCi ext X d 65 [.int x2, .int (0 : Int32), .int ((W.2 19) - (1 : Int32))] W P_1) (k_5 : ∀ v_3 W_2, P_1 v_3 W_2 → rA ext X (d + 1) 79 31 [some (.ref X.1), some (.int x1), some (.int x2)] [.int v_3] W_2 Q) : rA ext X (d + 1) 79 20 [some (.ref X.1), some (.int x1), some (.int x2)] [] W Q := by
  intro S hS
  refine aw_ild j79_20 rfl ?_
  refine aw_con j79_21 ?_
  refine aw_ald j79_22 rfl rfl ?_
  refine aw_get j79_23 hS.to (hS.n 19 rfl) ?_
  refine aw_con j79_26 ?_
  refine aw_bin (z := ((W.2 19) - (1 : Int32))) j79_27 rfl ?_
  refine aw_calli (as := [.int x2, .int (0 : Int32), .int ((W.2 19) - (1 : Int32))]) j79_28 rfl rfl (Nat.le_of_ble_eq_true rfl) cy65.1 cy65.2 (cs_cons rfl (cs_cons rfl (cs_cons rfl cs_nil))) rfl (m_4 _ hS) (fun v1 S1 h1 => ?_)
  obtain ⟨W1, h1, h2⟩ := h1
  exact k_5 v1 W1 h2 S1 h1
theorem br79_31 {x1 : Int32} {x2 : Int32} {xk0 : Int32}  (k_1 : (xk0 = 0) → rA ext X d 79 43 [some (.ref X.1), some (.int x1), some (.int x2)] [] W Q) (k_2 : (¬ (xk0 = 0)) → rA ext X d 79 34 [some (.ref X.1), some (.int x1), some (.int x2)] [] W Q) : rA ext X d 79 31 [some (.ref X.1), some (.int x1), some (.int x2)] [.int xk0] W Q := by
  intro S hS
  exact aw_if j79_31 (fun h => k_1 (of_decide_eq_true h) _ hS) (fun h => k_2 (of_decide_eq_false h) _ hS)
theorem br79_34 {x1 : Int32} {x2 : Int32} {i_1 : Nat} (e_2 : x2 = nI i_1) (c_3 : i_1 < 120) (k_4 : rA ext X d 79 44 [some (.ref X.1), some (.int x1), some (.int x2)] [.int (W.1 20 i_1)] W Q) : rA ext X d 79 34 [some (.ref X.1), some (.int x1), some (.int x2)] [] W Q := by
  intro S hS
  refine aw_ald j79_34 rfl rfl ?_
  refine aw_get j79_35 hS.to (hS.fa 20 rfl) ?_
  refine aw_ild j79_38 rfl ?_
  refine aw_xld (n := 120) j79_39 (hS.ta 20 rfl) e_2 c_3 (by decide) (hS.g 20 i_1 rfl c_3) ?_
  exact aw_goto j79_40 (k_4 _ hS)
theorem br79_43 {x1 : Int32} {x2 : Int32}  (k_1 : rA ext X d 79 44 [some (.ref X.1), some (.int x1), some (.int x2)] [.int (-1 : Int32)] W Q) : rA ext X d 79 43 [some (.ref X.1), some (.int x1), some (.int x2)] [] W Q := by
  intro S hS
  refine aw_con j79_43 ?_
  exact k_1 _ hS
theorem br79_44 {x1 : Int32} {x2 : Int32} {xk0 : Int32}  (k_1 : Q (some (.int xk0)) W) : rA ext X d 79 44 [some (.ref X.1), some (.int x1), some (.int x2)] [.int xk0] W Q := by
  intro S hS
  exact aw_ret j79_44 (by rw [rt79]; exact rfl) ⟨_, hS, k_1⟩
/-! Ref_go -/
theorem br80_0 {x1 : Int32} {o2 : Option Value} {P_1 : rW → Prop} (m_4 : rCv ext X d 81 [.ref X.1, .int ((-1 : Int32) - x1), .int (-1 : Int32)] (hset (hset W 19 (0 : Int32)) 17 (0 : Int32)) P_1) (k_5 : ∀ W_2, P_1 W_2 → rA ext X (d + 1) 80 18 [some (.ref X.1), some (.int x1), o2] [] W_2 Q) : rA ext X (d + 1) 80 0 [some (.ref X.1), some (.int x1), o2] [] W Q := by
  intro S hS
  refine aw_ald j80_0 rfl rfl ?_
  refine aw_con j80_1 ?_
  refine aw_put j80_2 hS.to rfl ?_
  have hS := hS.seth 19 (0 : Int32) rfl
  refine aw_ald j80_5 rfl rfl ?_
  refine aw_con j80_6 ?_
  refine aw_put j80_7 hS.to rfl ?_
  have hS := hS.seth 17 (0 : Int32) rfl
  refine aw_ald j80_10 rfl rfl ?_
  refine aw_con j80_11 ?_
  refine aw_ild j80_12 rfl ?_
  refine aw_bin (z := ((-1 : Int32) - x1)) j80_13 rfl ?_
  refine aw_con j80_14 ?_
  refine aw_callv (as := [.ref X.1, .int ((-1 : Int32) - x1), .int (-1 : Int32)]) j80_15 rfl rfl (Nat.le_of_ble_eq_true rfl) cy81.1 cy81.2 (cs_cons rfl (cs_cons rfl (cs_cons rfl cs_nil))) (decide_eq_true hS.to) (m_4 _ hS) (fun S1 h1 => ?_)
  obtain ⟨W1, h1, h2⟩ := h1
  exact k_5 W1 h2 S1 h1
theorem br80_18 {x1 : Int32} {o2 : Option Value}  (k_1 : ((W.2 17) ≤ 0) → rA ext X d 80 88 [some (.ref X.1), some (.int x1), o2] [] W Q) (k_2 : (¬ ((W.2 17) ≤ 0)) → rA ext X d 80 25 [some (.ref X.1), some (.int x1), o2] [] W Q) : rA ext X d 80 18 [some (.ref X.1), some (.int x1), o2] [] W Q := by
  intro S hS
  refine aw_ald j80_18 rfl rfl ?_
  refine aw_get j80_19 hS.to (hS.n 17 rfl) ?_
  exact aw_if j80_22 (fun h => k_1 (of_decide_eq_true h) _ hS) (fun h => k_2 (of_decide_eq_false h) _ hS)
theorem br80_25 {x1 : Int32} {o2 : Option Value} {i_1 : Nat} {i_4 : Nat} {P_7 : Int32 → rW → Prop} (e_2 : ((hset W 17 ((W.2 17) - (1 : Int32))).2 17) = nI i_1) (c_3 : i_1 < 1000) (e_5 : ((hset W 17 ((W.2 17) - (1 : Int32))).2 19) = nI i_4) (c_6 : i_4 < 120) (m_10 : rCi ext X d 82 [.ref X.1, .int ((hset W 17 ((W.2 17) - (1 : Int32))).1 15 i_1)] (gset (hset W 17 ((W.2 17) - (1 : Int32))) 20 i_4 ((hset W 17 ((W.2 17) - (1 : Int32))).1 15 i_1)) P_7) (k_11 : ∀ v_9 W_8, P_7 v_9 W_8 → rA ext X (d + 1) 80 68 [some (.ref X.1), some (.int x1), some (.int ((hset W 17 ((W.2 17) - (1 : Int32))).1 15 i_1))] [.int v_9, .int ((gset (hset W 17 ((W.2 17) - (1 : Int32))) 20 i_4 ((hset W 17 ((W.2 17) - (1 : Int32))).1 15 i_1)).2 19), .ref (X.2.1 21)] W_8 Q) : rA ext X (d + 1) 80 25 [some (.ref X.1), some (.int x1), o2] [] W Q := by
  intro S hS
  refine aw_ald j80_25 rfl rfl ?_
  refine aw_dup j80_26 rfl ?_
  refine aw_get j80_27 hS.to (hS.n 17 rfl) ?_
  refine aw_con j80_30 ?_
  refine aw_bin (z := ((W.2 17) - (1 : Int32))) j80_31 rfl ?_
  refine aw_put j80_32 hS.to rfl ?_
  have hS := hS.seth 17 ((W.2 17) - (1 : Int32)) rfl
  refine aw_ald j80_35 rfl rfl ?_
  refine aw_get j80_36 hS.to (hS.fa 15 rfl) ?_
  refine aw_ald j80_39 rfl rfl ?_
  refine aw_get j80_40 hS.to (hS.n 17 rfl) ?_
  refine aw_xld (n := 1000) j80_43 (hS.ta 15 rfl) e_2 c_3 (by decide) (hS.g 15 i_1 rfl c_3) ?_
  refine aw_ist j80_44 (Nat.le_of_ble_eq_true rfl) ?_
  refine aw_ald j80_45 rfl rfl ?_
  refine aw_get j80_46 hS.to (hS.fa 20 rfl) ?_
  refine aw_ald j80_49 rfl rfl ?_
  refine aw_get j80_50 hS.to (hS.n 19 rfl) ?_
  refine aw_ild j80_53 rfl ?_
  refine aw_xst (n := 120) j80_54 (hS.ta 20 rfl) e_5 c_6 (by decide) ?_
  have hS := hS.seta 20 i_4 ((hset W 17 ((W.2 17) - (1 : Int32))).1 15 i_1) rfl
  refine aw_ald j80_55 rfl rfl ?_
  refine aw_get j80_56 hS.to (hS.fa 21 rfl) ?_
  refine aw_ald j80_59 rfl rfl ?_
  refine aw_get j80_60 hS.to (hS.n 19 rfl) ?_
  refine aw_ald j80_63 rfl rfl ?_
  refine aw_ild j80_64 rfl ?_
  refine aw_calli (as := [.ref X.1, .int ((hset W 17 ((W.2 17) - (1 : Int32))).1 15 i_1)]) j80_65 rfl rfl (Nat.le_of_ble_eq_true rfl) cy82.1 cy82.2 (cs_cons rfl (cs_cons rfl cs_nil)) (decide_eq_true hS.to) (m_10 _ hS) (fun v1 S1 h1 => ?_)
  obtain ⟨W1, h1, h2⟩ := h1
  exact k_11 v1 W1 h2 S1 h1
theorem br80_68 {x1 : Int32} {x2 : Int32} {xk1 : Int32} {xk2 : Int32} {i_1 : Nat} {P_4 : rW → Prop} (e_2 : xk1 = nI i_1) (c_3 : i_1 < 120) (m_7 : rCv ext X d 81 [.ref X.1, .int x2, .int (-1 : Int32)] (hset (gset W 21 i_1 xk2) 19 (((gset W 21 i_1 xk2).2 19) + (1 : Int32))) P_4) (k_8 : ∀ W_5, P_4 W_5 → rA ext X (d + 1) 80 85 [some (.ref X.1), some (.int x1), some (.int x2)] [] W_5 Q) : rA ext X (d + 1) 80 68 [some (.ref X.1), some (.int x1), some (.int x2)] [.int xk2, .int xk1, .ref (X.2.1 21)] W Q := by
  intro S hS
  refine aw_xst (n := 120) j80_68 (hS.ta 21 rfl) e_2 c_3 (by decide) ?_
  have hS := hS.seta 21 i_1 xk2 rfl
  refine aw_ald j80_69 rfl rfl ?_
  refine aw_dup j80_70 rfl ?_
  refine aw_get j80_71 hS.to (hS.n 19 rfl) ?_
  refine aw_con j80_74 ?_
  refine aw_bin (z := (((gset W 21 i_1 xk2).2 19) + (1 : Int32))) j80_75 rfl ?_
  refine aw_put j80_76 hS.to rfl ?_
  have hS := hS.seth 19 (((gset W 21 i_1 xk2).2 19) + (1 : Int32)) rfl
  refine aw_ald j80_79 rfl rfl ?_
  refine aw_ild j80_80 rfl ?_
  refine aw_con j80_81 ?_
  refine aw_callv (as := [.ref X.1, .int x2, .int (-1 : Int32)]) j80_82 rfl rfl (Nat.le_of_ble_eq_true rfl) cy81.1 cy81.2 (cs_cons rfl (cs_cons rfl (cs_cons rfl cs_nil))) (decide_eq_true hS.to) (m_7 _ hS) (fun S1 h1 => ?_)
  obtain ⟨W1, h1, h2⟩ := h1
  exact k_8 W1 h2 S1 h1
theorem br80_85 {x1 : Int32} {x2 : Int32}  (k_1 : rA ext X d 80 18 [some (.ref X.1), some (.int x1), some (.int x2)] [] W Q) : rA ext X d 80 85 [some (.ref X.1), some (.int x1), some (.int x2)] [] W Q := by
  intro S hS
  exact aw_goto j80_85 (k_1 _ hS)
theorem br80_88 {x1 : Int32} {o2 : Option Value}  (k_1 : Q none W) : rA ext X d 80 88 [some (.ref X.1), some (.int x1), o2] [] W Q := by
  intro S hS
  exact aw_vret j80_88 rt80 ⟨_, hS, k_1⟩
/-! Ref_lay -/
theorem br81_0 {x1 : Int32} {x2 : Int32} {o3 : Option Value} {o4 : Option Value} {o5 : Option Value} {o6 : Option Value}  (k_1 : rA ext X d 81 8 [some (.ref X.1), some (.int x1), some (.int x2), some (.int (W.2 17)), some (.int (0 : Int32)), o5, o6] [] W Q) : rA ext X d 81 0 [some (.ref X.1), some (.int x1), some (.int x2), o3, o4, o5, o6] [] W Q := by
  intro S hS
  refine aw_ald j81_0 rfl rfl ?_
  refine aw_get j81_1 hS.to (hS.n 17 rfl) ?_
  refine aw_ist j81_4 (Nat.le_of_ble_eq_true rfl) ?_
  refine aw_con j81_5 ?_
  refine aw_ist j81_6 (Nat.le_of_ble_eq_true rfl) ?_
  exact k_1 _ hS
theorem br81_8 {x1 : Int32} {x2 : Int32} {x3 : Int32} {x4 : Int32} {o5 : Option Value} {o6 : Option Value}  (k_1 : ((W.2 5) ≤ x4) → rA ext X d 81 185 [some (.ref X.1), some (.int x1), some (.int x2), some (.int x3), some (.int x4), o5, o6] [] W Q) (k_2 : (¬ ((W.2 5) ≤ x4)) → rA ext X d 81 17 [some (.ref X.1), some (.int x1), some (.int x2), some (.int x3), some (.int x4), o5, o6] [] W Q) : rA ext X d 81 8 [some (.ref X.1), some (.int x1), some (.int x2), some (.int x3), some (.int x4), o5, o6] [] W Q := by
  intro S hS
  refine aw_ild j81_8 rfl ?_
  refine aw_ald j81_10 rfl rfl ?_
  refine aw_get j81_11 hS.to (hS.n 5 rfl) ?_
  exact aw_ic j81_14 (fun h => k_1 (of_decide_eq_true h) _ hS) (fun h => k_2 (of_decide_eq_false h) _ hS)
theorem br81_17 {x1 : Int32} {x2 : Int32} {x3 : Int32} {x4 : Int32} {o5 : Option Value} {o6 : Option Value}  (k_1 : (x1 < 0) → rA ext X d 81 40 [some (.ref X.1), some (.int x1), some (.int x2), some (.int x3), some (.int x4), o5, o6] [] W Q) (k_2 : (¬ (x1 < 0)) → rA ext X d 81 21 [some (.ref X.1), some (.int x1), some (.int x2), some (.int x3), some (.int x4), o5, o6] [] W Q) : rA ext X d 81 17 [some (.ref X.1), some (.int x1), some (.int x2), some (.int x3), some (.int x4), o5, o6] [] W Q := by
  intro S hS
  refine aw_ild j81_17 rfl ?_
  exact aw_if j81_18 (fun h => k_1 (of_decide_eq_true h) _ hS) (fun h => k_2 (of_decide_eq_false h) _ hS)
theorem br81_21 {x1 : Int32} {x2 : Int32} {x3 : Int32} {x4 : Int32} {o5 : Option Value} {o6 : Option Value} {i_1 : Nat} (e_2 : x4 = nI i_1) (c_3 : i_1 < 120) (k_4 : (¬ (W.1 7 i_1) = x1) → rA ext X d 81 36 [some (.ref X.1), some (.int x1), some (.int x2), some (.int x3), some (.int x4), o5, o6] [] W Q) (k_5 : ((W.1 7 i_1) = x1) → rA ext X d 81 32 [some (.ref X.1), some (.int x1), some (.int x2), some (.int x3), some (.int x4), o5, o6] [] W Q) : rA ext X d 81 21 [some (.ref X.1), some (.int x1), some (.int x2), some (.int x3), some (.int x4), o5, o6] [] W Q := by
  intro S hS
  refine aw_ald j81_21 rfl rfl ?_
  refine aw_get j81_22 hS.to (hS.fa 7 rfl) ?_
  refine aw_ild j81_25 rfl ?_
  refine aw_xld (n := 120) j81_27 (hS.ta 7 rfl) e_2 c_3 (by decide) (hS.g 7 i_1 rfl c_3) ?_
  refine aw_ild j81_28 rfl ?_
  exact aw_ic j81_29 (fun h => k_4 (of_decide_eq_true h) _ hS) (fun h => k_5 (Decidable.of_not_not (of_decide_eq_false h)) _ hS)
theorem br81_32 {x1 : Int32} {x2 : Int32} {x3 : Int32} {x4 : Int32} {o5 : Option Value} {o6 : Option Value}  (k_1 : rA ext X d 81 68 [some (.ref X.1), some (.int x1), some (.int x2), some (.int x3), some (.int x4), o5, o6] [.int (1 : Int32)] W Q) : rA ext X d 81 32 [some (.ref X.1), some (.int x1), some (.int x2), some (.int x3), some (.int x4), o5, o6] [] W Q := by
  intro S hS
  refine aw_con j81_32 ?_
  exact aw_goto j81_33 (k_1 _ hS)
theorem br81_36 {x1 : Int32} {x2 : Int32} {x3 : Int32} {x4 : Int32} {o5 : Option Value} {o6 : Option Value}  (k_1 : rA ext X d 81 68 [some (.ref X.1), some (.int x1), some (.int x2), some (.int x3), some (.int x4), o5, o6] [.int (0 : Int32)] W Q) : rA ext X d 81 36 [some (.ref X.1), some (.int x1), some (.int x2), some (.int x3), some (.int x4), o5, o6] [] W Q := by
  intro S hS
  refine aw_con j81_36 ?_
  exact aw_goto j81_37 (k_1 _ hS)
theorem br81_40 {x1 : Int32} {x2 : Int32} {x3 : Int32} {x4 : Int32} {o5 : Option Value} {o6 : Option Value} {i_1 : Nat} (e_2 : x4 = nI i_1) (c_3 : i_1 < 120) (k_4 : (0 ≤ (W.1 7 i_1)) → rA ext X d 81 67 [some (.ref X.1), some (.int x1), some (.int x2), some (.int x3), some (.int x4), o5, o6] [] W Q) (k_5 : (¬ (0 ≤ (W.1 7 i_1))) → rA ext X d 81 50 [some (.ref X.1), some (.int x1), some (.int x2), some (.int x3), some (.int x4), o5, o6] [] W Q) : rA ext X d 81 40 [some (.ref X.1), some (.int x1), some (.int x2), some (.int x3), some (.int x4), o5, o6] [] W Q := by
  intro S hS
  refine aw_ald j81_40 rfl rfl ?_
  refine aw_get j81_41 hS.to (hS.fa 7 rfl) ?_
  refine aw_ild j81_44 rfl ?_
  refine aw_xld (n := 120) j81_46 (hS.ta 7 rfl) e_2 c_3 (by decide) (hS.g 7 i_1 rfl c_3) ?_
  exact aw_if j81_47 (fun h => k_4 (of_decide_eq_true h) _ hS) (fun h => k_5 (of_decide_eq_false h) _ hS)
theorem br81_50 {x1 : Int32} {x2 : Int32} {x3 : Int32} {x4 : Int32} {o5 : Option Value} {o6 : Option Value} {i_1 : Nat} (e_2 : x4 = nI i_1) (c_3 : i_1 < 120) (k_4 : (¬ (W.1 6 i_1) = ((-1 : Int32) - x1)) → rA ext X d 81 67 [some (.ref X.1), some (.int x1), some (.int x2), some (.int x3), some (.int x4), o5, o6] [] W Q) (k_5 : ((W.1 6 i_1) = ((-1 : Int32) - x1)) → rA ext X d 81 63 [some (.ref X.1), some (.int x1), some (.int x2), some (.int x3), some (.int x4), o5, o6] [] W Q) : rA ext X d 81 50 [some (.ref X.1), some (.int x1), some (.int x2), some (.int x3), some (.int x4), o5, o6] [] W Q := by
  intro S hS
  refine aw_ald j81_50 rfl rfl ?_
  refine aw_get j81_51 hS.to (hS.fa 6 rfl) ?_
  refine aw_ild j81_54 rfl ?_
  refine aw_xld (n := 120) j81_56 (hS.ta 6 rfl) e_2 c_3 (by decide) (hS.g 6 i_1 rfl c_3) ?_
  refine aw_con j81_57 ?_
  refine aw_ild j81_58 rfl ?_
  refine aw_bin (z := ((-1 : Int32) - x1)) j81_59 rfl ?_
  exact aw_ic j81_60 (fun h => k_4 (of_decide_eq_true h) _ hS) (fun h => k_5 (Decidable.of_not_not (of_decide_eq_false h)) _ hS)
theorem br81_63 {x1 : Int32} {x2 : Int32} {x3 : Int32} {x4 : Int32} {o5 : Option Value} {o6 : Option Value}  (k_1 : rA ext X d 81 68 [some (.ref X.1), some (.int x1), some (.int x2), some (.int x3), some (.int x4), o5, o6] [.int (1 : Int32)] W Q) : rA ext X d 81 63 [some (.ref X.1), some (.int x1), some (.int x2), some (.int x3), some (.int x4), o5, o6] [] W Q := by
  intro S hS
  refine aw_con j81_63 ?_
  exact aw_goto j81_64 (k_1 _ hS)
theorem br81_67 {x1 : Int32} {x2 : Int32} {x3 : Int32} {x4 : Int32} {o5 : Option Value} {o6 : Option Value}  (k_1 : rA ext X d 81 68 [some (.ref X.1), some (.int x1), some (.int x2), some (.int x3), some (.int x4), o5, o6] [.int (0 : Int32)] W Q) : rA ext X d 81 67 [some (.ref X.1), some (.int x1), some (.int x2), some (.int x3), some (.int x4), o5, o6] [] W Q := by
  intro S hS
  refine aw_con j81_67 ?_
  exact k_1 _ hS
theorem br81_68 {x1 : Int32} {x2 : Int32} {x3 : Int32} {x4 : Int32} {o5 : Option Value} {o6 : Option Value} {xk0 : Int32}  (k_1 : (¬ xk0 = 0) → rA ext X d 81 78 [some (.ref X.1), some (.int x1), some (.int x2), some (.int x3), some (.int x4), some (.int xk0), o6] [] W Q) (k_2 : (xk0 = 0) → rA ext X d 81 75 [some (.ref X.1), some (.int x1), some (.int x2), some (.int x3), some (.int x4), some (.int xk0), o6] [] W Q) : rA ext X d 81 68 [some (.ref X.1), some (.int x1), some (.int x2), some (.int x3), some (.int x4), o5, o6] [.int xk0] W Q := by
  intro S hS
  refine aw_ist j81_68 (Nat.le_of_ble_eq_true rfl) ?_
  refine aw_ild j81_70 rfl ?_
  exact aw_if j81_72 (fun h => k_1 (of_decide_eq_true h) _ hS) (fun h => k_2 (Decidable.of_not_not (of_decide_eq_false h)) _ hS)
theorem br81_75 {x1 : Int32} {x2 : Int32} {x3 : Int32} {x4 : Int32} {x5 : Int32} {o6 : Option Value}  (k_1 : rA ext X d 81 179 [some (.ref X.1), some (.int x1), some (.int x2), some (.int x3), some (.int x4), some (.int x5), o6] [] W Q) : rA ext X d 81 75 [some (.ref X.1), some (.int x1), some (.int x2), some (.int x3), some (.int x4), some (.int x5), o6] [] W Q := by
  intro S hS
  exact aw_goto j81_75 (k_1 _ hS)
theorem br81_78 {x1 : Int32} {x2 : Int32} {x3 : Int32} {x4 : Int32} {x5 : Int32} {o6 : Option Value}  (k_1 : rA ext X d 81 84 [some (.ref X.1), some (.int x1), some (.int x2), some (.int x3), some (.int x4), some (.int x5), some (.int (W.2 17))] [] W Q) : rA ext X d 81 78 [some (.ref X.1), some (.int x1), some (.int x2), some (.int x3), some (.int x4), some (.int x5), o6] [] W Q := by
  intro S hS
  refine aw_ald j81_78 rfl rfl ?_
  refine aw_get j81_79 hS.to (hS.n 17 rfl) ?_
  refine aw_ist j81_82 (Nat.le_of_ble_eq_true rfl) ?_
  exact k_1 _ hS
theorem br81_84 {x1 : Int32} {x2 : Int32} {x3 : Int32} {x4 : Int32} {x5 : Int32} {x6 : Int32}  (k_1 : (x6 ≤ x3) → rA ext X d 81 152 [some (.ref X.1), some (.int x1), some (.int x2), some (.int x3), some (.int x4), some (.int x5), some (.int x6)] [] W Q) (k_2 : (¬ (x6 ≤ x3)) → rA ext X d 81 90 [some (.ref X.1), some (.int x1), some (.int x2), some (.int x3), some (.int x4), some (.int x5), some (.int x6)] [] W Q) : rA ext X d 81 84 [some (.ref X.1), some (.int x1), some (.int x2), some (.int x3), some (.int x4), some (.int x5), some (.int x6)] [] W Q := by
  intro S hS
  refine aw_ild j81_84 rfl ?_
  refine aw_ild j81_86 rfl ?_
  exact aw_ic j81_87 (fun h => k_1 (of_decide_eq_true h) _ hS) (fun h => k_2 (of_decide_eq_false h) _ hS)
theorem br81_90 {x1 : Int32} {x2 : Int32} {x3 : Int32} {x4 : Int32} {x5 : Int32} {x6 : Int32} {i_1 : Nat} {i_4 : Nat} {i_7 : Nat} (e_2 : (x6 - (1 : Int32)) = nI i_1) (c_3 : i_1 < 1000) (e_5 : (W.1 15 i_1) = nI i_4) (c_6 : i_4 < 120) (e_8 : x4 = nI i_7) (c_9 : i_7 < 120) (k_10 : ((W.1 8 i_7) < (W.1 8 i_4)) → rA ext X d 81 152 [some (.ref X.1), some (.int x1), some (.int x2), some (.int x3), some (.int x4), some (.int x5), some (.int x6)] [] W Q) (k_11 : (¬ ((W.1 8 i_7) < (W.1 8 i_4))) → rA ext X d 81 114 [some (.ref X.1), some (.int x1), some (.int x2), some (.int x3), some (.int x4), some (.int x5), some (.int x6)] [] W Q) : rA ext X d 81 90 [some (.ref X.1), some (.int x1), some (.int x2), some (.int x3), some (.int x4), some (.int x5), some (.int x6)] [] W Q := by
  intro S hS
  refine aw_ald j81_90 rfl rfl ?_
  refine aw_get j81_91 hS.to (hS.fa 8 rfl) ?_
  refine aw_ald j81_94 rfl rfl ?_
  refine aw_get j81_95 hS.to (hS.fa 15 rfl) ?_
  refine aw_ild j81_98 rfl ?_
  refine aw_con j81_100 ?_
  refine aw_bin (z := (x6 - (1 : Int32))) j81_101 rfl ?_
  refine aw_xld (n := 1000) j81_102 (hS.ta 15 rfl) e_2 c_3 (by decide) (hS.g 15 i_1 rfl c_3) ?_
  refine aw_xld (n := 120) j81_103 (hS.ta 8 rfl) e_5 c_6 (by decide) (hS.g 8 i_4 rfl c_6) ?_
  refine aw_ald j81_104 rfl rfl ?_
  refine aw_get j81_105 hS.to (hS.fa 8 rfl) ?_
  refine aw_ild j81_108 rfl ?_
  refine aw_xld (n := 120) j81_110 (hS.ta 8 rfl) e_8 c_9 (by decide) (hS.g 8 i_7 rfl c_9) ?_
  exact aw_ic j81_111 (fun h => k_10 (of_decide_eq_true h) _ hS) (fun h => k_11 (of_decide_eq_false h) _ hS)
theorem br81_114 {x1 : Int32} {x2 : Int32} {x3 : Int32} {x4 : Int32} {x5 : Int32} {x6 : Int32} {i_1 : Nat} {i_4 : Nat} {i_7 : Nat} {i_10 : Nat} (e_2 : (x6 - (1 : Int32)) = nI i_1) (c_3 : i_1 < 1000) (e_5 : x6 = nI i_4) (c_6 : i_4 < 1000) (e_8 : (x6 - (1 : Int32)) = nI i_7) (c_9 : i_7 < 1000) (e_11 : x6 = nI i_10) (c_12 : i_10 < 1000) (k_13 : rA ext X d 81 84 [some (.ref X.1), some (.int x1), some (.int x2), some (.int x3), some (.int x4), some (.int x5), some (.int (x6 + (-1)))] [] (gset (gset W 15 i_4 (W.1 15 i_1)) 16 i_10 ((gset W 15 i_4 (W.1 15 i_1)).1 16 i_7)) Q) : rA ext X d 81 114 [some (.ref X.1), some (.int x1), some (.int x2), some (.int x3), some (.int x4), some (.int x5), some (.int x6)] [] W Q := by
  intro S hS
  refine aw_ald j81_114 rfl rfl ?_
  refine aw_get j81_115 hS.to (hS.fa 15 rfl) ?_
  refine aw_ild j81_118 rfl ?_
  refine aw_ald j81_120 rfl rfl ?_
  refine aw_get j81_121 hS.to (hS.fa 15 rfl) ?_
  refine aw_ild j81_124 rfl ?_
  refine aw_con j81_126 ?_
  refine aw_bin (z := (x6 - (1 : Int32))) j81_127 rfl ?_
  refine aw_xld (n := 1000) j81_128 (hS.ta 15 rfl) e_2 c_3 (by decide) (hS.g 15 i_1 rfl c_3) ?_
  refine aw_xst (n := 1000) j81_129 (hS.ta 15 rfl) e_5 c_6 (by decide) ?_
  have hS := hS.seta 15 i_4 (W.1 15 i_1) rfl
  refine aw_ald j81_130 rfl rfl ?_
  refine aw_get j81_131 hS.to (hS.fa 16 rfl) ?_
  refine aw_ild j81_134 rfl ?_
  refine aw_ald j81_136 rfl rfl ?_
  refine aw_get j81_137 hS.to (hS.fa 16 rfl) ?_
  refine aw_ild j81_140 rfl ?_
  refine aw_con j81_142 ?_
  refine aw_bin (z := (x6 - (1 : Int32))) j81_143 rfl ?_
  refine aw_xld (n := 1000) j81_144 (hS.ta 16 rfl) e_8 c_9 (by decide) (hS.g 16 i_7 rfl c_9) ?_
  refine aw_xst (n := 1000) j81_145 (hS.ta 16 rfl) e_11 c_12 (by decide) ?_
  have hS := hS.seta 16 i_10 ((gset W 15 i_4 (W.1 15 i_1)).1 16 i_7) rfl
  refine aw_inc j81_146 rfl ?_
  exact aw_goto j81_149 (k_13 _ hS)
theorem br81_152 {x1 : Int32} {x2 : Int32} {x3 : Int32} {x4 : Int32} {x5 : Int32} {x6 : Int32} {i_1 : Nat} {i_4 : Nat} (e_2 : x6 = nI i_1) (c_3 : i_1 < 1000) (e_5 : x6 = nI i_4) (c_6 : i_4 < 1000) (k_7 : rA ext X d 81 179 [some (.ref X.1), some (.int x1), some (.int x2), some (.int x3), some (.int x4), some (.int x5), some (.int x6)] [] (hset (gset (gset W 15 i_1 x4) 16 i_4 x2) 17 (((gset (gset W 15 i_1 x4) 16 i_4 x2).2 17) + (1 : Int32))) Q) : rA ext X d 81 152 [some (.ref X.1), some (.int x1), some (.int x2), some (.int x3), some (.int x4), some (.int x5), some (.int x6)] [] W Q := by
  intro S hS
  refine aw_ald j81_152 rfl rfl ?_
  refine aw_get j81_153 hS.to (hS.fa 15 rfl) ?_
  refine aw_ild j81_156 rfl ?_
  refine aw_ild j81_158 rfl ?_
  refine aw_xst (n := 1000) j81_160 (hS.ta 15 rfl) e_2 c_3 (by decide) ?_
  have hS := hS.seta 15 i_1 x4 rfl
  refine aw_ald j81_161 rfl rfl ?_
  refine aw_get j81_162 hS.to (hS.fa 16 rfl) ?_
  refine aw_ild j81_165 rfl ?_
  refine aw_ild j81_167 rfl ?_
  refine aw_xst (n := 1000) j81_168 (hS.ta 16 rfl) e_5 c_6 (by decide) ?_
  have hS := hS.seta 16 i_4 x2 rfl
  refine aw_ald j81_169 rfl rfl ?_
  refine aw_dup j81_170 rfl ?_
  refine aw_get j81_171 hS.to (hS.n 17 rfl) ?_
  refine aw_con j81_174 ?_
  refine aw_bin (z := (((gset (gset W 15 i_1 x4) 16 i_4 x2).2 17) + (1 : Int32))) j81_175 rfl ?_
  refine aw_put j81_176 hS.to rfl ?_
  have hS := hS.seth 17 (((gset (gset W 15 i_1 x4) 16 i_4 x2).2 17) + (1 : Int32)) rfl
  exact k_7 _ hS
theorem br81_179 {x1 : Int32} {x2 : Int32} {x3 : Int32} {x4 : Int32} {x5 : Int32} {o6 : Option Value}  (k_1 : rA ext X d 81 8 [some (.ref X.1), some (.int x1), some (.int x2), some (.int x3), some (.int (x4 + 1)), some (.int x5), o6] [] W Q) : rA ext X d 81 179 [some (.ref X.1), some (.int x1), some (.int x2), some (.int x3), some (.int x4), some (.int x5), o6] [] W Q := by
  intro S hS
  refine aw_inc j81_179 rfl ?_
  exact aw_goto j81_182 (k_1 _ hS)
theorem br81_185 {x1 : Int32} {x2 : Int32} {x3 : Int32} {x4 : Int32} {o5 : Option Value} {o6 : Option Value}  (k_1 : Q none W) : rA ext X d 81 185 [some (.ref X.1), some (.int x1), some (.int x2), some (.int x3), some (.int x4), o5, o6] [] W Q := by
  intro S hS
  exact aw_vret j81_185 rt81 ⟨_, hS, k_1⟩
/-! Ref_depth -/
theorem br82_0 {x1 : Int32} {o2 : Option Value} {o3 : Option Value} {i_1 : Nat} (e_2 : x1 = nI i_1) (c_3 : i_1 < 120) (k_4 : rA ext X d 82 9 [some (.ref X.1), some (.int x1), some (.int (0 : Int32)), some (.int (W.1 7 i_1))] [] W Q) : rA ext X d 82 0 [some (.ref X.1), some (.int x1), o2, o3] [] W Q := by
  intro S hS
  refine aw_con j82_0 ?_
  refine aw_ist j82_1 (Nat.le_of_ble_eq_true rfl) ?_
  refine aw_ald j82_2 rfl rfl ?_
  refine aw_get j82_3 hS.to (hS.fa 7 rfl) ?_
  refine aw_ild j82_6 rfl ?_
  refine aw_xld (n := 120) j82_7 (hS.ta 7 rfl) e_2 c_3 (by decide) (hS.g 7 i_1 rfl c_3) ?_
  refine aw_ist j82_8 (Nat.le_of_ble_eq_true rfl) ?_
  exact k_4 _ hS
theorem br82_9 {x1 : Int32} {x2 : Int32} {x3 : Int32}  (k_1 : (x3 < 0) → rA ext X d 82 26 [some (.ref X.1), some (.int x1), some (.int x2), some (.int x3)] [] W Q) (k_2 : (¬ (x3 < 0)) → rA ext X d 82 13 [some (.ref X.1), some (.int x1), some (.int x2), some (.int x3)] [] W Q) : rA ext X d 82 9 [some (.ref X.1), some (.int x1), some (.int x2), some (.int x3)] [] W Q := by
  intro S hS
  refine aw_ild j82_9 rfl ?_
  exact aw_if j82_10 (fun h => k_1 (of_decide_eq_true h) _ hS) (fun h => k_2 (of_decide_eq_false h) _ hS)
theorem br82_13 {x1 : Int32} {x2 : Int32} {x3 : Int32} {i_1 : Nat} (e_2 : x3 = nI i_1) (c_3 : i_1 < 120) (k_4 : rA ext X d 82 9 [some (.ref X.1), some (.int x1), some (.int (x2 + 1)), some (.int (W.1 7 i_1))] [] W Q) : rA ext X d 82 13 [some (.ref X.1), some (.int x1), some (.int x2), some (.int x3)] [] W Q := by
  intro S hS
  refine aw_inc j82_13 rfl ?_
  refine aw_ald j82_16 rfl rfl ?_
  refine aw_get j82_17 hS.to (hS.fa 7 rfl) ?_
  refine aw_ild j82_20 rfl ?_
  refine aw_xld (n := 120) j82_21 (hS.ta 7 rfl) e_2 c_3 (by decide) (hS.g 7 i_1 rfl c_3) ?_
  refine aw_ist j82_22 (Nat.le_of_ble_eq_true rfl) ?_
  exact aw_goto j82_23 (k_4 _ hS)
theorem br82_26 {x1 : Int32} {x2 : Int32} {x3 : Int32}  (k_1 : Q (some (.int x2)) W) : rA ext X d 82 26 [some (.ref X.1), some (.int x1), some (.int x2), some (.int x3)] [] W Q := by
  intro S hS
  refine aw_ild j82_26 rfl ?_
  exact aw_ret j82_27 (by rw [rt82]; exact rfl) ⟨_, hS, k_1⟩
/-! Ref_read -/
theorem br83_0 {x1 : Int32} {P_1 : Int32 → rW → Prop} (m_4 : rCi ext X d 70 [.ref X.1, .int x1] (hset W 0 (0 : Int32)) P_1) (k_5 : ∀ v_3 W_2, P_1 v_3 W_2 → rA ext X (d + 1) 83 10 [some (.ref X.1), some (.int x1)] [.int v_3] W_2 Q) : rA ext X (d + 1) 83 0 [some (.ref X.1), some (.int x1)] [] W Q := by
  intro S hS
  refine aw_ald j83_0 rfl rfl ?_
  refine aw_con j83_1 ?_
  refine aw_put j83_2 hS.to rfl ?_
  have hS := hS.seth 0 (0 : Int32) rfl
  refine aw_ald j83_5 rfl rfl ?_
  refine aw_ild j83_6 rfl ?_
  refine aw_calli (as := [.ref X.1, .int x1]) j83_7 rfl rfl (Nat.le_of_ble_eq_true rfl) cy70.1 cy70.2 (cs_cons rfl (cs_cons rfl cs_nil)) (decide_eq_true hS.to) (m_4 _ hS) (fun v1 S1 h1 => ?_)
  obtain ⟨W1, h1, h2⟩ := h1
  exact k_5 v1 W1 h2 S1 h1
theorem br83_10 {x1 : Int32} {xk0 : Int32}  (k_1 : (¬ xk0 = 0) → rA ext X d 83 15 [some (.ref X.1), some (.int x1)] [] W Q) (k_2 : (xk0 = 0) → rA ext X d 83 13 [some (.ref X.1), some (.int x1)] [] W Q) : rA ext X d 83 10 [some (.ref X.1), some (.int x1)] [.int xk0] W Q := by
  intro S hS
  exact aw_if j83_10 (fun h => k_1 (of_decide_eq_true h) _ hS) (fun h => k_2 (Decidable.of_not_not (of_decide_eq_false h)) _ hS)
theorem br83_13 {x1 : Int32}  (k_1 : Q (some (.int (-1 : Int32))) W) : rA ext X d 83 13 [some (.ref X.1), some (.int x1)] [] W Q := by
  intro S hS
  refine aw_con j83_13 ?_
  exact aw_ret j83_14 (by rw [rt83]; exact rfl) ⟨_, hS, k_1⟩
theorem br83_15 {x1 : Int32} {P_1 : Int32 → rW → Prop} (m_4 : rCi ext X d 84 [.ref X.1, .int x1, .ref (X.2.1 26)] W P_1) (k_5 : ∀ v_3 W_2, P_1 v_3 W_2 → rA ext X (d + 1) 83 25 [some (.ref X.1), some (.int x1)] [.int v_3, .ref X.1] W_2 Q) : rA ext X (d + 1) 83 15 [some (.ref X.1), some (.int x1)] [] W Q := by
  intro S hS
  refine aw_ald j83_15 rfl rfl ?_
  refine aw_ald j83_16 rfl rfl ?_
  refine aw_ild j83_17 rfl ?_
  refine aw_ald j83_18 rfl rfl ?_
  refine aw_get j83_19 hS.to (hS.fa 26 rfl) ?_
  refine aw_calli (as := [.ref X.1, .int x1, .ref (X.2.1 26)]) j83_22 rfl rfl (Nat.le_of_ble_eq_true rfl) cy84.1 cy84.2 (cs_cons rfl (cs_cons rfl (cs_cons rfl cs_nil))) (decide_eq_true hS.to) (m_4 _ hS) (fun v1 S1 h1 => ?_)
  obtain ⟨W1, h1, h2⟩ := h1
  exact k_5 v1 W1 h2 S1 h1
theorem br83_25 {x1 : Int32} {xk1 : Int32}  (k_1 : Q (some (.int ((hset W 25 xk1).2 25))) (hset W 25 xk1)) : rA ext X d 83 25 [some (.ref X.1), some (.int x1)] [.int xk1, .ref X.1] W Q := by
  intro S hS
  refine aw_put j83_25 hS.to rfl ?_
  have hS := hS.seth 25 xk1 rfl
  refine aw_ald j83_28 rfl rfl ?_
  refine aw_get j83_29 hS.to (hS.n 25 rfl) ?_
  exact aw_ret j83_32 (by rw [rt83]; exact rfl) ⟨_, hS, k_1⟩
end
