section
variable {ext : av_X} {d : Nat} {S : av_St} {Q : Option Value → av_St → Prop}
/-! Search_init -/
theorem bk24_0 {a0 : Nat}  (k_1 : aw ext (d + 1) 24 4 [some (.ref a0)] [] S Q) : aw ext (d + 1) 24 0 [some (.ref a0)] [] S Q := by
  refine aw_ald j24_0 rfl rfl ?_
  exact aw_obj j24_1 (Nat.le_of_ble_eq_true rfl) k_1
theorem bk24_4 {r0 : Option Nat}  (k_1 : aw ext d 24 10 [some (va_rf r0)] [.ref S.2.2.1, va_rf r0] (av_new S (.inr (7, 120)) (fun _ => .null) 120) Q) : aw ext d 24 4 [some (va_rf r0)] [] S Q := by
  refine aw_ald j24_4 rfl (av_isR_rf r0) ?_
  refine aw_con j24_5 ?_
  refine aw_newr (n := 120) j24_7 (by decide) (by decide) ?_
  exact k_1
theorem bk24_10 {r0 : Option Nat} {ak0 : Nat} {rk1 : Option Nat} (t_1 : S.1 ak0 = some (.inl 1)) (k_2 : aw ext d 24 18 [some (va_rf r0)] [.ref (av_set S ak0 0 (va_rf rk1)).2.2.1, va_rf r0] (av_new (av_set S ak0 0 (va_rf rk1)) (.inr (2, 120)) (fun _ => defaultValue (sm_aT 2)) 120) Q) : aw ext d 24 10 [some (va_rf r0)] [va_rf rk1, .ref ak0] S Q := by
  refine aw_put j24_10 t_1 (av_fa_rf _ rk1) ?_
  refine aw_ald j24_13 rfl (av_isR_rf r0) ?_
  refine aw_con j24_14 ?_
  refine aw_newa (n := 120) j24_16 (by decide) (by decide) ?_
  exact k_2
theorem bk24_18 {a0 : Nat} {ak0 : Nat} {rk1 : Option Nat} (t_1 : S.1 ak0 = some (.inl 1)) (t_2 : (av_set S ak0 1 (va_rf rk1)).1 a0 = some (.inl 1)) (k_3 : Q none (av_set (av_set S ak0 1 (va_rf rk1)) a0 2 (.int (0 : Int32)))) : aw ext d 24 18 [some (.ref a0)] [va_rf rk1, .ref ak0] S Q := by
  refine aw_put j24_18 t_1 (av_fa_rf _ rk1) ?_
  refine aw_ald j24_21 rfl rfl ?_
  refine aw_con j24_22 ?_
  refine aw_put j24_23 t_2 rfl ?_
  exact aw_vret j24_26 rt24 k_3
/-! Search_comesTo -/
theorem bk25_0 {a0 : Nat} {r1 : Option Nat} {r2 : Option Nat} {o3 : Option Value} {o4 : Option Value} {P_1 : av_St → Prop} (t_4 : S.1 a0 = some (.inl 1)) (m_5 : ctv ext d 26 [.ref a0] S P_1) (k_6 : ∀ S_2, P_1 S_2 → aw ext (d + 1) 25 4 [some (.ref a0), some (va_rf r1), some (va_rf r2), o3, o4] [] S_2 Q) : aw ext (d + 1) 25 0 [some (.ref a0), some (va_rf r1), some (va_rf r2), o3, o4] [] S Q := by
  refine aw_ald j25_0 rfl rfl ?_
  exact aw_callv (as := [.ref a0]) j25_1 rfl rfl (Nat.le_of_ble_eq_true rfl) cy26.1 cy26.2 (cs_cons rfl cs_nil) (decide_eq_true t_4) m_5 k_6
theorem bk25_4 {a0 : Nat} {r1 : Option Nat} {r2 : Option Nat} {o3 : Option Value} {o4 : Option Value} {P_1 : av_St → Prop} (t_4 : S.1 a0 = some (.inl 1)) (m_5 : ctv ext d 27 [.ref a0, va_rf r1] S P_1) (k_6 : ∀ S_2, P_1 S_2 → aw ext (d + 1) 25 9 [some (.ref a0), some (va_rf r1), some (va_rf r2), o3, o4] [] S_2 Q) : aw ext (d + 1) 25 4 [some (.ref a0), some (va_rf r1), some (va_rf r2), o3, o4] [] S Q := by
  refine aw_ald j25_4 rfl rfl ?_
  refine aw_ald j25_5 rfl (av_isR_rf r1) ?_
  exact aw_callv (as := [.ref a0, va_rf r1]) j25_6 rfl rfl (Nat.le_of_ble_eq_true rfl) cy27.1 cy27.2 (cs_cons rfl (cs_cons (av_cat_rf r1) cs_nil)) (decide_eq_true t_4) m_5 k_6
theorem bk25_9 {r0 : Option Nat} {r1 : Option Nat} {r2 : Option Nat} {o3 : Option Value} {o4 : Option Value}  (k_1 : aw ext d 25 11 [some (va_rf r0), some (va_rf r1), some (va_rf r2), some (.int (0 : Int32)), o4] [] S Q) : aw ext d 25 9 [some (va_rf r0), some (va_rf r1), some (va_rf r2), o3, o4] [] S Q := by
  refine aw_con j25_9 ?_
  refine aw_ist j25_10 (Nat.le_of_ble_eq_true rfl) ?_
  exact k_1
theorem bk25_11 {r0 : Option Nat} {r1 : Option Nat} {r2 : Option Nat} {x3 : Int32} {o4 : Option Value}  (k_1 : ((120 : Int32) ≤ x3) → aw ext d 25 53 [some (va_rf r0), some (va_rf r1), some (va_rf r2), some (.int x3), o4] [] S Q) (k_2 : (¬ ((120 : Int32) ≤ x3)) → aw ext d 25 17 [some (va_rf r0), some (va_rf r1), some (va_rf r2), some (.int x3), o4] [] S Q) : aw ext d 25 11 [some (va_rf r0), some (va_rf r1), some (va_rf r2), some (.int x3), o4] [] S Q := by
  refine aw_ild j25_11 rfl ?_
  refine aw_con j25_12 ?_
  exact aw_ic j25_14 (fun h => k_1 (of_decide_eq_true h)) (fun h => k_2 (of_decide_eq_false h))
theorem bk25_17 {a0 : Nat} {r1 : Option Nat} {r2 : Option Nat} {x3 : Int32} {o4 : Option Value} {y2 : Int32} (t_1 : S.1 a0 = some (.inl 1)) (f_3 : S.2.1 a0 2 = .int y2) (k_4 : (y2 ≤ x3) → aw ext d 25 53 [some (.ref a0), some (va_rf r1), some (va_rf r2), some (.int x3), o4] [] S Q) (k_5 : (¬ (y2 ≤ x3)) → aw ext d 25 25 [some (.ref a0), some (va_rf r1), some (va_rf r2), some (.int x3), o4] [] S Q) : aw ext d 25 17 [some (.ref a0), some (va_rf r1), some (va_rf r2), some (.int x3), o4] [] S Q := by
  refine aw_ild j25_17 rfl ?_
  refine aw_ald j25_18 rfl rfl ?_
  refine aw_get j25_19 t_1 f_3 ?_
  exact aw_ic j25_22 (fun h => k_4 (of_decide_eq_true h)) (fun h => k_5 (of_decide_eq_false h))
theorem bk25_25 {a0 : Nat} {r1 : Option Nat} {r2 : Option Nat} {x3 : Int32} {o4 : Option Value} {b2 : Nat} {n_4 : Nat} {i_7 : Nat} {q10 : Option Nat} (t_1 : S.1 a0 = some (.inl 1)) (f_3 : S.2.1 a0 0 = .ref b2) (t_5 : S.1 b2 = some (.inr (7, n_4))) (b_6 : n_4 < 2147483648) (e_8 : x3 = nI i_7) (c_9 : i_7 < n_4) (f_11 : S.2.1 b2 i_7 = va_rf q10) (k_12 : ¬ q10 = r2 → aw ext d 25 41 [some (.ref a0), some (va_rf r1), some (va_rf r2), some (.int x3), some (va_rf q10)] [] S Q) (k_13 : q10 = r2 → aw ext d 25 39 [some (.ref a0), some (va_rf r1), some (va_rf r2), some (.int x3), some (va_rf q10)] [] S Q) : aw ext d 25 25 [some (.ref a0), some (va_rf r1), some (va_rf r2), some (.int x3), o4] [] S Q := by
  refine aw_ald j25_25 rfl rfl ?_
  refine aw_get j25_26 t_1 f_3 ?_
  refine aw_ild j25_29 rfl ?_
  refine aw_xld j25_30 t_5 e_8 c_9 b_6 f_11 ?_
  refine aw_ast j25_31 (av_isR_rf q10) (Nat.le_of_ble_eq_true rfl) ?_
  refine aw_ald j25_33 rfl (av_isR_rf q10) ?_
  refine aw_ald j25_35 rfl (av_isR_rf r2) ?_
  exact aw_ac (r1 := q10) (r2 := r2) j25_36 (fun h => k_12 (by simpa using h)) (fun h => k_13 (by simpa using h))
theorem bk25_39 {r0 : Option Nat} {r1 : Option Nat} {r2 : Option Nat} {x3 : Int32} {r4 : Option Nat}  (k_1 : Q (some (.int (1 : Int32))) S) : aw ext d 25 39 [some (va_rf r0), some (va_rf r1), some (va_rf r2), some (.int x3), some (va_rf r4)] [] S Q := by
  refine aw_con j25_39 ?_
  exact aw_ret j25_40 (by rw [rt25]; exact rfl) k_1
theorem bk25_41 {a0 : Nat} {r1 : Option Nat} {r2 : Option Nat} {x3 : Int32} {r4 : Option Nat} {P_1 : av_St → Prop} (t_4 : S.1 a0 = some (.inl 1)) (m_5 : ctv ext d 28 [.ref a0, va_rf r4] S P_1) (k_6 : ∀ S_2, P_1 S_2 → aw ext (d + 1) 25 47 [some (.ref a0), some (va_rf r1), some (va_rf r2), some (.int x3), some (va_rf r4)] [] S_2 Q) : aw ext (d + 1) 25 41 [some (.ref a0), some (va_rf r1), some (va_rf r2), some (.int x3), some (va_rf r4)] [] S Q := by
  refine aw_ald j25_41 rfl rfl ?_
  refine aw_ald j25_42 rfl (av_isR_rf r4) ?_
  exact aw_callv (as := [.ref a0, va_rf r4]) j25_44 rfl rfl (Nat.le_of_ble_eq_true rfl) cy28.1 cy28.2 (cs_cons rfl (cs_cons (av_cat_rf r4) cs_nil)) (decide_eq_true t_4) m_5 k_6
theorem bk25_47 {r0 : Option Nat} {r1 : Option Nat} {r2 : Option Nat} {x3 : Int32} {r4 : Option Nat}  (k_1 : aw ext d 25 11 [some (va_rf r0), some (va_rf r1), some (va_rf r2), some (.int (x3 + 1)), some (va_rf r4)] [] S Q) : aw ext d 25 47 [some (va_rf r0), some (va_rf r1), some (va_rf r2), some (.int x3), some (va_rf r4)] [] S Q := by
  refine aw_inc j25_47 rfl ?_
  exact aw_goto j25_50 k_1
theorem bk25_53 {r0 : Option Nat} {r1 : Option Nat} {r2 : Option Nat} {x3 : Int32} {o4 : Option Value}  (k_1 : Q (some (.int (0 : Int32))) S) : aw ext d 25 53 [some (va_rf r0), some (va_rf r1), some (va_rf r2), some (.int x3), o4] [] S Q := by
  refine aw_con j25_53 ?_
  exact aw_ret j25_54 (by rw [rt25]; exact rfl) k_1
/-! Search_forget -/
theorem bk26_0 {r0 : Option Nat} {o1 : Option Value}  (k_1 : aw ext d 26 2 [some (va_rf r0), some (.int (0 : Int32))] [] S Q) : aw ext d 26 0 [some (va_rf r0), o1] [] S Q := by
  refine aw_con j26_0 ?_
  refine aw_ist j26_1 (Nat.le_of_ble_eq_true rfl) ?_
  exact k_1
theorem bk26_2 {a0 : Nat} {x1 : Int32} {b2 : Nat} {n_4 : Nat} (t_1 : S.1 a0 = some (.inl 1)) (f_3 : S.2.1 a0 1 = .ref b2) (t_5 : S.1 b2 = some (.inr (2, n_4))) (b_6 : n_4 < 2147483648) (k_7 : ((nI n_4) ≤ x1) → aw ext d 26 24 [some (.ref a0), some (.int x1)] [] S Q) (k_8 : (¬ ((nI n_4) ≤ x1)) → aw ext d 26 11 [some (.ref a0), some (.int x1)] [] S Q) : aw ext d 26 2 [some (.ref a0), some (.int x1)] [] S Q := by
  refine aw_ild j26_2 rfl ?_
  refine aw_ald j26_3 rfl rfl ?_
  refine aw_get j26_4 t_1 f_3 ?_
  refine aw_len j26_7 t_5 ?_
  exact aw_ic j26_8 (fun h => k_7 (of_decide_eq_true h)) (fun h => k_8 (of_decide_eq_false h))
theorem bk26_11 {a0 : Nat} {x1 : Int32} {b2 : Nat} {n_4 : Nat} {i_7 : Nat} (t_1 : S.1 a0 = some (.inl 1)) (f_3 : S.2.1 a0 1 = .ref b2) (t_5 : S.1 b2 = some (.inr (2, n_4))) (b_6 : n_4 < 2147483648) (e_8 : x1 = nI i_7) (c_9 : i_7 < n_4) (k_10 : aw ext d 26 2 [some (.ref a0), some (.int (x1 + 1))] [] (av_set S b2 i_7 (narrow .boolean (.int (0 : Int32)))) Q) : aw ext d 26 11 [some (.ref a0), some (.int x1)] [] S Q := by
  refine aw_ald j26_11 rfl rfl ?_
  refine aw_get j26_12 t_1 f_3 ?_
  refine aw_ild j26_15 rfl ?_
  refine aw_con j26_16 ?_
  refine aw_xst j26_17 t_5 e_8 c_9 b_6 ?_
  refine aw_inc j26_18 rfl ?_
  exact aw_goto j26_21 k_10
theorem bk26_24 {a0 : Nat} {x1 : Int32} (t_1 : S.1 a0 = some (.inl 1)) (k_2 : Q none (av_set S a0 2 (.int (0 : Int32)))) : aw ext d 26 24 [some (.ref a0), some (.int x1)] [] S Q := by
  refine aw_ald j26_24 rfl rfl ?_
  refine aw_con j26_25 ?_
  refine aw_put j26_26 t_1 rfl ?_
  exact aw_vret j26_29 rt26 k_2
/-! Search_add -/
theorem bk27_0 {r0 : Option Nat} {r1 : Option Nat}  (k_2 : r1 = none → aw ext d 27 23 [some (va_rf r0), some (va_rf r1)] [] S Q) (k_3 : ∀ c_1, r1 = some c_1 → aw ext d 27 4 [some (va_rf r0), some (va_rf r1)] [] S Q) : aw ext d 27 0 [some (va_rf r0), some (va_rf r1)] [] S Q := by
  refine aw_ald j27_0 rfl (av_isR_rf r1) ?_
  exact aw_null (r := r1) j27_1 k_2 k_3
theorem bk27_4 {r0 : Option Nat} {a1 : Nat} {y2 : Int32} (t_1 : S.1 a1 = some (.inl 8)) (f_3 : S.2.1 a1 0 = .int y2) (k_4 : (y2 < 0) → aw ext d 27 23 [some (va_rf r0), some (.ref a1)] [] S Q) (k_5 : (¬ (y2 < 0)) → aw ext d 27 11 [some (va_rf r0), some (.ref a1)] [] S Q) : aw ext d 27 4 [some (va_rf r0), some (.ref a1)] [] S Q := by
  refine aw_ald j27_4 rfl rfl ?_
  refine aw_get j27_5 t_1 f_3 ?_
  exact aw_if j27_8 (fun h => k_4 (of_decide_eq_true h)) (fun h => k_5 (of_decide_eq_false h))
theorem bk27_11 {a0 : Nat} {a1 : Nat} {y2 : Int32} {b5 : Nat} {n_7 : Nat} (t_1 : S.1 a1 = some (.inl 8)) (f_3 : S.2.1 a1 0 = .int y2) (t_4 : S.1 a0 = some (.inl 1)) (f_6 : S.2.1 a0 1 = .ref b5) (t_8 : S.1 b5 = some (.inr (2, n_7))) (b_9 : n_7 < 2147483648) (k_10 : (y2 < (nI n_7)) → aw ext d 27 24 [some (.ref a0), some (.ref a1)] [] S Q) (k_11 : (¬ (y2 < (nI n_7))) → aw ext d 27 23 [some (.ref a0), some (.ref a1)] [] S Q) : aw ext d 27 11 [some (.ref a0), some (.ref a1)] [] S Q := by
  refine aw_ald j27_11 rfl rfl ?_
  refine aw_get j27_12 t_1 f_3 ?_
  refine aw_ald j27_15 rfl rfl ?_
  refine aw_get j27_16 t_4 f_6 ?_
  refine aw_len j27_19 t_8 ?_
  exact aw_ic j27_20 (fun h => k_10 (of_decide_eq_true h)) (fun h => k_11 (of_decide_eq_false h))
theorem bk27_23 {r0 : Option Nat} {r1 : Option Nat}  (k_1 : Q none S) : aw ext d 27 23 [some (va_rf r0), some (va_rf r1)] [] S Q := by
  exact aw_vret j27_23 rt27 k_1
theorem bk27_24 {a0 : Nat} {a1 : Nat} {b2 : Nat} {y5 : Int32} {n_7 : Nat} {i_10 : Nat} {y13 : Int32} (t_1 : S.1 a0 = some (.inl 1)) (f_3 : S.2.1 a0 1 = .ref b2) (t_4 : S.1 a1 = some (.inl 8)) (f_6 : S.2.1 a1 0 = .int y5) (t_8 : S.1 b2 = some (.inr (2, n_7))) (b_9 : n_7 < 2147483648) (e_11 : y5 = nI i_10) (c_12 : i_10 < n_7) (f_14 : S.2.1 b2 i_10 = .int y13) (k_15 : (¬ y13 = 0) → aw ext d 27 48 [some (.ref a0), some (.ref a1)] [] S Q) (k_16 : (y13 = 0) → aw ext d 27 36 [some (.ref a0), some (.ref a1)] [] S Q) : aw ext d 27 24 [some (.ref a0), some (.ref a1)] [] S Q := by
  refine aw_ald j27_24 rfl rfl ?_
  refine aw_get j27_25 t_1 f_3 ?_
  refine aw_ald j27_28 rfl rfl ?_
  refine aw_get j27_29 t_4 f_6 ?_
  refine aw_xld j27_32 t_8 e_11 c_12 b_9 f_14 ?_
  exact aw_if j27_33 (fun h => k_15 (of_decide_eq_true h)) (fun h => k_16 (Decidable.of_not_not (of_decide_eq_false h)))
theorem bk27_36 {a0 : Nat} {r1 : Option Nat} {y2 : Int32} {b4 : Nat} {n_6 : Nat} (t_1 : S.1 a0 = some (.inl 1)) (f_3 : S.2.1 a0 2 = .int y2) (f_5 : S.2.1 a0 0 = .ref b4) (t_7 : S.1 b4 = some (.inr (7, n_6))) (b_8 : n_6 < 2147483648) (k_9 : (y2 < (nI n_6)) → aw ext d 27 49 [some (.ref a0), some (va_rf r1)] [] S Q) (k_10 : (¬ (y2 < (nI n_6))) → aw ext d 27 48 [some (.ref a0), some (va_rf r1)] [] S Q) : aw ext d 27 36 [some (.ref a0), some (va_rf r1)] [] S Q := by
  refine aw_ald j27_36 rfl rfl ?_
  refine aw_get j27_37 t_1 f_3 ?_
  refine aw_ald j27_40 rfl rfl ?_
  refine aw_get j27_41 t_1 f_5 ?_
  refine aw_len j27_44 t_7 ?_
  exact aw_ic j27_45 (fun h => k_9 (of_decide_eq_true h)) (fun h => k_10 (of_decide_eq_false h))
theorem bk27_48 {r0 : Option Nat} {r1 : Option Nat}  (k_1 : Q none S) : aw ext d 27 48 [some (va_rf r0), some (va_rf r1)] [] S Q := by
  exact aw_vret j27_48 rt27 k_1
theorem bk27_49 {a0 : Nat} {a1 : Nat} {b2 : Nat} {y5 : Int32} {n_7 : Nat} {i_10 : Nat} {b13 : Nat} {y15 : Int32} {n_17 : Nat} {i_20 : Nat} {y25 : Int32} (t_1 : S.1 a0 = some (.inl 1)) (f_3 : S.2.1 a0 1 = .ref b2) (t_4 : S.1 a1 = some (.inl 8)) (f_6 : S.2.1 a1 0 = .int y5) (t_8 : S.1 b2 = some (.inr (2, n_7))) (b_9 : n_7 < 2147483648) (e_11 : y5 = nI i_10) (c_12 : i_10 < n_7) (f_14 : (av_set S b2 i_10 (narrow .boolean (.int (1 : Int32)))).2.1 a0 0 = .ref b13) (f_16 : (av_set S b2 i_10 (narrow .boolean (.int (1 : Int32)))).2.1 a0 2 = .int y15) (t_18 : (av_set S b2 i_10 (narrow .boolean (.int (1 : Int32)))).1 b13 = some (.inr (7, n_17))) (b_19 : n_17 < 2147483648) (e_21 : y15 = nI i_20) (c_22 : i_20 < n_17) (t_24 : ∀ w_23, (some a1) = some w_23 → (av_set S b2 i_10 (narrow .boolean (.int (1 : Int32)))).1 w_23 = some (.inl 8)) (f_26 : (av_set (av_set S b2 i_10 (narrow .boolean (.int (1 : Int32)))) b13 i_20 (.ref a1)).2.1 a0 2 = .int y25) (k_27 : Q none (av_set (av_set (av_set S b2 i_10 (narrow .boolean (.int (1 : Int32)))) b13 i_20 (.ref a1)) a0 2 (.int (y25 + (1 : Int32))))) : aw ext d 27 49 [some (.ref a0), some (.ref a1)] [] S Q := by
  refine aw_ald j27_49 rfl rfl ?_
  refine aw_get j27_50 t_1 f_3 ?_
  refine aw_ald j27_53 rfl rfl ?_
  refine aw_get j27_54 t_4 f_6 ?_
  refine aw_con j27_57 ?_
  refine aw_xst j27_58 t_8 e_11 c_12 b_9 ?_
  refine aw_ald j27_59 rfl rfl ?_
  refine aw_get j27_60 t_1 f_14 ?_
  refine aw_ald j27_63 rfl rfl ?_
  refine aw_get j27_64 t_1 f_16 ?_
  refine aw_ald j27_67 rfl rfl ?_
  refine aw_ast2 (r := (some a1)) j27_68 t_18 e_21 c_22 b_19 t_24 ?_
  refine aw_ald j27_69 rfl rfl ?_
  refine aw_dup j27_70 rfl ?_
  refine aw_get j27_71 t_1 f_26 ?_
  refine aw_con j27_74 ?_
  refine aw_bin (z := (y25 + (1 : Int32))) j27_75 rfl ?_
  refine aw_put j27_76 t_1 rfl ?_
  exact aw_vret j27_79 rt27 k_27
/-! Search_addBehind -/
theorem bk28_0 {r0 : Option Nat} {r1 : Option Nat} {o2 : Option Value} {o3 : Option Value}  (k_2 : r1 = none → aw ext d 28 4 [some (va_rf r0), some (va_rf r1), o2, o3] [] S Q) (k_3 : ∀ c_1, r1 = some c_1 → aw ext d 28 5 [some (va_rf r0), some (va_rf r1), o2, o3] [] S Q) : aw ext d 28 0 [some (va_rf r0), some (va_rf r1), o2, o3] [] S Q := by
  refine aw_ald j28_0 rfl (av_isR_rf r1) ?_
  exact aw_nonn (r := r1) j28_1 k_2 k_3
theorem bk28_4 {r0 : Option Nat} {r1 : Option Nat} {o2 : Option Value} {o3 : Option Value}  (k_1 : Q none S) : aw ext d 28 4 [some (va_rf r0), some (va_rf r1), o2, o3] [] S Q := by
  exact aw_vret j28_4 rt28 k_1
theorem bk28_5 {a0 : Nat} {a1 : Nat} {o2 : Option Value} {o3 : Option Value} {q2 : Option Nat} {P_4 : av_St → Prop} (t_1 : S.1 a1 = some (.inl 8)) (f_3 : S.2.1 a1 9 = va_rf q2) (t_7 : S.1 a0 = some (.inl 1)) (m_8 : ctv ext d 27 [.ref a0, va_rf q2] S P_4) (k_9 : ∀ S_5, P_4 S_5 → aw ext (d + 1) 28 13 [some (.ref a0), some (.ref a1), o2, o3] [] S_5 Q) : aw ext (d + 1) 28 5 [some (.ref a0), some (.ref a1), o2, o3] [] S Q := by
  refine aw_ald j28_5 rfl rfl ?_
  refine aw_ald j28_6 rfl rfl ?_
  refine aw_get j28_7 t_1 f_3 ?_
  exact aw_callv (as := [.ref a0, va_rf q2]) j28_10 rfl rfl (Nat.le_of_ble_eq_true rfl) cy27.1 cy27.2 (cs_cons rfl (cs_cons (av_cat_rf q2) cs_nil)) (decide_eq_true t_7) m_8 k_9
theorem bk28_13 {r0 : Option Nat} {a1 : Nat} {o2 : Option Value} {o3 : Option Value} {q2 : Option Nat} (t_1 : S.1 a1 = some (.inl 8)) (f_3 : S.2.1 a1 7 = va_rf q2) (k_4 : aw ext d 28 20 [some (va_rf r0), some (.ref a1), some (va_rf q2), some (.int (0 : Int32))] [] S Q) : aw ext d 28 13 [some (va_rf r0), some (.ref a1), o2, o3] [] S Q := by
  refine aw_ald j28_13 rfl rfl ?_
  refine aw_get j28_14 t_1 f_3 ?_
  refine aw_ast j28_17 (av_isR_rf q2) (Nat.le_of_ble_eq_true rfl) ?_
  refine aw_con j28_18 ?_
  refine aw_ist j28_19 (Nat.le_of_ble_eq_true rfl) ?_
  exact k_4
theorem bk28_20 {r0 : Option Nat} {r1 : Option Nat} {r2 : Option Nat} {x3 : Int32}  (k_1 : ((120 : Int32) ≤ x3) → aw ext d 28 46 [some (va_rf r0), some (va_rf r1), some (va_rf r2), some (.int x3)] [] S Q) (k_2 : (¬ ((120 : Int32) ≤ x3)) → aw ext d 28 26 [some (va_rf r0), some (va_rf r1), some (va_rf r2), some (.int x3)] [] S Q) : aw ext d 28 20 [some (va_rf r0), some (va_rf r1), some (va_rf r2), some (.int x3)] [] S Q := by
  refine aw_ild j28_20 rfl ?_
  refine aw_con j28_21 ?_
  exact aw_ic j28_23 (fun h => k_1 (of_decide_eq_true h)) (fun h => k_2 (of_decide_eq_false h))
theorem bk28_26 {r0 : Option Nat} {r1 : Option Nat} {r2 : Option Nat} {x3 : Int32}  (k_2 : r2 = none → aw ext d 28 46 [some (va_rf r0), some (va_rf r1), some (va_rf r2), some (.int x3)] [] S Q) (k_3 : ∀ c_1, r2 = some c_1 → aw ext d 28 30 [some (va_rf r0), some (va_rf r1), some (va_rf r2), some (.int x3)] [] S Q) : aw ext d 28 26 [some (va_rf r0), some (va_rf r1), some (va_rf r2), some (.int x3)] [] S Q := by
  refine aw_ald j28_26 rfl (av_isR_rf r2) ?_
  exact aw_null (r := r2) j28_27 k_2 k_3
theorem bk28_30 {a0 : Nat} {r1 : Option Nat} {r2 : Option Nat} {x3 : Int32} {P_1 : av_St → Prop} (t_4 : S.1 a0 = some (.inl 1)) (m_5 : ctv ext d 27 [.ref a0, va_rf r2] S P_1) (k_6 : ∀ S_2, P_1 S_2 → aw ext (d + 1) 28 35 [some (.ref a0), some (va_rf r1), some (va_rf r2), some (.int x3)] [] S_2 Q) : aw ext (d + 1) 28 30 [some (.ref a0), some (va_rf r1), some (va_rf r2), some (.int x3)] [] S Q := by
  refine aw_ald j28_30 rfl rfl ?_
  refine aw_ald j28_31 rfl (av_isR_rf r2) ?_
  exact aw_callv (as := [.ref a0, va_rf r2]) j28_32 rfl rfl (Nat.le_of_ble_eq_true rfl) cy27.1 cy27.2 (cs_cons rfl (cs_cons (av_cat_rf r2) cs_nil)) (decide_eq_true t_4) m_5 k_6
theorem bk28_35 {r0 : Option Nat} {r1 : Option Nat} {a2 : Nat} {x3 : Int32} {q2 : Option Nat} (t_1 : S.1 a2 = some (.inl 8)) (f_3 : S.2.1 a2 8 = va_rf q2) (k_4 : aw ext d 28 20 [some (va_rf r0), some (va_rf r1), some (va_rf q2), some (.int (x3 + 1))] [] S Q) : aw ext d 28 35 [some (va_rf r0), some (va_rf r1), some (.ref a2), some (.int x3)] [] S Q := by
  refine aw_ald j28_35 rfl rfl ?_
  refine aw_get j28_36 t_1 f_3 ?_
  refine aw_ast j28_39 (av_isR_rf q2) (Nat.le_of_ble_eq_true rfl) ?_
  refine aw_inc j28_40 rfl ?_
  exact aw_goto j28_43 k_4
theorem bk28_46 {r0 : Option Nat} {r1 : Option Nat} {r2 : Option Nat} {x3 : Int32}  (k_1 : Q none S) : aw ext d 28 46 [some (va_rf r0), some (va_rf r1), some (va_rf r2), some (.int x3)] [] S Q := by
  exact aw_vret j28_46 rt28 k_1
/-! Reading_init -/
theorem bk29_0 {a0 : Nat}  (k_1 : aw ext (d + 1) 29 4 [some (.ref a0)] [] S Q) : aw ext (d + 1) 29 0 [some (.ref a0)] [] S Q := by
  refine aw_ald j29_0 rfl rfl ?_
  exact aw_obj j29_1 (Nat.le_of_ble_eq_true rfl) k_1
theorem bk29_4 {r0 : Option Nat}  (k_1 : aw ext d 29 11 [some (va_rf r0)] [.ref S.2.2.1, va_rf r0] (av_new S (.inr (7, 1000)) (fun _ => .null) 1000) Q) : aw ext d 29 4 [some (va_rf r0)] [] S Q := by
  refine aw_ald j29_4 rfl (av_isR_rf r0) ?_
  refine aw_con j29_5 ?_
  refine aw_newr (n := 1000) j29_8 (by decide) (by decide) ?_
  exact k_1
theorem bk29_11 {r0 : Option Nat} {ak0 : Nat} {rk1 : Option Nat} (t_1 : S.1 ak0 = some (.inl 2)) (k_2 : aw ext d 29 21 [some (va_rf r0)] [.ref (av_set S ak0 0 (va_rf rk1)).2.2.1, va_rf r0] (av_new (av_set S ak0 0 (va_rf rk1)) (.inr (7, 1000)) (fun _ => .null) 1000) Q) : aw ext d 29 11 [some (va_rf r0)] [va_rf rk1, .ref ak0] S Q := by
  refine aw_put j29_11 t_1 (av_fa_rf _ rk1) ?_
  refine aw_ald j29_14 rfl (av_isR_rf r0) ?_
  refine aw_con j29_15 ?_
  refine aw_newr (n := 1000) j29_18 (by decide) (by decide) ?_
  exact k_2
theorem bk29_21 {a0 : Nat} {ak0 : Nat} {rk1 : Option Nat} (t_1 : S.1 ak0 = some (.inl 2)) (t_2 : (av_set S ak0 1 (va_rf rk1)).1 a0 = some (.inl 2)) (k_3 : aw ext d 29 34 [some (.ref a0)] [.ref (av_set (av_set S ak0 1 (va_rf rk1)) a0 2 (.int (0 : Int32))).2.2.1, .ref a0] (av_new (av_set (av_set S ak0 1 (va_rf rk1)) a0 2 (.int (0 : Int32))) (.inr (0, 120)) (fun _ => defaultValue (sm_aT 0)) 120) Q) : aw ext d 29 21 [some (.ref a0)] [va_rf rk1, .ref ak0] S Q := by
  refine aw_put j29_21 t_1 (av_fa_rf _ rk1) ?_
  refine aw_ald j29_24 rfl rfl ?_
  refine aw_con j29_25 ?_
  refine aw_put j29_26 t_2 rfl ?_
  refine aw_ald j29_29 rfl rfl ?_
  refine aw_con j29_30 ?_
  refine aw_newa (n := 120) j29_32 (by decide) (by decide) ?_
  exact k_3
theorem bk29_34 {r0 : Option Nat} {ak0 : Nat} {rk1 : Option Nat} (t_1 : S.1 ak0 = some (.inl 2)) (k_2 : aw ext d 29 43 [some (va_rf r0)] [.ref (av_set S ak0 3 (va_rf rk1)).2.2.1, va_rf r0] (av_new (av_set S ak0 3 (va_rf rk1)) (.inr (7, 120)) (fun _ => .null) 120) Q) : aw ext d 29 34 [some (va_rf r0)] [va_rf rk1, .ref ak0] S Q := by
  refine aw_put j29_34 t_1 (av_fa_rf _ rk1) ?_
  refine aw_ald j29_37 rfl (av_isR_rf r0) ?_
  refine aw_con j29_38 ?_
  refine aw_newr (n := 120) j29_40 (by decide) (by decide) ?_
  exact k_2
theorem bk29_43 {a0 : Nat} {ak0 : Nat} {rk1 : Option Nat} (t_1 : S.1 ak0 = some (.inl 2)) (t_2 : (av_set S ak0 4 (va_rf rk1)).1 a0 = some (.inl 2)) (k_3 : Q none (av_set (av_set S ak0 4 (va_rf rk1)) a0 5 (.int (0 : Int32)))) : aw ext d 29 43 [some (.ref a0)] [va_rf rk1, .ref ak0] S Q := by
  refine aw_put j29_43 t_1 (av_fa_rf _ rk1) ?_
  refine aw_ald j29_46 rfl rfl ?_
  refine aw_con j29_47 ?_
  refine aw_put j29_48 t_2 rfl ?_
  exact aw_vret j29_51 rt29 k_3
/-! Reading_goThrough -/
theorem bk30_0 {a0 : Nat} {r1 : Option Nat} {o2 : Option Value} {o3 : Option Value} {q2 : Option Nat} {P_4 : av_St → Prop} (t_1 : S.1 a0 = some (.inl 2)) (f_3 : S.2.1 a0 3 = va_rf q2) (m_7 : ctv ext d 96 [va_rf q2, .int (0 : Int32)] S P_4) (k_8 : ∀ S_5, P_4 S_5 → aw ext (d + 1) 30 8 [some (.ref a0), some (va_rf r1), o2, o3] [] S_5 Q) : aw ext (d + 1) 30 0 [some (.ref a0), some (va_rf r1), o2, o3] [] S Q := by
  refine aw_ald j30_0 rfl rfl ?_
  refine aw_get j30_1 t_1 f_3 ?_
  refine aw_con j30_4 ?_
  exact aw_callv (as := [va_rf q2, .int (0 : Int32)]) j30_5 rfl rfl (Nat.le_of_ble_eq_true rfl) cy96.1 cy96.2 (cs_cons (av_cat_rf q2) (cs_cons rfl cs_nil)) rfl m_7 k_8
theorem bk30_8 {a0 : Nat} {a1 : Nat} {o2 : Option Value} {o3 : Option Value} {P_2 : Option Nat → av_St → Prop} (t_1 : S.1 a0 = some (.inl 2)) (t_5 : (av_set (av_set S a0 2 (.int (0 : Int32))) a0 5 (.int (0 : Int32))).1 a1 = some (.inl 8)) (m_6 : ctr ext d 55 [.ref a1, .ref a1] (av_set (av_set S a0 2 (.int (0 : Int32))) a0 5 (.int (0 : Int32))) P_2) (k_7 : ∀ v_4 S_3, P_2 v_4 S_3 → aw ext (d + 1) 30 23 [some (.ref a0), some (.ref a1), o2, o3] [va_rf v_4] S_3 Q) : aw ext (d + 1) 30 8 [some (.ref a0), some (.ref a1), o2, o3] [] S Q := by
  refine aw_ald j30_8 rfl rfl ?_
  refine aw_con j30_9 ?_
  refine aw_put j30_10 t_1 rfl ?_
  refine aw_ald j30_13 rfl rfl ?_
  refine aw_con j30_14 ?_
  refine aw_put j30_15 t_1 rfl ?_
  refine aw_ald j30_18 rfl rfl ?_
  refine aw_ald j30_19 rfl rfl ?_
  exact aw_callr (as := [.ref a1, .ref a1]) j30_20 rfl rfl (Nat.le_of_ble_eq_true rfl) cy55.1 cy55.2 (cs_cons rfl (cs_cons rfl cs_nil)) (decide_eq_true t_5) m_6 k_7
theorem bk30_23 {r0 : Option Nat} {r1 : Option Nat} {o2 : Option Value} {o3 : Option Value} {rk0 : Option Nat}  (k_1 : aw ext d 30 26 [some (va_rf r0), some (va_rf r1), some (va_rf rk0), some (.int (0 : Int32))] [] S Q) : aw ext d 30 23 [some (va_rf r0), some (va_rf r1), o2, o3] [va_rf rk0] S Q := by
  refine aw_ast j30_23 (av_isR_rf rk0) (Nat.le_of_ble_eq_true rfl) ?_
  refine aw_con j30_24 ?_
  refine aw_ist j30_25 (Nat.le_of_ble_eq_true rfl) ?_
  exact k_1
theorem bk30_26 {r0 : Option Nat} {r1 : Option Nat} {r2 : Option Nat} {x3 : Int32}  (k_1 : ((1000 : Int32) ≤ x3) → aw ext d 30 70 [some (va_rf r0), some (va_rf r1), some (va_rf r2), some (.int x3)] [] S Q) (k_2 : (¬ ((1000 : Int32) ≤ x3)) → aw ext d 30 33 [some (va_rf r0), some (va_rf r1), some (va_rf r2), some (.int x3)] [] S Q) : aw ext d 30 26 [some (va_rf r0), some (va_rf r1), some (va_rf r2), some (.int x3)] [] S Q := by
  refine aw_ild j30_26 rfl ?_
  refine aw_con j30_27 ?_
  exact aw_ic j30_30 (fun h => k_1 (of_decide_eq_true h)) (fun h => k_2 (of_decide_eq_false h))
theorem bk30_33 {r0 : Option Nat} {r1 : Option Nat} {r2 : Option Nat} {x3 : Int32}  (k_2 : r2 = none → aw ext d 30 70 [some (va_rf r0), some (va_rf r1), some (va_rf r2), some (.int x3)] [] S Q) (k_3 : ∀ c_1, r2 = some c_1 → aw ext d 30 37 [some (va_rf r0), some (va_rf r1), some (va_rf r2), some (.int x3)] [] S Q) : aw ext d 30 33 [some (va_rf r0), some (va_rf r1), some (va_rf r2), some (.int x3)] [] S Q := by
  refine aw_ald j30_33 rfl (av_isR_rf r2) ?_
  exact aw_null (r := r2) j30_34 k_2 k_3
theorem bk30_37 {a0 : Nat} {r1 : Option Nat} {r2 : Option Nat} {x3 : Int32} {P_1 : av_St → Prop} (t_4 : S.1 a0 = some (.inl 2)) (m_5 : ctv ext d 31 [.ref a0, va_rf r2] S P_1) (k_6 : ∀ S_2, P_1 S_2 → aw ext (d + 1) 30 42 [some (.ref a0), some (va_rf r1), some (va_rf r2), some (.int x3)] [] S_2 Q) : aw ext (d + 1) 30 37 [some (.ref a0), some (va_rf r1), some (va_rf r2), some (.int x3)] [] S Q := by
  refine aw_ald j30_37 rfl rfl ?_
  refine aw_ald j30_38 rfl (av_isR_rf r2) ?_
  exact aw_callv (as := [.ref a0, va_rf r2]) j30_39 rfl rfl (Nat.le_of_ble_eq_true rfl) cy31.1 cy31.2 (cs_cons rfl (cs_cons (av_cat_rf r2) cs_nil)) (decide_eq_true t_4) m_5 k_6
theorem bk30_42 {r0 : Option Nat} {r1 : Option Nat} {a2 : Nat} {x3 : Int32} {q2 : Option Nat} (t_1 : S.1 a2 = some (.inl 8)) (f_3 : S.2.1 a2 9 = va_rf q2) (k_5 : q2 = none → aw ext d 30 57 [some (va_rf r0), some (va_rf r1), some (.ref a2), some (.int x3)] [] S Q) (k_6 : ∀ c_4, q2 = some c_4 → aw ext d 30 49 [some (va_rf r0), some (va_rf r1), some (.ref a2), some (.int x3)] [] S Q) : aw ext d 30 42 [some (va_rf r0), some (va_rf r1), some (.ref a2), some (.int x3)] [] S Q := by
  refine aw_ald j30_42 rfl rfl ?_
  refine aw_get j30_43 t_1 f_3 ?_
  exact aw_null (r := q2) j30_46 k_5 k_6
theorem bk30_49 {a0 : Nat} {r1 : Option Nat} {r2 : Option Nat} {x3 : Int32} {P_1 : Option Nat → av_St → Prop} (t_4 : S.1 a0 = some (.inl 2)) (m_5 : ctr ext d 32 [.ref a0, va_rf r2] S P_1) (k_6 : ∀ v_3 S_2, P_1 v_3 S_2 → aw ext (d + 1) 30 54 [some (.ref a0), some (va_rf r1), some (va_rf r2), some (.int x3)] [va_rf v_3] S_2 Q) : aw ext (d + 1) 30 49 [some (.ref a0), some (va_rf r1), some (va_rf r2), some (.int x3)] [] S Q := by
  refine aw_ald j30_49 rfl rfl ?_
  refine aw_ald j30_50 rfl (av_isR_rf r2) ?_
  exact aw_callr (as := [.ref a0, va_rf r2]) j30_51 rfl rfl (Nat.le_of_ble_eq_true rfl) cy32.1 cy32.2 (cs_cons rfl (cs_cons (av_cat_rf r2) cs_nil)) (decide_eq_true t_4) m_5 k_6
theorem bk30_54 {r0 : Option Nat} {r1 : Option Nat} {r2 : Option Nat} {x3 : Int32} {rk0 : Option Nat}  (k_1 : aw ext d 30 63 [some (va_rf r0), some (va_rf r1), some (va_rf r2), some (.int x3)] [va_rf rk0] S Q) : aw ext d 30 54 [some (va_rf r0), some (va_rf r1), some (va_rf r2), some (.int x3)] [va_rf rk0] S Q := by
  exact aw_goto j30_54 k_1
theorem bk30_57 {a0 : Nat} {r1 : Option Nat} {r2 : Option Nat} {x3 : Int32} {P_1 : Option Nat → av_St → Prop} (t_4 : S.1 a0 = some (.inl 2)) (m_5 : ctr ext d 33 [.ref a0, va_rf r2, va_rf r1] S P_1) (k_6 : ∀ v_3 S_2, P_1 v_3 S_2 → aw ext (d + 1) 30 63 [some (.ref a0), some (va_rf r1), some (va_rf r2), some (.int x3)] [va_rf v_3] S_2 Q) : aw ext (d + 1) 30 57 [some (.ref a0), some (va_rf r1), some (va_rf r2), some (.int x3)] [] S Q := by
  refine aw_ald j30_57 rfl rfl ?_
  refine aw_ald j30_58 rfl (av_isR_rf r2) ?_
  refine aw_ald j30_59 rfl (av_isR_rf r1) ?_
  exact aw_callr (as := [.ref a0, va_rf r2, va_rf r1]) j30_60 rfl rfl (Nat.le_of_ble_eq_true rfl) cy33.1 cy33.2 (cs_cons rfl (cs_cons (av_cat_rf r2) (cs_cons (av_cat_rf r1) cs_nil))) (decide_eq_true t_4) m_5 k_6
theorem bk30_63 {r0 : Option Nat} {r1 : Option Nat} {r2 : Option Nat} {x3 : Int32} {rk0 : Option Nat}  (k_1 : aw ext d 30 26 [some (va_rf r0), some (va_rf r1), some (va_rf rk0), some (.int (x3 + 1))] [] S Q) : aw ext d 30 63 [some (va_rf r0), some (va_rf r1), some (va_rf r2), some (.int x3)] [va_rf rk0] S Q := by
  refine aw_ast j30_63 (av_isR_rf rk0) (Nat.le_of_ble_eq_true rfl) ?_
  refine aw_inc j30_64 rfl ?_
  exact aw_goto j30_67 k_1
theorem bk30_70 {r0 : Option Nat} {r1 : Option Nat} {r2 : Option Nat} {x3 : Int32}  (k_1 : Q none S) : aw ext d 30 70 [some (va_rf r0), some (va_rf r1), some (va_rf r2), some (.int x3)] [] S Q := by
  exact aw_vret j30_70 rt30 k_1
/-! Reading_meet -/
theorem bk31_0 {a0 : Nat} {r1 : Option Nat} {y2 : Int32} {b4 : Nat} {n_6 : Nat} (t_1 : S.1 a0 = some (.inl 2)) (f_3 : S.2.1 a0 2 = .int y2) (f_5 : S.2.1 a0 0 = .ref b4) (t_7 : S.1 b4 = some (.inr (7, n_6))) (b_8 : n_6 < 2147483648) (k_9 : ((nI n_6) ≤ y2) → aw ext d 31 31 [some (.ref a0), some (va_rf r1)] [] S Q) (k_10 : (¬ ((nI n_6) ≤ y2)) → aw ext d 31 12 [some (.ref a0), some (va_rf r1)] [] S Q) : aw ext d 31 0 [some (.ref a0), some (va_rf r1)] [] S Q := by
  refine aw_ald j31_0 rfl rfl ?_
  refine aw_get j31_1 t_1 f_3 ?_
  refine aw_ald j31_4 rfl rfl ?_
  refine aw_get j31_5 t_1 f_5 ?_
  refine aw_len j31_8 t_7 ?_
  exact aw_ic j31_9 (fun h => k_9 (of_decide_eq_true h)) (fun h => k_10 (of_decide_eq_false h))
theorem bk31_12 {r0 : Option Nat} {a1 : Nat} {y2 : Int32} (t_1 : S.1 a1 = some (.inl 8)) (f_3 : S.2.1 a1 0 = .int y2) (k_4 : (y2 < 0) → aw ext d 31 31 [some (va_rf r0), some (.ref a1)] [] S Q) (k_5 : (¬ (y2 < 0)) → aw ext d 31 19 [some (va_rf r0), some (.ref a1)] [] S Q) : aw ext d 31 12 [some (va_rf r0), some (.ref a1)] [] S Q := by
  refine aw_ald j31_12 rfl rfl ?_
  refine aw_get j31_13 t_1 f_3 ?_
  exact aw_if j31_16 (fun h => k_4 (of_decide_eq_true h)) (fun h => k_5 (of_decide_eq_false h))
theorem bk31_19 {a0 : Nat} {a1 : Nat} {y2 : Int32} {b5 : Nat} {n_7 : Nat} (t_1 : S.1 a1 = some (.inl 8)) (f_3 : S.2.1 a1 0 = .int y2) (t_4 : S.1 a0 = some (.inl 2)) (f_6 : S.2.1 a0 3 = .ref b5) (t_8 : S.1 b5 = some (.inr (0, n_7))) (b_9 : n_7 < 2147483648) (k_10 : (y2 < (nI n_7)) → aw ext d 31 32 [some (.ref a0), some (.ref a1)] [] S Q) (k_11 : (¬ (y2 < (nI n_7))) → aw ext d 31 31 [some (.ref a0), some (.ref a1)] [] S Q) : aw ext d 31 19 [some (.ref a0), some (.ref a1)] [] S Q := by
  refine aw_ald j31_19 rfl rfl ?_
  refine aw_get j31_20 t_1 f_3 ?_
  refine aw_ald j31_23 rfl rfl ?_
  refine aw_get j31_24 t_4 f_6 ?_
  refine aw_len j31_27 t_8 ?_
  exact aw_ic j31_28 (fun h => k_10 (of_decide_eq_true h)) (fun h => k_11 (of_decide_eq_false h))
theorem bk31_31 {r0 : Option Nat} {r1 : Option Nat}  (k_1 : Q none S) : aw ext d 31 31 [some (va_rf r0), some (va_rf r1)] [] S Q := by
  exact aw_vret j31_31 rt31 k_1
theorem bk31_32 {a0 : Nat} {r1 : Option Nat} {b2 : Nat} {y4 : Int32} {n_6 : Nat} {i_9 : Nat} {q14 : Option Nat} {y16 : Int32} {y18 : Int32} (t_1 : S.1 a0 = some (.inl 2)) (f_3 : S.2.1 a0 0 = .ref b2) (f_5 : S.2.1 a0 2 = .int y4) (t_7 : S.1 b2 = some (.inr (7, n_6))) (b_8 : n_6 < 2147483648) (e_10 : y4 = nI i_9) (c_11 : i_9 < n_6) (t_13 : ∀ w_12, r1 = some w_12 → S.1 w_12 = some (.inl 8)) (f_15 : (av_set S b2 i_9 (va_rf r1)).2.1 a0 1 = va_rf q14) (f_17 : (av_set S b2 i_9 (va_rf r1)).2.1 a0 2 = .int y16) (f_19 : (av_set S b2 i_9 (va_rf r1)).2.1 a0 5 = .int y18) (k_20 : (y18 ≤ 0) → aw ext d 31 66 [some (.ref a0), some (va_rf r1)] [.int y16, va_rf q14] (av_set S b2 i_9 (va_rf r1)) Q) (k_21 : (¬ (y18 ≤ 0)) → aw ext d 31 57 [some (.ref a0), some (va_rf r1)] [.int y16, va_rf q14] (av_set S b2 i_9 (va_rf r1)) Q) : aw ext d 31 32 [some (.ref a0), some (va_rf r1)] [] S Q := by
  refine aw_ald j31_32 rfl rfl ?_
  refine aw_get j31_33 t_1 f_3 ?_
  refine aw_ald j31_36 rfl rfl ?_
  refine aw_get j31_37 t_1 f_5 ?_
  refine aw_ald j31_40 rfl (av_isR_rf r1) ?_
  refine aw_ast2 (r := r1) j31_41 t_7 e_10 c_11 b_8 t_13 ?_
  refine aw_ald j31_42 rfl rfl ?_
  refine aw_get j31_43 t_1 f_15 ?_
  refine aw_ald j31_46 rfl rfl ?_
  refine aw_get j31_47 t_1 f_17 ?_
  refine aw_ald j31_50 rfl rfl ?_
  refine aw_get j31_51 t_1 f_19 ?_
  exact aw_if j31_54 (fun h => k_20 (of_decide_eq_true h)) (fun h => k_21 (of_decide_eq_false h))
theorem bk31_57 {a0 : Nat} {r1 : Option Nat} {rk0 : Option Nat} {xk1 : Int32} {b2 : Nat} {n_4 : Nat} {q8 : Option Nat} (t_1 : S.1 a0 = some (.inl 2)) (f_3 : S.2.1 a0 4 = .ref b2) (t_5 : S.1 b2 = some (.inr (7, n_4))) (b_6 : n_4 < 2147483648) (c_7 : 0 < n_4) (f_9 : S.2.1 b2 0 = va_rf q8) (k_10 : aw ext d 31 67 [some (.ref a0), some (va_rf r1)] [va_rf q8, .int xk1, va_rf rk0] S Q) : aw ext d 31 57 [some (.ref a0), some (va_rf r1)] [.int xk1, va_rf rk0] S Q := by
  refine aw_ald j31_57 rfl rfl ?_
  refine aw_get j31_58 t_1 f_3 ?_
  refine aw_con j31_61 ?_
  refine aw_xld j31_62 t_5 (by decide) c_7 b_6 f_9 ?_
  exact aw_goto j31_63 k_10
theorem bk31_66 {r0 : Option Nat} {r1 : Option Nat} {rk0 : Option Nat} {xk1 : Int32}  (k_1 : aw ext d 31 67 [some (va_rf r0), some (va_rf r1)] [va_rf r1, .int xk1, va_rf rk0] S Q) : aw ext d 31 66 [some (va_rf r0), some (va_rf r1)] [.int xk1, va_rf rk0] S Q := by
  refine aw_ald j31_66 rfl (av_isR_rf r1) ?_
  exact k_1
theorem bk31_67 {a0 : Nat} {a1 : Nat} {ak0 : Nat} {xk1 : Int32} {rk2 : Option Nat} {n_1 : Nat} {i_4 : Nat} {y10 : Int32} {b12 : Nat} {y15 : Int32} {n_17 : Nat} {i_20 : Nat} {y23 : Int32} {i_25 : Nat} (t_2 : S.1 ak0 = some (.inr (7, n_1))) (b_3 : n_1 < 2147483648) (e_5 : xk1 = nI i_4) (c_6 : i_4 < n_1) (t_8 : ∀ w_7, rk2 = some w_7 → S.1 w_7 = some (.inl 8)) (t_9 : (av_set S ak0 i_4 (va_rf rk2)).1 a0 = some (.inl 2)) (f_11 : (av_set S ak0 i_4 (va_rf rk2)).2.1 a0 2 = .int y10) (f_13 : (av_set (av_set S ak0 i_4 (va_rf rk2)) a0 2 (.int (y10 + (1 : Int32)))).2.1 a0 3 = .ref b12) (t_14 : (av_set (av_set S ak0 i_4 (va_rf rk2)) a0 2 (.int (y10 + (1 : Int32)))).1 a1 = some (.inl 8)) (f_16 : (av_set (av_set S ak0 i_4 (va_rf rk2)) a0 2 (.int (y10 + (1 : Int32)))).2.1 a1 0 = .int y15) (t_18 : (av_set (av_set S ak0 i_4 (va_rf rk2)) a0 2 (.int (y10 + (1 : Int32)))).1 b12 = some (.inr (0, n_17))) (b_19 : n_17 < 2147483648) (e_21 : y15 = nI i_20) (c_22 : i_20 < n_17) (f_24 : (av_set (av_set S ak0 i_4 (va_rf rk2)) a0 2 (.int (y10 + (1 : Int32)))).2.1 b12 i_20 = .int y23) (e_26 : y15 = nI i_25) (c_27 : i_25 < n_17) (k_28 : Q none (av_set (av_set (av_set S ak0 i_4 (va_rf rk2)) a0 2 (.int (y10 + (1 : Int32)))) b12 i_25 (.int (y23 + (1 : Int32))))) : aw ext d 31 67 [some (.ref a0), some (.ref a1)] [va_rf rk2, .int xk1, .ref ak0] S Q := by
  refine aw_ast2 (r := rk2) j31_67 t_2 e_5 c_6 b_3 t_8 ?_
  refine aw_ald j31_68 rfl rfl ?_
  refine aw_dup j31_69 rfl ?_
  refine aw_get j31_70 t_9 f_11 ?_
  refine aw_con j31_73 ?_
  refine aw_bin (z := (y10 + (1 : Int32))) j31_74 rfl ?_
  refine aw_put j31_75 t_9 rfl ?_
  refine aw_ald j31_78 rfl rfl ?_
  refine aw_get j31_79 t_9 f_13 ?_
  refine aw_ald j31_82 rfl rfl ?_
  refine aw_get j31_83 t_14 f_16 ?_
  refine aw_dup2 j31_86 rfl rfl ?_
  refine aw_xld j31_87 t_18 e_21 c_22 b_19 f_24 ?_
  refine aw_con j31_88 ?_
  refine aw_bin (z := (y23 + (1 : Int32))) j31_89 rfl ?_
  refine aw_xst j31_90 t_18 e_26 c_27 b_19 ?_
  exact aw_vret j31_91 rt31 k_28
/-! Reading_enter -/
theorem bk32_0 {a0 : Nat} {r1 : Option Nat} {y2 : Int32} {b4 : Nat} {n_6 : Nat} (t_1 : S.1 a0 = some (.inl 2)) (f_3 : S.2.1 a0 5 = .int y2) (f_5 : S.2.1 a0 4 = .ref b4) (t_7 : S.1 b4 = some (.inr (7, n_6))) (b_8 : n_6 < 2147483648) (k_9 : (y2 < (nI n_6)) → aw ext d 32 14 [some (.ref a0), some (va_rf r1)] [] S Q) (k_10 : (¬ (y2 < (nI n_6))) → aw ext d 32 12 [some (.ref a0), some (va_rf r1)] [] S Q) : aw ext d 32 0 [some (.ref a0), some (va_rf r1)] [] S Q := by
  refine aw_ald j32_0 rfl rfl ?_
  refine aw_get j32_1 t_1 f_3 ?_
  refine aw_ald j32_4 rfl rfl ?_
  refine aw_get j32_5 t_1 f_5 ?_
  refine aw_len j32_8 t_7 ?_
  exact aw_ic j32_9 (fun h => k_9 (of_decide_eq_true h)) (fun h => k_10 (of_decide_eq_false h))
theorem bk32_12 {r0 : Option Nat} {r1 : Option Nat}  (k_1 : Q (some (.null)) S) : aw ext d 32 12 [some (va_rf r0), some (va_rf r1)] [] S Q := by
  refine aw_nul j32_12 ?_
  exact aw_ret j32_13 (by rw [rt32]; exact rfl) k_1
theorem bk32_14 {a0 : Nat} {a1 : Nat} {b2 : Nat} {y4 : Int32} {n_6 : Nat} {i_9 : Nat} {y14 : Int32} {q17 : Option Nat} (t_1 : S.1 a0 = some (.inl 2)) (f_3 : S.2.1 a0 4 = .ref b2) (f_5 : S.2.1 a0 5 = .int y4) (t_7 : S.1 b2 = some (.inr (7, n_6))) (b_8 : n_6 < 2147483648) (e_10 : y4 = nI i_9) (c_11 : i_9 < n_6) (t_13 : ∀ w_12, (some a1) = some w_12 → S.1 w_12 = some (.inl 8)) (f_15 : (av_set S b2 i_9 (.ref a1)).2.1 a0 5 = .int y14) (t_16 : (av_set (av_set S b2 i_9 (.ref a1)) a0 5 (.int (y14 + (1 : Int32)))).1 a1 = some (.inl 8)) (f_18 : (av_set (av_set S b2 i_9 (.ref a1)) a0 5 (.int (y14 + (1 : Int32)))).2.1 a1 9 = va_rf q17) (k_19 : Q (some (va_rf q17)) (av_set (av_set S b2 i_9 (.ref a1)) a0 5 (.int (y14 + (1 : Int32))))) : aw ext d 32 14 [some (.ref a0), some (.ref a1)] [] S Q := by
  refine aw_ald j32_14 rfl rfl ?_
  refine aw_get j32_15 t_1 f_3 ?_
  refine aw_ald j32_18 rfl rfl ?_
  refine aw_get j32_19 t_1 f_5 ?_
  refine aw_ald j32_22 rfl rfl ?_
  refine aw_ast2 (r := (some a1)) j32_23 t_7 e_10 c_11 b_8 t_13 ?_
  refine aw_ald j32_24 rfl rfl ?_
  refine aw_dup j32_25 rfl ?_
  refine aw_get j32_26 t_1 f_15 ?_
  refine aw_con j32_29 ?_
  refine aw_bin (z := (y14 + (1 : Int32))) j32_30 rfl ?_
  refine aw_put j32_31 t_1 rfl ?_
  refine aw_ald j32_34 rfl rfl ?_
  refine aw_get j32_35 t_16 f_18 ?_
  exact aw_ret j32_38 (by rw [rt32]; exact (av_fo_rf _ q17)) k_19
/-! Reading_behind -/
theorem bk33_0 {a0 : Nat} {r1 : Option Nat} {r2 : Option Nat} {o3 : Option Value} {o4 : Option Value} {o5 : Option Value} {P_1 : Option Nat → av_St → Prop} (t_4 : S.1 a0 = some (.inl 2)) (m_5 : ctr ext d 34 [.ref a0, va_rf r2] S P_1) (k_6 : ∀ v_3 S_2, P_1 v_3 S_2 → aw ext (d + 1) 33 6 [some (.ref a0), some (va_rf r1), some (va_rf r2), o3, o4, o5] [va_rf v_3, va_rf r1] S_2 Q) : aw ext (d + 1) 33 0 [some (.ref a0), some (va_rf r1), some (va_rf r2), o3, o4, o5] [] S Q := by
  refine aw_ald j33_0 rfl (av_isR_rf r1) ?_
  refine aw_ald j33_1 rfl rfl ?_
  refine aw_ald j33_2 rfl (av_isR_rf r2) ?_
  exact aw_callr (as := [.ref a0, va_rf r2]) j33_3 rfl rfl (Nat.le_of_ble_eq_true rfl) cy34.1 cy34.2 (cs_cons rfl (cs_cons (av_cat_rf r2) cs_nil)) (decide_eq_true t_4) m_5 k_6
theorem bk33_6 {r0 : Option Nat} {r1 : Option Nat} {r2 : Option Nat} {o3 : Option Value} {o4 : Option Value} {o5 : Option Value} {ak0 : Nat} {rk1 : Option Nat} {P_1 : Option Nat → av_St → Prop} (t_4 : S.1 ak0 = some (.inl 8)) (m_5 : ctr ext d 55 [.ref ak0, va_rf rk1] S P_1) (k_6 : ∀ v_3 S_2, P_1 v_3 S_2 → aw ext (d + 1) 33 9 [some (va_rf r0), some (va_rf r1), some (va_rf r2), o3, o4, o5] [va_rf v_3] S_2 Q) : aw ext (d + 1) 33 6 [some (va_rf r0), some (va_rf r1), some (va_rf r2), o3, o4, o5] [va_rf rk1, .ref ak0] S Q := by
  exact aw_callr (as := [.ref ak0, va_rf rk1]) j33_6 rfl rfl (Nat.le_of_ble_eq_true rfl) cy55.1 cy55.2 (cs_cons rfl (cs_cons (av_cat_rf rk1) cs_nil)) (decide_eq_true t_4) m_5 k_6
theorem bk33_9 {r0 : Option Nat} {r1 : Option Nat} {r2 : Option Nat} {o3 : Option Value} {o4 : Option Value} {o5 : Option Value} {rk0 : Option Nat}  (k_1 : aw ext d 33 13 [some (va_rf r0), some (va_rf r1), some (va_rf r2), some (va_rf rk0), some (.int (0 : Int32)), o5] [] S Q) : aw ext d 33 9 [some (va_rf r0), some (va_rf r1), some (va_rf r2), o3, o4, o5] [va_rf rk0] S Q := by
  refine aw_ast j33_9 (av_isR_rf rk0) (Nat.le_of_ble_eq_true rfl) ?_
  refine aw_con j33_10 ?_
  refine aw_ist j33_11 (Nat.le_of_ble_eq_true rfl) ?_
  exact k_1
theorem bk33_13 {r0 : Option Nat} {r1 : Option Nat} {r2 : Option Nat} {r3 : Option Nat} {x4 : Int32} {o5 : Option Value}  (k_1 : ((120 : Int32) ≤ x4) → aw ext d 33 78 [some (va_rf r0), some (va_rf r1), some (va_rf r2), some (va_rf r3), some (.int x4), o5] [] S Q) (k_2 : (¬ ((120 : Int32) ≤ x4)) → aw ext d 33 20 [some (va_rf r0), some (va_rf r1), some (va_rf r2), some (va_rf r3), some (.int x4), o5] [] S Q) : aw ext d 33 13 [some (va_rf r0), some (va_rf r1), some (va_rf r2), some (va_rf r3), some (.int x4), o5] [] S Q := by
  refine aw_ild j33_13 rfl ?_
  refine aw_con j33_15 ?_
  exact aw_ic j33_17 (fun h => k_1 (of_decide_eq_true h)) (fun h => k_2 (of_decide_eq_false h))
theorem bk33_20 {r0 : Option Nat} {r1 : Option Nat} {r2 : Option Nat} {r3 : Option Nat} {x4 : Int32} {o5 : Option Value}  (k_2 : r3 = none → aw ext d 33 24 [some (va_rf r0), some (va_rf r1), some (va_rf r2), some (va_rf r3), some (.int x4), o5] [] S Q) (k_3 : ∀ c_1, r3 = some c_1 → aw ext d 33 78 [some (va_rf r0), some (va_rf r1), some (va_rf r2), some (va_rf r3), some (.int x4), o5] [] S Q) : aw ext d 33 20 [some (va_rf r0), some (va_rf r1), some (va_rf r2), some (va_rf r3), some (.int x4), o5] [] S Q := by
  refine aw_ald j33_20 rfl (av_isR_rf r3) ?_
  exact aw_nonn (r := r3) j33_21 k_2 k_3
theorem bk33_24 {a0 : Nat} {r1 : Option Nat} {r2 : Option Nat} {r3 : Option Nat} {x4 : Int32} {o5 : Option Value} {y2 : Int32} (t_1 : S.1 a0 = some (.inl 2)) (f_3 : S.2.1 a0 5 = .int y2) (k_4 : (y2 ≤ 0) → aw ext d 33 78 [some (.ref a0), some (va_rf r1), some (va_rf r2), some (va_rf r3), some (.int x4), o5] [] S Q) (k_5 : (¬ (y2 ≤ 0)) → aw ext d 33 31 [some (.ref a0), some (va_rf r1), some (va_rf r2), some (va_rf r3), some (.int x4), o5] [] S Q) : aw ext d 33 24 [some (.ref a0), some (va_rf r1), some (va_rf r2), some (va_rf r3), some (.int x4), o5] [] S Q := by
  refine aw_ald j33_24 rfl rfl ?_
  refine aw_get j33_25 t_1 f_3 ?_
  exact aw_if j33_28 (fun h => k_4 (of_decide_eq_true h)) (fun h => k_5 (of_decide_eq_false h))
theorem bk33_31 {a0 : Nat} {r1 : Option Nat} {r2 : Option Nat} {r3 : Option Nat} {x4 : Int32} {o5 : Option Value} {y2 : Int32} {b4 : Nat} {y6 : Int32} {n_8 : Nat} {i_11 : Nat} {q14 : Option Nat} (t_1 : S.1 a0 = some (.inl 2)) (f_3 : S.2.1 a0 5 = .int y2) (f_5 : (av_set S a0 5 (.int (y2 - (1 : Int32)))).2.1 a0 4 = .ref b4) (f_7 : (av_set S a0 5 (.int (y2 - (1 : Int32)))).2.1 a0 5 = .int y6) (t_9 : (av_set S a0 5 (.int (y2 - (1 : Int32)))).1 b4 = some (.inr (7, n_8))) (b_10 : n_8 < 2147483648) (e_12 : y6 = nI i_11) (c_13 : i_11 < n_8) (f_15 : (av_set S a0 5 (.int (y2 - (1 : Int32)))).2.1 b4 i_11 = va_rf q14) (k_17 : q14 = none → aw ext d 33 57 [some (.ref a0), some (va_rf r1), some (va_rf r2), some (va_rf r3), some (.int x4), some (va_rf q14)] [] (av_set S a0 5 (.int (y2 - (1 : Int32)))) Q) (k_18 : ∀ c_16, q14 = some c_16 → aw ext d 33 61 [some (.ref a0), some (va_rf r1), some (va_rf r2), some (va_rf r3), some (.int x4), some (va_rf q14)] [] (av_set S a0 5 (.int (y2 - (1 : Int32)))) Q) : aw ext d 33 31 [some (.ref a0), some (va_rf r1), some (va_rf r2), some (va_rf r3), some (.int x4), o5] [] S Q := by
  refine aw_ald j33_31 rfl rfl ?_
  refine aw_dup j33_32 rfl ?_
  refine aw_get j33_33 t_1 f_3 ?_
  refine aw_con j33_36 ?_
  refine aw_bin (z := (y2 - (1 : Int32))) j33_37 rfl ?_
  refine aw_put j33_38 t_1 rfl ?_
  refine aw_ald j33_41 rfl rfl ?_
  refine aw_get j33_42 t_1 f_5 ?_
  refine aw_ald j33_45 rfl rfl ?_
  refine aw_get j33_46 t_1 f_7 ?_
  refine aw_xld j33_49 t_9 e_12 c_13 b_10 f_15 ?_
  refine aw_ast j33_50 (av_isR_rf q14) (Nat.le_of_ble_eq_true rfl) ?_
  refine aw_ald j33_52 rfl (av_isR_rf q14) ?_
  exact aw_nonn (r := q14) j33_54 k_17 k_18
theorem bk33_57 {r0 : Option Nat} {r1 : Option Nat} {r2 : Option Nat} {r3 : Option Nat} {x4 : Int32} {r5 : Option Nat}  (k_1 : aw ext d 33 71 [some (va_rf r0), some (va_rf r1), some (va_rf r2), some (va_rf r3), some (.int x4), some (va_rf r5)] [.null] S Q) : aw ext d 33 57 [some (va_rf r0), some (va_rf r1), some (va_rf r2), some (va_rf r3), some (.int x4), some (va_rf r5)] [] S Q := by
  refine aw_nul j33_57 ?_
  exact aw_goto j33_58 k_1
theorem bk33_61 {a0 : Nat} {r1 : Option Nat} {r2 : Option Nat} {r3 : Option Nat} {x4 : Int32} {r5 : Option Nat} {P_1 : Option Nat → av_St → Prop} (t_4 : S.1 a0 = some (.inl 2)) (m_5 : ctr ext d 34 [.ref a0, va_rf r2] S P_1) (k_6 : ∀ v_3 S_2, P_1 v_3 S_2 → aw ext (d + 1) 33 68 [some (.ref a0), some (va_rf r1), some (va_rf r2), some (va_rf r3), some (.int x4), some (va_rf r5)] [va_rf v_3, va_rf r5] S_2 Q) : aw ext (d + 1) 33 61 [some (.ref a0), some (va_rf r1), some (va_rf r2), some (va_rf r3), some (.int x4), some (va_rf r5)] [] S Q := by
  refine aw_ald j33_61 rfl (av_isR_rf r5) ?_
  refine aw_ald j33_63 rfl rfl ?_
  refine aw_ald j33_64 rfl (av_isR_rf r2) ?_
  exact aw_callr (as := [.ref a0, va_rf r2]) j33_65 rfl rfl (Nat.le_of_ble_eq_true rfl) cy34.1 cy34.2 (cs_cons rfl (cs_cons (av_cat_rf r2) cs_nil)) (decide_eq_true t_4) m_5 k_6
theorem bk33_68 {r0 : Option Nat} {r1 : Option Nat} {r2 : Option Nat} {r3 : Option Nat} {x4 : Int32} {r5 : Option Nat} {ak0 : Nat} {rk1 : Option Nat} {P_1 : Option Nat → av_St → Prop} (t_4 : S.1 ak0 = some (.inl 8)) (m_5 : ctr ext d 55 [.ref ak0, va_rf rk1] S P_1) (k_6 : ∀ v_3 S_2, P_1 v_3 S_2 → aw ext (d + 1) 33 71 [some (va_rf r0), some (va_rf r1), some (va_rf r2), some (va_rf r3), some (.int x4), some (va_rf r5)] [va_rf v_3] S_2 Q) : aw ext (d + 1) 33 68 [some (va_rf r0), some (va_rf r1), some (va_rf r2), some (va_rf r3), some (.int x4), some (va_rf r5)] [va_rf rk1, .ref ak0] S Q := by
  exact aw_callr (as := [.ref ak0, va_rf rk1]) j33_68 rfl rfl (Nat.le_of_ble_eq_true rfl) cy55.1 cy55.2 (cs_cons rfl (cs_cons (av_cat_rf rk1) cs_nil)) (decide_eq_true t_4) m_5 k_6
theorem bk33_71 {r0 : Option Nat} {r1 : Option Nat} {r2 : Option Nat} {r3 : Option Nat} {x4 : Int32} {r5 : Option Nat} {rk0 : Option Nat}  (k_1 : aw ext d 33 13 [some (va_rf r0), some (va_rf r1), some (va_rf r2), some (va_rf rk0), some (.int (x4 + 1)), some (va_rf r5)] [] S Q) : aw ext d 33 71 [some (va_rf r0), some (va_rf r1), some (va_rf r2), some (va_rf r3), some (.int x4), some (va_rf r5)] [va_rf rk0] S Q := by
  refine aw_ast j33_71 (av_isR_rf rk0) (Nat.le_of_ble_eq_true rfl) ?_
  refine aw_inc j33_72 rfl ?_
  exact aw_goto j33_75 k_1
theorem bk33_78 {r0 : Option Nat} {r1 : Option Nat} {r2 : Option Nat} {r3 : Option Nat} {x4 : Int32} {o5 : Option Value}  (k_1 : Q (some (va_rf r3)) S) : aw ext d 33 78 [some (va_rf r0), some (va_rf r1), some (va_rf r2), some (va_rf r3), some (.int x4), o5] [] S Q := by
  refine aw_ald j33_78 rfl (av_isR_rf r3) ?_
  exact aw_ret j33_79 (by rw [rt33]; exact (av_fo_rf _ r3)) k_1
/-! Reading_innermost -/
theorem bk34_0 {a0 : Nat} {r1 : Option Nat} {o2 : Option Value} {y2 : Int32} (t_1 : S.1 a0 = some (.inl 2)) (f_3 : S.2.1 a0 5 = .int y2) (k_4 : (y2 ≤ 0) → aw ext d 34 19 [some (.ref a0), some (va_rf r1), o2] [] S Q) (k_5 : (¬ (y2 ≤ 0)) → aw ext d 34 7 [some (.ref a0), some (va_rf r1), o2] [] S Q) : aw ext d 34 0 [some (.ref a0), some (va_rf r1), o2] [] S Q := by
  refine aw_ald j34_0 rfl rfl ?_
  refine aw_get j34_1 t_1 f_3 ?_
  exact aw_if j34_4 (fun h => k_4 (of_decide_eq_true h)) (fun h => k_5 (of_decide_eq_false h))
theorem bk34_7 {a0 : Nat} {r1 : Option Nat} {o2 : Option Value} {y2 : Int32} {b4 : Nat} {n_6 : Nat} (t_1 : S.1 a0 = some (.inl 2)) (f_3 : S.2.1 a0 5 = .int y2) (f_5 : S.2.1 a0 4 = .ref b4) (t_7 : S.1 b4 = some (.inr (7, n_6))) (b_8 : n_6 < 2147483648) (k_9 : (y2 ≤ (nI n_6)) → aw ext d 34 21 [some (.ref a0), some (va_rf r1), o2] [] S Q) (k_10 : (¬ (y2 ≤ (nI n_6))) → aw ext d 34 19 [some (.ref a0), some (va_rf r1), o2] [] S Q) : aw ext d 34 7 [some (.ref a0), some (va_rf r1), o2] [] S Q := by
  refine aw_ald j34_7 rfl rfl ?_
  refine aw_get j34_8 t_1 f_3 ?_
  refine aw_ald j34_11 rfl rfl ?_
  refine aw_get j34_12 t_1 f_5 ?_
  refine aw_len j34_15 t_7 ?_
  exact aw_ic j34_16 (fun h => k_9 (of_decide_eq_true h)) (fun h => k_10 (of_decide_eq_false h))
theorem bk34_19 {r0 : Option Nat} {r1 : Option Nat} {o2 : Option Value}  (k_1 : Q (some (va_rf r1)) S) : aw ext d 34 19 [some (va_rf r0), some (va_rf r1), o2] [] S Q := by
  refine aw_ald j34_19 rfl (av_isR_rf r1) ?_
  exact aw_ret j34_20 (by rw [rt34]; exact (av_fo_rf _ r1)) k_1
theorem bk34_21 {a0 : Nat} {r1 : Option Nat} {o2 : Option Value} {b2 : Nat} {y4 : Int32} {n_6 : Nat} {i_9 : Nat} {q12 : Option Nat} (t_1 : S.1 a0 = some (.inl 2)) (f_3 : S.2.1 a0 4 = .ref b2) (f_5 : S.2.1 a0 5 = .int y4) (t_7 : S.1 b2 = some (.inr (7, n_6))) (b_8 : n_6 < 2147483648) (e_10 : (y4 - (1 : Int32)) = nI i_9) (c_11 : i_9 < n_6) (f_13 : S.2.1 b2 i_9 = va_rf q12) (k_15 : q12 = none → aw ext d 34 37 [some (.ref a0), some (va_rf r1), some (va_rf q12)] [] S Q) (k_16 : ∀ c_14, q12 = some c_14 → aw ext d 34 41 [some (.ref a0), some (va_rf r1), some (va_rf q12)] [] S Q) : aw ext d 34 21 [some (.ref a0), some (va_rf r1), o2] [] S Q := by
  refine aw_ald j34_21 rfl rfl ?_
  refine aw_get j34_22 t_1 f_3 ?_
  refine aw_ald j34_25 rfl rfl ?_
  refine aw_get j34_26 t_1 f_5 ?_
  refine aw_con j34_29 ?_
  refine aw_bin (z := (y4 - (1 : Int32))) j34_30 rfl ?_
  refine aw_xld j34_31 t_7 e_10 c_11 b_8 f_13 ?_
  refine aw_ast j34_32 (av_isR_rf q12) (Nat.le_of_ble_eq_true rfl) ?_
  refine aw_ald j34_33 rfl (av_isR_rf q12) ?_
  exact aw_nonn (r := q12) j34_34 k_15 k_16
theorem bk34_37 {r0 : Option Nat} {r1 : Option Nat} {r2 : Option Nat}  (k_1 : aw ext d 34 45 [some (va_rf r0), some (va_rf r1), some (va_rf r2)] [va_rf r1] S Q) : aw ext d 34 37 [some (va_rf r0), some (va_rf r1), some (va_rf r2)] [] S Q := by
  refine aw_ald j34_37 rfl (av_isR_rf r1) ?_
  exact aw_goto j34_38 k_1
theorem bk34_41 {r0 : Option Nat} {r1 : Option Nat} {a2 : Nat} {q2 : Option Nat} (t_1 : S.1 a2 = some (.inl 8)) (f_3 : S.2.1 a2 9 = va_rf q2) (k_4 : aw ext d 34 45 [some (va_rf r0), some (va_rf r1), some (.ref a2)] [va_rf q2] S Q) : aw ext d 34 41 [some (va_rf r0), some (va_rf r1), some (.ref a2)] [] S Q := by
  refine aw_ald j34_41 rfl rfl ?_
  refine aw_get j34_42 t_1 f_3 ?_
  exact k_4
theorem bk34_45 {r0 : Option Nat} {r1 : Option Nat} {r2 : Option Nat} {rk0 : Option Nat}  (k_1 : Q (some (va_rf rk0)) S) : aw ext d 34 45 [some (va_rf r0), some (va_rf r1), some (va_rf r2)] [va_rf rk0] S Q := by
  exact aw_ret j34_45 (by rw [rt34]; exact (av_fo_rf _ rk0)) k_1
/-! Steps_init -/
theorem bk35_0 {a0 : Nat}  (k_1 : aw ext (d + 1) 35 4 [some (.ref a0)] [] S Q) : aw ext (d + 1) 35 0 [some (.ref a0)] [] S Q := by
  refine aw_ald j35_0 rfl rfl ?_
  exact aw_obj j35_1 (Nat.le_of_ble_eq_true rfl) k_1
theorem bk35_4 {r0 : Option Nat}  (k_1 : aw ext d 35 11 [some (va_rf r0)] [.ref S.2.2.1, va_rf r0] (av_new S (.inr (8, 5000)) (fun _ => .null) 5000) Q) : aw ext d 35 4 [some (va_rf r0)] [] S Q := by
  refine aw_ald j35_4 rfl (av_isR_rf r0) ?_
  refine aw_con j35_5 ?_
  refine aw_newr (n := 5000) j35_8 (by decide) (by decide) ?_
  exact k_1
theorem bk35_11 {r0 : Option Nat} {ak0 : Nat} {rk1 : Option Nat} (t_1 : S.1 ak0 = some (.inl 3)) (k_2 : aw ext d 35 21 [some (va_rf r0)] [.ref (av_set S ak0 0 (va_rf rk1)).2.2.1, va_rf r0] (av_new (av_set S ak0 0 (va_rf rk1)) (.inr (7, 5000)) (fun _ => .null) 5000) Q) : aw ext d 35 11 [some (va_rf r0)] [va_rf rk1, .ref ak0] S Q := by
  refine aw_put j35_11 t_1 (av_fa_rf _ rk1) ?_
  refine aw_ald j35_14 rfl (av_isR_rf r0) ?_
  refine aw_con j35_15 ?_
  refine aw_newr (n := 5000) j35_18 (by decide) (by decide) ?_
  exact k_2
theorem bk35_21 {a0 : Nat} {ak0 : Nat} {rk1 : Option Nat} (t_1 : S.1 ak0 = some (.inl 3)) (t_2 : (av_set S ak0 1 (va_rf rk1)).1 a0 = some (.inl 3)) (k_3 : Q none (av_set (av_set S ak0 1 (va_rf rk1)) a0 2 (.int (0 : Int32)))) : aw ext d 35 21 [some (.ref a0)] [va_rf rk1, .ref ak0] S Q := by
  refine aw_put j35_21 t_1 (av_fa_rf _ rk1) ?_
  refine aw_ald j35_24 rfl rfl ?_
  refine aw_con j35_25 ?_
  refine aw_put j35_26 t_2 rfl ?_
  exact aw_vret j35_29 rt35 k_3
/-! Steps_keep -/
theorem bk36_0 {a0 : Nat} {r1 : Option Nat} {o2 : Option Value} (t_1 : S.1 a0 = some (.inl 3)) (k_2 : aw ext d 36 7 [some (.ref a0), some (va_rf r1), some (.int (0 : Int32))] [] (av_set S a0 2 (.int (0 : Int32))) Q) : aw ext d 36 0 [some (.ref a0), some (va_rf r1), o2] [] S Q := by
  refine aw_ald j36_0 rfl rfl ?_
  refine aw_con j36_1 ?_
  refine aw_put j36_2 t_1 rfl ?_
  refine aw_con j36_5 ?_
  refine aw_ist j36_6 (Nat.le_of_ble_eq_true rfl) ?_
  exact k_2
theorem bk36_7 {r0 : Option Nat} {a1 : Nat} {x2 : Int32} {y2 : Int32} (t_1 : S.1 a1 = some (.inl 2)) (f_3 : S.2.1 a1 2 = .int y2) (k_4 : (y2 ≤ x2) → aw ext d 36 44 [some (va_rf r0), some (.ref a1), some (.int x2)] [] S Q) (k_5 : (¬ (y2 ≤ x2)) → aw ext d 36 15 [some (va_rf r0), some (.ref a1), some (.int x2)] [] S Q) : aw ext d 36 7 [some (va_rf r0), some (.ref a1), some (.int x2)] [] S Q := by
  refine aw_ild j36_7 rfl ?_
  refine aw_ald j36_8 rfl rfl ?_
  refine aw_get j36_9 t_1 f_3 ?_
  exact aw_ic j36_12 (fun h => k_4 (of_decide_eq_true h)) (fun h => k_5 (of_decide_eq_false h))
theorem bk36_15 {r0 : Option Nat} {r1 : Option Nat} {x2 : Int32}  (k_1 : ((1000 : Int32) ≤ x2) → aw ext d 36 44 [some (va_rf r0), some (va_rf r1), some (.int x2)] [] S Q) (k_2 : (¬ ((1000 : Int32) ≤ x2)) → aw ext d 36 22 [some (va_rf r0), some (va_rf r1), some (.int x2)] [] S Q) : aw ext d 36 15 [some (va_rf r0), some (va_rf r1), some (.int x2)] [] S Q := by
  refine aw_ild j36_15 rfl ?_
  refine aw_con j36_16 ?_
  exact aw_ic j36_19 (fun h => k_1 (of_decide_eq_true h)) (fun h => k_2 (of_decide_eq_false h))
theorem bk36_22 {a0 : Nat} {a1 : Nat} {x2 : Int32} {b2 : Nat} {n_4 : Nat} {i_7 : Nat} {q10 : Option Nat} {b12 : Nat} {n_14 : Nat} {i_17 : Nat} {q20 : Option Nat} {P_22 : av_St → Prop} (t_1 : S.1 a1 = some (.inl 2)) (f_3 : S.2.1 a1 0 = .ref b2) (t_5 : S.1 b2 = some (.inr (7, n_4))) (b_6 : n_4 < 2147483648) (e_8 : x2 = nI i_7) (c_9 : i_7 < n_4) (f_11 : S.2.1 b2 i_7 = va_rf q10) (f_13 : S.2.1 a1 1 = .ref b12) (t_15 : S.1 b12 = some (.inr (7, n_14))) (b_16 : n_14 < 2147483648) (e_18 : x2 = nI i_17) (c_19 : i_17 < n_14) (f_21 : S.2.1 b12 i_17 = va_rf q20) (t_25 : S.1 a0 = some (.inl 3)) (m_26 : ctv ext d 37 [.ref a0, va_rf q10, va_rf q20] S P_22) (k_27 : ∀ S_23, P_22 S_23 → aw ext (d + 1) 36 38 [some (.ref a0), some (.ref a1), some (.int x2)] [] S_23 Q) : aw ext (d + 1) 36 22 [some (.ref a0), some (.ref a1), some (.int x2)] [] S Q := by
  refine aw_ald j36_22 rfl rfl ?_
  refine aw_ald j36_23 rfl rfl ?_
  refine aw_get j36_24 t_1 f_3 ?_
  refine aw_ild j36_27 rfl ?_
  refine aw_xld j36_28 t_5 e_8 c_9 b_6 f_11 ?_
  refine aw_ald j36_29 rfl rfl ?_
  refine aw_get j36_30 t_1 f_13 ?_
  refine aw_ild j36_33 rfl ?_
  refine aw_xld j36_34 t_15 e_18 c_19 b_16 f_21 ?_
  exact aw_callv (as := [.ref a0, va_rf q10, va_rf q20]) j36_35 rfl rfl (Nat.le_of_ble_eq_true rfl) cy37.1 cy37.2 (cs_cons rfl (cs_cons (av_cat_rf q10) (cs_cons (av_cat_rf q20) cs_nil))) (decide_eq_true t_25) m_26 k_27
theorem bk36_38 {r0 : Option Nat} {r1 : Option Nat} {x2 : Int32}  (k_1 : aw ext d 36 7 [some (va_rf r0), some (va_rf r1), some (.int (x2 + 1))] [] S Q) : aw ext d 36 38 [some (va_rf r0), some (va_rf r1), some (.int x2)] [] S Q := by
  refine aw_inc j36_38 rfl ?_
  exact aw_goto j36_41 k_1
theorem bk36_44 {r0 : Option Nat} {r1 : Option Nat} {x2 : Int32}  (k_1 : Q none S) : aw ext d 36 44 [some (va_rf r0), some (va_rf r1), some (.int x2)] [] S Q := by
  exact aw_vret j36_44 rt36 k_1
/-! Steps_addLinks -/
theorem bk37_0 {r0 : Option Nat} {r1 : Option Nat} {r2 : Option Nat} {o3 : Option Value}  (k_2 : r1 = none → aw ext d 37 4 [some (va_rf r0), some (va_rf r1), some (va_rf r2), o3] [] S Q) (k_3 : ∀ c_1, r1 = some c_1 → aw ext d 37 5 [some (va_rf r0), some (va_rf r1), some (va_rf r2), o3] [] S Q) : aw ext d 37 0 [some (va_rf r0), some (va_rf r1), some (va_rf r2), o3] [] S Q := by
  refine aw_ald j37_0 rfl (av_isR_rf r1) ?_
  exact aw_nonn (r := r1) j37_1 k_2 k_3
theorem bk37_4 {r0 : Option Nat} {r1 : Option Nat} {r2 : Option Nat} {o3 : Option Value}  (k_1 : Q none S) : aw ext d 37 4 [some (va_rf r0), some (va_rf r1), some (va_rf r2), o3] [] S Q := by
  exact aw_vret j37_4 rt37 k_1
theorem bk37_5 {r0 : Option Nat} {r1 : Option Nat} {r2 : Option Nat} {o3 : Option Value}  (k_1 : aw ext d 37 7 [some (va_rf r0), some (va_rf r1), some (va_rf r2), some (.int (0 : Int32))] [] S Q) : aw ext d 37 5 [some (va_rf r0), some (va_rf r1), some (va_rf r2), o3] [] S Q := by
  refine aw_con j37_5 ?_
  refine aw_ist j37_6 (Nat.le_of_ble_eq_true rfl) ?_
  exact k_1
theorem bk37_7 {r0 : Option Nat} {a1 : Nat} {r2 : Option Nat} {x3 : Int32} {y2 : Int32} (t_1 : S.1 a1 = some (.inl 8)) (f_3 : S.2.1 a1 5 = .int y2) (k_4 : (y2 ≤ x3) → aw ext d 37 77 [some (va_rf r0), some (.ref a1), some (va_rf r2), some (.int x3)] [] S Q) (k_5 : (¬ (y2 ≤ x3)) → aw ext d 37 15 [some (va_rf r0), some (.ref a1), some (va_rf r2), some (.int x3)] [] S Q) : aw ext d 37 7 [some (va_rf r0), some (.ref a1), some (va_rf r2), some (.int x3)] [] S Q := by
  refine aw_ild j37_7 rfl ?_
  refine aw_ald j37_8 rfl rfl ?_
  refine aw_get j37_9 t_1 f_3 ?_
  exact aw_ic j37_12 (fun h => k_4 (of_decide_eq_true h)) (fun h => k_5 (of_decide_eq_false h))
theorem bk37_15 {r0 : Option Nat} {a1 : Nat} {r2 : Option Nat} {x3 : Int32} {b2 : Nat} {n_4 : Nat} (t_1 : S.1 a1 = some (.inl 8)) (f_3 : S.2.1 a1 4 = .ref b2) (t_5 : S.1 b2 = some (.inr (8, n_4))) (b_6 : n_4 < 2147483648) (k_7 : ((nI n_4) ≤ x3) → aw ext d 37 77 [some (va_rf r0), some (.ref a1), some (va_rf r2), some (.int x3)] [] S Q) (k_8 : (¬ ((nI n_4) ≤ x3)) → aw ext d 37 24 [some (va_rf r0), some (.ref a1), some (va_rf r2), some (.int x3)] [] S Q) : aw ext d 37 15 [some (va_rf r0), some (.ref a1), some (va_rf r2), some (.int x3)] [] S Q := by
  refine aw_ild j37_15 rfl ?_
  refine aw_ald j37_16 rfl rfl ?_
  refine aw_get j37_17 t_1 f_3 ?_
  refine aw_len j37_20 t_5 ?_
  exact aw_ic j37_21 (fun h => k_7 (of_decide_eq_true h)) (fun h => k_8 (of_decide_eq_false h))
theorem bk37_24 {a0 : Nat} {r1 : Option Nat} {r2 : Option Nat} {x3 : Int32} {y2 : Int32} {b4 : Nat} {n_6 : Nat} (t_1 : S.1 a0 = some (.inl 3)) (f_3 : S.2.1 a0 2 = .int y2) (f_5 : S.2.1 a0 0 = .ref b4) (t_7 : S.1 b4 = some (.inr (8, n_6))) (b_8 : n_6 < 2147483648) (k_9 : ((nI n_6) ≤ y2) → aw ext d 37 71 [some (.ref a0), some (va_rf r1), some (va_rf r2), some (.int x3)] [] S Q) (k_10 : (¬ ((nI n_6) ≤ y2)) → aw ext d 37 36 [some (.ref a0), some (va_rf r1), some (va_rf r2), some (.int x3)] [] S Q) : aw ext d 37 24 [some (.ref a0), some (va_rf r1), some (va_rf r2), some (.int x3)] [] S Q := by
  refine aw_ald j37_24 rfl rfl ?_
  refine aw_get j37_25 t_1 f_3 ?_
  refine aw_ald j37_28 rfl rfl ?_
  refine aw_get j37_29 t_1 f_5 ?_
  refine aw_len j37_32 t_7 ?_
  exact aw_ic j37_33 (fun h => k_9 (of_decide_eq_true h)) (fun h => k_10 (of_decide_eq_false h))
theorem bk37_36 {a0 : Nat} {a1 : Nat} {r2 : Option Nat} {x3 : Int32} {b2 : Nat} {y4 : Int32} {b7 : Nat} {n_9 : Nat} {i_12 : Nat} {q15 : Option Nat} {n_17 : Nat} {i_20 : Nat} {b25 : Nat} {y27 : Int32} {n_29 : Nat} {i_32 : Nat} {y37 : Int32} (t_1 : S.1 a0 = some (.inl 3)) (f_3 : S.2.1 a0 0 = .ref b2) (f_5 : S.2.1 a0 2 = .int y4) (t_6 : S.1 a1 = some (.inl 8)) (f_8 : S.2.1 a1 4 = .ref b7) (t_10 : S.1 b7 = some (.inr (8, n_9))) (b_11 : n_9 < 2147483648) (e_13 : x3 = nI i_12) (c_14 : i_12 < n_9) (f_16 : S.2.1 b7 i_12 = va_rf q15) (t_18 : S.1 b2 = some (.inr (8, n_17))) (b_19 : n_17 < 2147483648) (e_21 : y4 = nI i_20) (c_22 : i_20 < n_17) (t_24 : ∀ w_23, q15 = some w_23 → S.1 w_23 = some (.inl 9)) (f_26 : (av_set S b2 i_20 (va_rf q15)).2.1 a0 1 = .ref b25) (f_28 : (av_set S b2 i_20 (va_rf q15)).2.1 a0 2 = .int y27) (t_30 : (av_set S b2 i_20 (va_rf q15)).1 b25 = some (.inr (7, n_29))) (b_31 : n_29 < 2147483648) (e_33 : y27 = nI i_32) (c_34 : i_32 < n_29) (t_36 : ∀ w_35, r2 = some w_35 → (av_set S b2 i_20 (va_rf q15)).1 w_35 = some (.inl 8)) (f_38 : (av_set (av_set S b2 i_20 (va_rf q15)) b25 i_32 (va_rf r2)).2.1 a0 2 = .int y37) (k_39 : aw ext d 37 71 [some (.ref a0), some (.ref a1), some (va_rf r2), some (.int x3)] [] (av_set (av_set (av_set S b2 i_20 (va_rf q15)) b25 i_32 (va_rf r2)) a0 2 (.int (y37 + (1 : Int32)))) Q) : aw ext d 37 36 [some (.ref a0), some (.ref a1), some (va_rf r2), some (.int x3)] [] S Q := by
  refine aw_ald j37_36 rfl rfl ?_
  refine aw_get j37_37 t_1 f_3 ?_
  refine aw_ald j37_40 rfl rfl ?_
  refine aw_get j37_41 t_1 f_5 ?_
  refine aw_ald j37_44 rfl rfl ?_
  refine aw_get j37_45 t_6 f_8 ?_
  refine aw_ild j37_48 rfl ?_
  refine aw_xld j37_49 t_10 e_13 c_14 b_11 f_16 ?_
  refine aw_ast2 (r := q15) j37_50 t_18 e_21 c_22 b_19 t_24 ?_
  refine aw_ald j37_51 rfl rfl ?_
  refine aw_get j37_52 t_1 f_26 ?_
  refine aw_ald j37_55 rfl rfl ?_
  refine aw_get j37_56 t_1 f_28 ?_
  refine aw_ald j37_59 rfl (av_isR_rf r2) ?_
  refine aw_ast2 (r := r2) j37_60 t_30 e_33 c_34 b_31 t_36 ?_
  refine aw_ald j37_61 rfl rfl ?_
  refine aw_dup j37_62 rfl ?_
  refine aw_get j37_63 t_1 f_38 ?_
  refine aw_con j37_66 ?_
  refine aw_bin (z := (y37 + (1 : Int32))) j37_67 rfl ?_
  refine aw_put j37_68 t_1 rfl ?_
  exact k_39
theorem bk37_71 {r0 : Option Nat} {r1 : Option Nat} {r2 : Option Nat} {x3 : Int32}  (k_1 : aw ext d 37 7 [some (va_rf r0), some (va_rf r1), some (va_rf r2), some (.int (x3 + 1))] [] S Q) : aw ext d 37 71 [some (va_rf r0), some (va_rf r1), some (va_rf r2), some (.int x3)] [] S Q := by
  refine aw_inc j37_71 rfl ?_
  exact aw_goto j37_74 k_1
theorem bk37_77 {r0 : Option Nat} {r1 : Option Nat} {r2 : Option Nat} {x3 : Int32}  (k_1 : Q none S) : aw ext d 37 77 [some (va_rf r0), some (va_rf r1), some (va_rf r2), some (.int x3)] [] S Q := by
  exact aw_vret j37_77 rt37 k_1
/-! Steps_tell -/
theorem bk38_0 {r0 : Option Nat} {x1 : Int32} {x2 : Int32} {o3 : Option Value} {o4 : Option Value}  (k_1 : (x1 < 0) → aw ext d 38 12 [some (va_rf r0), some (.int x1), some (.int x2), o3, o4] [] S Q) (k_2 : (¬ (x1 < 0)) → aw ext d 38 4 [some (va_rf r0), some (.int x1), some (.int x2), o3, o4] [] S Q) : aw ext d 38 0 [some (va_rf r0), some (.int x1), some (.int x2), o3, o4] [] S Q := by
  refine aw_ild j38_0 rfl ?_
  exact aw_if j38_1 (fun h => k_1 (of_decide_eq_true h)) (fun h => k_2 (of_decide_eq_false h))
theorem bk38_4 {a0 : Nat} {x1 : Int32} {x2 : Int32} {o3 : Option Value} {o4 : Option Value} {y2 : Int32} (t_1 : S.1 a0 = some (.inl 3)) (f_3 : S.2.1 a0 2 = .int y2) (k_4 : (x1 < y2) → aw ext d 38 14 [some (.ref a0), some (.int x1), some (.int x2), o3, o4] [] S Q) (k_5 : (¬ (x1 < y2)) → aw ext d 38 12 [some (.ref a0), some (.int x1), some (.int x2), o3, o4] [] S Q) : aw ext d 38 4 [some (.ref a0), some (.int x1), some (.int x2), o3, o4] [] S Q := by
  refine aw_ild j38_4 rfl ?_
  refine aw_ald j38_5 rfl rfl ?_
  refine aw_get j38_6 t_1 f_3 ?_
  exact aw_ic j38_9 (fun h => k_4 (of_decide_eq_true h)) (fun h => k_5 (of_decide_eq_false h))
theorem bk38_12 {r0 : Option Nat} {x1 : Int32} {x2 : Int32} {o3 : Option Value} {o4 : Option Value}  (k_1 : Q (some (.int (-1 : Int32))) S) : aw ext d 38 12 [some (va_rf r0), some (.int x1), some (.int x2), o3, o4] [] S Q := by
  refine aw_con j38_12 ?_
  exact aw_ret j38_13 (by rw [rt38]; exact rfl) k_1
theorem bk38_14 {a0 : Nat} {x1 : Int32} {x2 : Int32} {o3 : Option Value} {o4 : Option Value} {b2 : Nat} {n_4 : Nat} {i_7 : Nat} {q10 : Option Nat} {b12 : Nat} {n_14 : Nat} {i_17 : Nat} {q20 : Option Nat} (t_1 : S.1 a0 = some (.inl 3)) (f_3 : S.2.1 a0 0 = .ref b2) (t_5 : S.1 b2 = some (.inr (8, n_4))) (b_6 : n_4 < 2147483648) (e_8 : x1 = nI i_7) (c_9 : i_7 < n_4) (f_11 : S.2.1 b2 i_7 = va_rf q10) (f_13 : S.2.1 a0 1 = .ref b12) (t_15 : S.1 b12 = some (.inr (7, n_14))) (b_16 : n_14 < 2147483648) (e_18 : x1 = nI i_17) (c_19 : i_17 < n_14) (f_21 : S.2.1 b12 i_17 = va_rf q20) (k_23 : q10 = none → aw ext d 38 38 [some (.ref a0), some (.int x1), some (.int x2), some (va_rf q10), some (va_rf q20)] [] S Q) (k_24 : ∀ c_22, q10 = some c_22 → aw ext d 38 33 [some (.ref a0), some (.int x1), some (.int x2), some (va_rf q10), some (va_rf q20)] [] S Q) : aw ext d 38 14 [some (.ref a0), some (.int x1), some (.int x2), o3, o4] [] S Q := by
  refine aw_ald j38_14 rfl rfl ?_
  refine aw_get j38_15 t_1 f_3 ?_
  refine aw_ild j38_18 rfl ?_
  refine aw_xld j38_19 t_5 e_8 c_9 b_6 f_11 ?_
  refine aw_ast j38_20 (av_isR_rf q10) (Nat.le_of_ble_eq_true rfl) ?_
  refine aw_ald j38_21 rfl rfl ?_
  refine aw_get j38_22 t_1 f_13 ?_
  refine aw_ild j38_25 rfl ?_
  refine aw_xld j38_26 t_15 e_18 c_19 b_16 f_21 ?_
  refine aw_ast j38_27 (av_isR_rf q20) (Nat.le_of_ble_eq_true rfl) ?_
  refine aw_ald j38_29 rfl (av_isR_rf q10) ?_
  exact aw_null (r := q10) j38_30 k_23 k_24
theorem bk38_33 {r0 : Option Nat} {x1 : Int32} {x2 : Int32} {r3 : Option Nat} {r4 : Option Nat}  (k_2 : r4 = none → aw ext d 38 38 [some (va_rf r0), some (.int x1), some (.int x2), some (va_rf r3), some (va_rf r4)] [] S Q) (k_3 : ∀ c_1, r4 = some c_1 → aw ext d 38 40 [some (va_rf r0), some (.int x1), some (.int x2), some (va_rf r3), some (va_rf r4)] [] S Q) : aw ext d 38 33 [some (va_rf r0), some (.int x1), some (.int x2), some (va_rf r3), some (va_rf r4)] [] S Q := by
  refine aw_ald j38_33 rfl (av_isR_rf r4) ?_
  exact aw_nonn (r := r4) j38_35 k_2 k_3
theorem bk38_38 {r0 : Option Nat} {x1 : Int32} {x2 : Int32} {r3 : Option Nat} {r4 : Option Nat}  (k_1 : Q (some (.int (-1 : Int32))) S) : aw ext d 38 38 [some (va_rf r0), some (.int x1), some (.int x2), some (va_rf r3), some (va_rf r4)] [] S Q := by
  refine aw_con j38_38 ?_
  exact aw_ret j38_39 (by rw [rt38]; exact rfl) k_1
theorem bk38_40 {r0 : Option Nat} {x1 : Int32} {x2 : Int32} {r3 : Option Nat} {r4 : Option Nat}  (k_1 : aw ext d 38 (if x2.toInt < (0 : Int32).toInt then 108 else List.getD [76, 84, 92, 97, 102] (x2.toInt - (0 : Int32).toInt).toNat 108) [some (va_rf r0), some (.int x1), some (.int x2), some (va_rf r3), some (va_rf r4)] [] S Q) : aw ext d 38 40 [some (va_rf r0), some (.int x1), some (.int x2), some (va_rf r3), some (va_rf r4)] [] S Q := by
  refine aw_ild j38_40 rfl ?_
  exact aw_tsw j38_41 k_1
theorem bk38_76 {r0 : Option Nat} {x1 : Int32} {x2 : Int32} {a3 : Nat} {r4 : Option Nat} {b2 : Nat} {y5 : Int32} (t_1 : S.1 a3 = some (.inl 9)) (f_3 : S.2.1 a3 0 = .ref b2) (t_4 : S.1 b2 = some (.inl 8)) (f_6 : S.2.1 b2 0 = .int y5) (k_7 : Q (some (.int y5)) S) : aw ext d 38 76 [some (va_rf r0), some (.int x1), some (.int x2), some (.ref a3), some (va_rf r4)] [] S Q := by
  refine aw_ald j38_76 rfl rfl ?_
  refine aw_get j38_77 t_1 f_3 ?_
  refine aw_get j38_80 t_4 f_6 ?_
  exact aw_ret j38_83 (by rw [rt38]; exact rfl) k_7
theorem bk38_84 {r0 : Option Nat} {x1 : Int32} {x2 : Int32} {a3 : Nat} {r4 : Option Nat} {b2 : Nat} {y5 : Int32} (t_1 : S.1 a3 = some (.inl 9)) (f_3 : S.2.1 a3 1 = .ref b2) (t_4 : S.1 b2 = some (.inl 6)) (f_6 : S.2.1 b2 0 = .int y5) (k_7 : Q (some (.int y5)) S) : aw ext d 38 84 [some (va_rf r0), some (.int x1), some (.int x2), some (.ref a3), some (va_rf r4)] [] S Q := by
  refine aw_ald j38_84 rfl rfl ?_
  refine aw_get j38_85 t_1 f_3 ?_
  refine aw_get j38_88 t_4 f_6 ?_
  exact aw_ret j38_91 (by rw [rt38]; exact rfl) k_7
theorem bk38_92 {r0 : Option Nat} {x1 : Int32} {x2 : Int32} {a3 : Nat} {r4 : Option Nat} {y2 : Int32} (t_1 : S.1 a3 = some (.inl 9)) (f_3 : S.2.1 a3 2 = .int y2) (k_4 : Q (some (.int y2)) S) : aw ext d 38 92 [some (va_rf r0), some (.int x1), some (.int x2), some (.ref a3), some (va_rf r4)] [] S Q := by
  refine aw_ald j38_92 rfl rfl ?_
  refine aw_get j38_93 t_1 f_3 ?_
  exact aw_ret j38_96 (by rw [rt38]; exact rfl) k_4
theorem bk38_97 {r0 : Option Nat} {x1 : Int32} {x2 : Int32} {a3 : Nat} {r4 : Option Nat} {y2 : Int32} (t_1 : S.1 a3 = some (.inl 9)) (f_3 : S.2.1 a3 3 = .int y2) (k_4 : Q (some (.int y2)) S) : aw ext d 38 97 [some (va_rf r0), some (.int x1), some (.int x2), some (.ref a3), some (va_rf r4)] [] S Q := by
  refine aw_ald j38_97 rfl rfl ?_
  refine aw_get j38_98 t_1 f_3 ?_
  exact aw_ret j38_101 (by rw [rt38]; exact rfl) k_4
theorem bk38_102 {r0 : Option Nat} {x1 : Int32} {x2 : Int32} {r3 : Option Nat} {a4 : Nat} {y2 : Int32} (t_1 : S.1 a4 = some (.inl 8)) (f_3 : S.2.1 a4 0 = .int y2) (k_4 : Q (some (.int y2)) S) : aw ext d 38 102 [some (va_rf r0), some (.int x1), some (.int x2), some (va_rf r3), some (.ref a4)] [] S Q := by
  refine aw_ald j38_102 rfl rfl ?_
  refine aw_get j38_104 t_1 f_3 ?_
  exact aw_ret j38_107 (by rw [rt38]; exact rfl) k_4
theorem bk38_108 {r0 : Option Nat} {x1 : Int32} {x2 : Int32} {r3 : Option Nat} {r4 : Option Nat}  (k_1 : Q (some (.int (-1 : Int32))) S) : aw ext d 38 108 [some (va_rf r0), some (.int x1), some (.int x2), some (va_rf r3), some (va_rf r4)] [] S Q := by
  refine aw_con j38_108 ?_
  exact aw_ret j38_109 (by rw [rt38]; exact rfl) k_1
/-! Faults_init -/
theorem bk39_0 {a0 : Nat}  (k_1 : aw ext (d + 1) 39 4 [some (.ref a0)] [] S Q) : aw ext (d + 1) 39 0 [some (.ref a0)] [] S Q := by
  refine aw_ald j39_0 rfl rfl ?_
  exact aw_obj j39_1 (Nat.le_of_ble_eq_true rfl) k_1
theorem bk39_4 {r0 : Option Nat}  (k_1 : aw ext d 39 10 [some (va_rf r0)] [.ref S.2.2.1, va_rf r0] (av_new S (.inr (0, 300)) (fun _ => defaultValue (sm_aT 0)) 300) Q) : aw ext d 39 4 [some (va_rf r0)] [] S Q := by
  refine aw_ald j39_4 rfl (av_isR_rf r0) ?_
  refine aw_con j39_5 ?_
  refine aw_newa (n := 300) j39_8 (by decide) (by decide) ?_
  exact k_1
theorem bk39_10 {r0 : Option Nat} {ak0 : Nat} {rk1 : Option Nat} (t_1 : S.1 ak0 = some (.inl 4)) (k_2 : aw ext d 39 19 [some (va_rf r0)] [.ref (av_set S ak0 0 (va_rf rk1)).2.2.1, va_rf r0] (av_new (av_set S ak0 0 (va_rf rk1)) (.inr (0, 300)) (fun _ => defaultValue (sm_aT 0)) 300) Q) : aw ext d 39 10 [some (va_rf r0)] [va_rf rk1, .ref ak0] S Q := by
  refine aw_put j39_10 t_1 (av_fa_rf _ rk1) ?_
  refine aw_ald j39_13 rfl (av_isR_rf r0) ?_
  refine aw_con j39_14 ?_
  refine aw_newa (n := 300) j39_17 (by decide) (by decide) ?_
  exact k_2
theorem bk39_19 {a0 : Nat} {ak0 : Nat} {rk1 : Option Nat} (t_1 : S.1 ak0 = some (.inl 4)) (t_2 : (av_set S ak0 1 (va_rf rk1)).1 a0 = some (.inl 4)) (k_3 : Q none (av_set (av_set S ak0 1 (va_rf rk1)) a0 2 (.int (0 : Int32)))) : aw ext d 39 19 [some (.ref a0)] [va_rf rk1, .ref ak0] S Q := by
  refine aw_put j39_19 t_1 (av_fa_rf _ rk1) ?_
  refine aw_ald j39_22 rfl rfl ?_
  refine aw_con j39_23 ?_
  refine aw_put j39_24 t_2 rfl ?_
  exact aw_vret j39_27 rt39 k_3
/-! Faults_add -/
theorem bk40_0 {a0 : Nat} {x1 : Int32} {x2 : Int32} {y2 : Int32} {b4 : Nat} {n_6 : Nat} (t_1 : S.1 a0 = some (.inl 4)) (f_3 : S.2.1 a0 2 = .int y2) (f_5 : S.2.1 a0 0 = .ref b4) (t_7 : S.1 b4 = some (.inr (0, n_6))) (b_8 : n_6 < 2147483648) (k_9 : ((nI n_6) ≤ y2) → aw ext d 40 54 [some (.ref a0), some (.int x1), some (.int x2)] [] S Q) (k_10 : (¬ ((nI n_6) ≤ y2)) → aw ext d 40 12 [some (.ref a0), some (.int x1), some (.int x2)] [] S Q) : aw ext d 40 0 [some (.ref a0), some (.int x1), some (.int x2)] [] S Q := by
  refine aw_ald j40_0 rfl rfl ?_
  refine aw_get j40_1 t_1 f_3 ?_
  refine aw_ald j40_4 rfl rfl ?_
  refine aw_get j40_5 t_1 f_5 ?_
  refine aw_len j40_8 t_7 ?_
  exact aw_ic j40_9 (fun h => k_9 (of_decide_eq_true h)) (fun h => k_10 (of_decide_eq_false h))
theorem bk40_12 {a0 : Nat} {x1 : Int32} {x2 : Int32} {y2 : Int32} {b4 : Nat} {n_6 : Nat} (t_1 : S.1 a0 = some (.inl 4)) (f_3 : S.2.1 a0 2 = .int y2) (f_5 : S.2.1 a0 1 = .ref b4) (t_7 : S.1 b4 = some (.inr (0, n_6))) (b_8 : n_6 < 2147483648) (k_9 : ((nI n_6) ≤ y2) → aw ext d 40 54 [some (.ref a0), some (.int x1), some (.int x2)] [] S Q) (k_10 : (¬ ((nI n_6) ≤ y2)) → aw ext d 40 24 [some (.ref a0), some (.int x1), some (.int x2)] [] S Q) : aw ext d 40 12 [some (.ref a0), some (.int x1), some (.int x2)] [] S Q := by
  refine aw_ald j40_12 rfl rfl ?_
  refine aw_get j40_13 t_1 f_3 ?_
  refine aw_ald j40_16 rfl rfl ?_
  refine aw_get j40_17 t_1 f_5 ?_
  refine aw_len j40_20 t_7 ?_
  exact aw_ic j40_21 (fun h => k_9 (of_decide_eq_true h)) (fun h => k_10 (of_decide_eq_false h))
theorem bk40_24 {a0 : Nat} {x1 : Int32} {x2 : Int32} {b2 : Nat} {y4 : Int32} {n_6 : Nat} {i_9 : Nat} {b12 : Nat} {y14 : Int32} {n_16 : Nat} {i_19 : Nat} {y22 : Int32} (t_1 : S.1 a0 = some (.inl 4)) (f_3 : S.2.1 a0 0 = .ref b2) (f_5 : S.2.1 a0 2 = .int y4) (t_7 : S.1 b2 = some (.inr (0, n_6))) (b_8 : n_6 < 2147483648) (e_10 : y4 = nI i_9) (c_11 : i_9 < n_6) (f_13 : (av_set S b2 i_9 (.int x1)).2.1 a0 1 = .ref b12) (f_15 : (av_set S b2 i_9 (.int x1)).2.1 a0 2 = .int y14) (t_17 : (av_set S b2 i_9 (.int x1)).1 b12 = some (.inr (0, n_16))) (b_18 : n_16 < 2147483648) (e_20 : y14 = nI i_19) (c_21 : i_19 < n_16) (f_23 : (av_set (av_set S b2 i_9 (.int x1)) b12 i_19 (.int x2)).2.1 a0 2 = .int y22) (k_24 : aw ext d 40 54 [some (.ref a0), some (.int x1), some (.int x2)] [] (av_set (av_set (av_set S b2 i_9 (.int x1)) b12 i_19 (.int x2)) a0 2 (.int (y22 + (1 : Int32)))) Q) : aw ext d 40 24 [some (.ref a0), some (.int x1), some (.int x2)] [] S Q := by
  refine aw_ald j40_24 rfl rfl ?_
  refine aw_get j40_25 t_1 f_3 ?_
  refine aw_ald j40_28 rfl rfl ?_
  refine aw_get j40_29 t_1 f_5 ?_
  refine aw_ild j40_32 rfl ?_
  refine aw_xst j40_33 t_7 e_10 c_11 b_8 ?_
  refine aw_ald j40_34 rfl rfl ?_
  refine aw_get j40_35 t_1 f_13 ?_
  refine aw_ald j40_38 rfl rfl ?_
  refine aw_get j40_39 t_1 f_15 ?_
  refine aw_ild j40_42 rfl ?_
  refine aw_xst j40_43 t_17 e_20 c_21 b_18 ?_
  refine aw_ald j40_44 rfl rfl ?_
  refine aw_dup j40_45 rfl ?_
  refine aw_get j40_46 t_1 f_23 ?_
  refine aw_con j40_49 ?_
  refine aw_bin (z := (y22 + (1 : Int32))) j40_50 rfl ?_
  refine aw_put j40_51 t_1 rfl ?_
  exact k_24
theorem bk40_54 {r0 : Option Nat} {x1 : Int32} {x2 : Int32}  (k_1 : Q none S) : aw ext d 40 54 [some (va_rf r0), some (.int x1), some (.int x2)] [] S Q := by
  exact aw_vret j40_54 rt40 k_1
/-! Signs_init -/
theorem bk41_0 {a0 : Nat}  (k_1 : aw ext (d + 1) 41 4 [some (.ref a0)] [] S Q) : aw ext (d + 1) 41 0 [some (.ref a0)] [] S Q := by
  refine aw_ald j41_0 rfl rfl ?_
  exact aw_obj j41_1 (Nat.le_of_ble_eq_true rfl) k_1
theorem bk41_4 {r0 : Option Nat}  (k_1 : aw ext d 41 10 [some (va_rf r0)] [.ref S.2.2.1, va_rf r0] (av_new S (.inr (1, 7860)) (fun _ => defaultValue (sm_aT 1)) 7860) Q) : aw ext d 41 4 [some (va_rf r0)] [] S Q := by
  refine aw_ald j41_4 rfl (av_isR_rf r0) ?_
  refine aw_con j41_5 ?_
  refine aw_newa (n := 7860) j41_8 (by decide) (by decide) ?_
  exact k_1
theorem bk41_10 {a0 : Nat} {ak0 : Nat} {rk1 : Option Nat} (t_1 : S.1 ak0 = some (.inl 5)) (t_2 : (av_set S ak0 0 (va_rf rk1)).1 a0 = some (.inl 5)) (k_3 : Q none (av_set (av_set S ak0 0 (va_rf rk1)) a0 1 (.int (0 : Int32)))) : aw ext d 41 10 [some (.ref a0)] [va_rf rk1, .ref ak0] S Q := by
  refine aw_put j41_10 t_1 (av_fa_rf _ rk1) ?_
  refine aw_ald j41_13 rfl rfl ?_
  refine aw_con j41_14 ?_
  refine aw_put j41_15 t_2 rfl ?_
  exact aw_vret j41_18 rt41 k_3
/-! Signs_putLine -/
theorem bk42_0 {r0 : Option Nat} {a1 : Nat} {o2 : Option Value} {o3 : Option Value} {P_1 : Int32 → av_St → Prop} (t_4 : S.1 a1 = some (.inl 8)) (m_5 : cti ext d 58 [.ref a1] S P_1) (k_6 : ∀ v_3 S_2, P_1 v_3 S_2 → aw ext (d + 1) 42 4 [some (va_rf r0), some (.ref a1), o2, o3] [.int v_3] S_2 Q) : aw ext (d + 1) 42 0 [some (va_rf r0), some (.ref a1), o2, o3] [] S Q := by
  refine aw_ald j42_0 rfl rfl ?_
  exact aw_calli (as := [.ref a1]) j42_1 rfl rfl (Nat.le_of_ble_eq_true rfl) cy58.1 cy58.2 (cs_cons rfl cs_nil) (decide_eq_true t_4) m_5 k_6
theorem bk42_4 {r0 : Option Nat} {r1 : Option Nat} {o2 : Option Value} {o3 : Option Value} {xk0 : Int32}  (k_1 : aw ext d 42 7 [some (va_rf r0), some (va_rf r1), some (.int xk0), some (.int (0 : Int32))] [] S Q) : aw ext d 42 4 [some (va_rf r0), some (va_rf r1), o2, o3] [.int xk0] S Q := by
  refine aw_ist j42_4 (Nat.le_of_ble_eq_true rfl) ?_
  refine aw_con j42_5 ?_
  refine aw_ist j42_6 (Nat.le_of_ble_eq_true rfl) ?_
  exact k_1
theorem bk42_7 {r0 : Option Nat} {r1 : Option Nat} {x2 : Int32} {x3 : Int32}  (k_1 : (x2 ≤ x3) → aw ext d 42 24 [some (va_rf r0), some (va_rf r1), some (.int x2), some (.int x3)] [] S Q) (k_2 : (¬ (x2 ≤ x3)) → aw ext d 42 12 [some (va_rf r0), some (va_rf r1), some (.int x2), some (.int x3)] [] S Q) : aw ext d 42 7 [some (va_rf r0), some (va_rf r1), some (.int x2), some (.int x3)] [] S Q := by
  refine aw_ild j42_7 rfl ?_
  refine aw_ild j42_8 rfl ?_
  exact aw_ic j42_9 (fun h => k_1 (of_decide_eq_true h)) (fun h => k_2 (of_decide_eq_false h))
theorem bk42_12 {a0 : Nat} {r1 : Option Nat} {x2 : Int32} {x3 : Int32} {P_1 : av_St → Prop} (t_4 : S.1 a0 = some (.inl 5)) (m_5 : ctv ext d 43 [.ref a0, .int (32 : Int32)] S P_1) (k_6 : ∀ S_2, P_1 S_2 → aw ext (d + 1) 42 18 [some (.ref a0), some (va_rf r1), some (.int x2), some (.int x3)] [] S_2 Q) : aw ext (d + 1) 42 12 [some (.ref a0), some (va_rf r1), some (.int x2), some (.int x3)] [] S Q := by
  refine aw_ald j42_12 rfl rfl ?_
  refine aw_con j42_13 ?_
  exact aw_callv (as := [.ref a0, .int (32 : Int32)]) j42_15 rfl rfl (Nat.le_of_ble_eq_true rfl) cy43.1 cy43.2 (cs_cons rfl (cs_cons rfl cs_nil)) (decide_eq_true t_4) m_5 k_6
theorem bk42_18 {r0 : Option Nat} {r1 : Option Nat} {x2 : Int32} {x3 : Int32}  (k_1 : aw ext d 42 7 [some (va_rf r0), some (va_rf r1), some (.int x2), some (.int (x3 + 1))] [] S Q) : aw ext d 42 18 [some (va_rf r0), some (va_rf r1), some (.int x2), some (.int x3)] [] S Q := by
  refine aw_inc j42_18 rfl ?_
  exact aw_goto j42_21 k_1
theorem bk42_24 {a0 : Nat} {a1 : Nat} {x2 : Int32} {x3 : Int32} {y2 : Int32} {P_4 : av_St → Prop} (t_1 : S.1 a1 = some (.inl 8)) (f_3 : S.2.1 a1 3 = .int y2) (t_7 : S.1 a0 = some (.inl 5)) (m_8 : ctv ext d 44 [.ref a0, .int y2] S P_4) (k_9 : ∀ S_5, P_4 S_5 → aw ext (d + 1) 42 32 [some (.ref a0), some (.ref a1), some (.int x2), some (.int x3)] [] S_5 Q) : aw ext (d + 1) 42 24 [some (.ref a0), some (.ref a1), some (.int x2), some (.int x3)] [] S Q := by
  refine aw_ald j42_24 rfl rfl ?_
  refine aw_ald j42_25 rfl rfl ?_
  refine aw_get j42_26 t_1 f_3 ?_
  exact aw_callv (as := [.ref a0, .int y2]) j42_29 rfl rfl (Nat.le_of_ble_eq_true rfl) cy44.1 cy44.2 (cs_cons rfl (cs_cons rfl cs_nil)) (decide_eq_true t_7) m_8 k_9
theorem bk42_32 {r0 : Option Nat} {a1 : Nat} {x2 : Int32} {x3 : Int32} {q2 : Option Nat} (t_1 : S.1 a1 = some (.inl 8)) (f_3 : S.2.1 a1 9 = va_rf q2) (k_5 : q2 = none → aw ext d 42 45 [some (va_rf r0), some (.ref a1), some (.int x2), some (.int x3)] [] S Q) (k_6 : ∀ c_4, q2 = some c_4 → aw ext d 42 39 [some (va_rf r0), some (.ref a1), some (.int x2), some (.int x3)] [] S Q) : aw ext d 42 32 [some (va_rf r0), some (.ref a1), some (.int x2), some (.int x3)] [] S Q := by
  refine aw_ald j42_32 rfl rfl ?_
  refine aw_get j42_33 t_1 f_3 ?_
  exact aw_null (r := q2) j42_36 k_5 k_6
theorem bk42_39 {a0 : Nat} {r1 : Option Nat} {x2 : Int32} {x3 : Int32} {P_1 : av_St → Prop} (t_4 : S.1 a0 = some (.inl 5)) (m_5 : ctv ext d 43 [.ref a0, .int (61 : Int32)] S P_1) (k_6 : ∀ S_2, P_1 S_2 → aw ext (d + 1) 42 45 [some (.ref a0), some (va_rf r1), some (.int x2), some (.int x3)] [] S_2 Q) : aw ext (d + 1) 42 39 [some (.ref a0), some (va_rf r1), some (.int x2), some (.int x3)] [] S Q := by
  refine aw_ald j42_39 rfl rfl ?_
  refine aw_con j42_40 ?_
  exact aw_callv (as := [.ref a0, .int (61 : Int32)]) j42_42 rfl rfl (Nat.le_of_ble_eq_true rfl) cy43.1 cy43.2 (cs_cons rfl (cs_cons rfl cs_nil)) (decide_eq_true t_4) m_5 k_6
theorem bk42_45 {a0 : Nat} {r1 : Option Nat} {x2 : Int32} {x3 : Int32} {P_1 : av_St → Prop} (t_4 : S.1 a0 = some (.inl 5)) (m_5 : ctv ext d 43 [.ref a0, .int (10 : Int32)] S P_1) (k_6 : ∀ S_2, P_1 S_2 → aw ext (d + 1) 42 51 [some (.ref a0), some (va_rf r1), some (.int x2), some (.int x3)] [] S_2 Q) : aw ext (d + 1) 42 45 [some (.ref a0), some (va_rf r1), some (.int x2), some (.int x3)] [] S Q := by
  refine aw_ald j42_45 rfl rfl ?_
  refine aw_con j42_46 ?_
  exact aw_callv (as := [.ref a0, .int (10 : Int32)]) j42_48 rfl rfl (Nat.le_of_ble_eq_true rfl) cy43.1 cy43.2 (cs_cons rfl (cs_cons rfl cs_nil)) (decide_eq_true t_4) m_5 k_6
theorem bk42_51 {r0 : Option Nat} {r1 : Option Nat} {x2 : Int32} {x3 : Int32}  (k_1 : Q none S) : aw ext d 42 51 [some (va_rf r0), some (va_rf r1), some (.int x2), some (.int x3)] [] S Q := by
  exact aw_vret j42_51 rt42 k_1
/-! Signs_put -/
theorem bk43_0 {a0 : Nat} {x1 : Int32} {y2 : Int32} {b4 : Nat} {n_6 : Nat} (t_1 : S.1 a0 = some (.inl 5)) (f_3 : S.2.1 a0 1 = .int y2) (f_5 : S.2.1 a0 0 = .ref b4) (t_7 : S.1 b4 = some (.inr (1, n_6))) (b_8 : n_6 < 2147483648) (k_9 : ((nI n_6) ≤ y2) → aw ext d 43 32 [some (.ref a0), some (.int x1)] [] S Q) (k_10 : (¬ ((nI n_6) ≤ y2)) → aw ext d 43 12 [some (.ref a0), some (.int x1)] [] S Q) : aw ext d 43 0 [some (.ref a0), some (.int x1)] [] S Q := by
  refine aw_ald j43_0 rfl rfl ?_
  refine aw_get j43_1 t_1 f_3 ?_
  refine aw_ald j43_4 rfl rfl ?_
  refine aw_get j43_5 t_1 f_5 ?_
  refine aw_len j43_8 t_7 ?_
  exact aw_ic j43_9 (fun h => k_9 (of_decide_eq_true h)) (fun h => k_10 (of_decide_eq_false h))
theorem bk43_12 {a0 : Nat} {x1 : Int32} {b2 : Nat} {y4 : Int32} {n_6 : Nat} {i_9 : Nat} {y12 : Int32} (t_1 : S.1 a0 = some (.inl 5)) (f_3 : S.2.1 a0 0 = .ref b2) (f_5 : S.2.1 a0 1 = .int y4) (t_7 : S.1 b2 = some (.inr (1, n_6))) (b_8 : n_6 < 2147483648) (e_10 : y4 = nI i_9) (c_11 : i_9 < n_6) (f_13 : (av_set S b2 i_9 (narrow .char (.int x1))).2.1 a0 1 = .int y12) (k_14 : aw ext d 43 32 [some (.ref a0), some (.int x1)] [] (av_set (av_set S b2 i_9 (narrow .char (.int x1))) a0 1 (.int (y12 + (1 : Int32)))) Q) : aw ext d 43 12 [some (.ref a0), some (.int x1)] [] S Q := by
  refine aw_ald j43_12 rfl rfl ?_
  refine aw_get j43_13 t_1 f_3 ?_
  refine aw_ald j43_16 rfl rfl ?_
  refine aw_get j43_17 t_1 f_5 ?_
  refine aw_ild j43_20 rfl ?_
  refine aw_xst j43_21 t_7 e_10 c_11 b_8 ?_
  refine aw_ald j43_22 rfl rfl ?_
  refine aw_dup j43_23 rfl ?_
  refine aw_get j43_24 t_1 f_13 ?_
  refine aw_con j43_27 ?_
  refine aw_bin (z := (y12 + (1 : Int32))) j43_28 rfl ?_
  refine aw_put j43_29 t_1 rfl ?_
  exact k_14
theorem bk43_32 {r0 : Option Nat} {x1 : Int32}  (k_1 : Q none S) : aw ext d 43 32 [some (va_rf r0), some (.int x1)] [] S Q := by
  exact aw_vret j43_32 rt43 k_1
/-! Signs_putNumber -/
theorem bk44_0 {r0 : Option Nat} {x1 : Int32} {o2 : Option Value}  (k_1 : aw ext d 44 4 [some (va_rf r0), some (.int x1), some (.int (1000 : Int32))] [] S Q) : aw ext d 44 0 [some (va_rf r0), some (.int x1), o2] [] S Q := by
  refine aw_con j44_0 ?_
  refine aw_ist j44_3 (Nat.le_of_ble_eq_true rfl) ?_
  exact k_1
theorem bk44_4 {r0 : Option Nat} {x1 : Int32} {x2 : Int32}  (k_1 : (x2 ≤ 0) → aw ext d 44 40 [some (va_rf r0), some (.int x1), some (.int x2)] [] S Q) (k_2 : (¬ (x2 ≤ 0)) → aw ext d 44 8 [some (va_rf r0), some (.int x1), some (.int x2)] [] S Q) : aw ext d 44 4 [some (va_rf r0), some (.int x1), some (.int x2)] [] S Q := by
  refine aw_ild j44_4 rfl ?_
  exact aw_if j44_5 (fun h => k_1 (of_decide_eq_true h)) (fun h => k_2 (of_decide_eq_false h))
theorem bk44_8 {r0 : Option Nat} {x1 : Int32} {x2 : Int32}  (k_1 : (x2 ≤ x1) → aw ext d 44 18 [some (va_rf r0), some (.int x1), some (.int x2)] [] S Q) (k_2 : (¬ (x2 ≤ x1)) → aw ext d 44 13 [some (va_rf r0), some (.int x1), some (.int x2)] [] S Q) : aw ext d 44 8 [some (va_rf r0), some (.int x1), some (.int x2)] [] S Q := by
  refine aw_ild j44_8 rfl ?_
  refine aw_ild j44_9 rfl ?_
  exact aw_ic j44_10 (fun h => k_1 (of_decide_eq_true h)) (fun h => k_2 (of_decide_eq_false h))
theorem bk44_13 {r0 : Option Nat} {x1 : Int32} {x2 : Int32}  (k_1 : (¬ x2 = (1 : Int32)) → aw ext d 44 32 [some (va_rf r0), some (.int x1), some (.int x2)] [] S Q) (k_2 : (x2 = (1 : Int32)) → aw ext d 44 18 [some (va_rf r0), some (.int x1), some (.int x2)] [] S Q) : aw ext d 44 13 [some (va_rf r0), some (.int x1), some (.int x2)] [] S Q := by
  refine aw_ild j44_13 rfl ?_
  refine aw_con j44_14 ?_
  exact aw_ic j44_15 (fun h => k_1 (of_decide_eq_true h)) (fun h => k_2 (Decidable.of_not_not (of_decide_eq_false h)))
theorem bk44_18 {a0 : Nat} {x1 : Int32} {x2 : Int32} {P_2 : av_St → Prop} (z_1 : ¬ x2 = 0) (t_5 : S.1 a0 = some (.inl 5)) (m_6 : ctv ext d 43 [.ref a0, .int (((48 : Int32) + ((x1 / x2) - (x1 / x2) / (10 : Int32) * (10 : Int32))).toUInt32 % 65536).toInt32] S P_2) (k_7 : ∀ S_3, P_2 S_3 → aw ext (d + 1) 44 32 [some (.ref a0), some (.int x1), some (.int x2)] [] S_3 Q) : aw ext (d + 1) 44 18 [some (.ref a0), some (.int x1), some (.int x2)] [] S Q := by
  refine aw_ald j44_18 rfl rfl ?_
  refine aw_con j44_19 ?_
  refine aw_ild j44_21 rfl ?_
  refine aw_ild j44_22 rfl ?_
  refine aw_bin (z := (x1 / x2)) j44_23 (by simp only [av_bin]; exact if_neg z_1) ?_
  refine aw_con j44_24 ?_
  refine aw_bin (z := ((x1 / x2) - (x1 / x2) / (10 : Int32) * (10 : Int32))) j44_26 (by simp only [av_bin]; exact if_neg (by decide)) ?_
  refine aw_bin (z := ((48 : Int32) + ((x1 / x2) - (x1 / x2) / (10 : Int32) * (10 : Int32)))) j44_27 rfl ?_
  refine aw_i2c j44_28 ?_
  exact aw_callv (as := [.ref a0, .int (((48 : Int32) + ((x1 / x2) - (x1 / x2) / (10 : Int32) * (10 : Int32))).toUInt32 % 65536).toInt32]) j44_29 rfl rfl (Nat.le_of_ble_eq_true rfl) cy43.1 cy43.2 (cs_cons rfl (cs_cons rfl cs_nil)) (decide_eq_true t_5) m_6 k_7
theorem bk44_32 {r0 : Option Nat} {x1 : Int32} {x2 : Int32}  (k_1 : aw ext d 44 4 [some (va_rf r0), some (.int x1), some (.int (x2 / (10 : Int32)))] [] S Q) : aw ext d 44 32 [some (va_rf r0), some (.int x1), some (.int x2)] [] S Q := by
  refine aw_ild j44_32 rfl ?_
  refine aw_con j44_33 ?_
  refine aw_bin (z := (x2 / (10 : Int32))) j44_35 (by simp only [av_bin]; exact if_neg (by decide)) ?_
  refine aw_ist j44_36 (Nat.le_of_ble_eq_true rfl) ?_
  exact aw_goto j44_37 k_1
theorem bk44_40 {r0 : Option Nat} {x1 : Int32} {x2 : Int32}  (k_1 : Q none S) : aw ext d 44 40 [some (va_rf r0), some (.int x1), some (.int x2)] [] S Q := by
  exact aw_vret j44_40 rt44 k_1
/-! File_init -/
theorem bk45_0 {a0 : Nat} {x1 : Int32} {x2 : Int32}  (k_1 : aw ext (d + 1) 45 4 [some (.ref a0), some (.int x1), some (.int x2)] [] S Q) : aw ext (d + 1) 45 0 [some (.ref a0), some (.int x1), some (.int x2)] [] S Q := by
  refine aw_ald j45_0 rfl rfl ?_
  exact aw_obj j45_1 (Nat.le_of_ble_eq_true rfl) k_1
theorem bk45_4 {a0 : Nat} {x1 : Int32} {x2 : Int32} (t_1 : S.1 a0 = some (.inl 6)) (k_2 : Q none (av_set (av_set (av_set S a0 0 (.int x1)) a0 1 (.int x2)) a0 2 (.null))) : aw ext d 45 4 [some (.ref a0), some (.int x1), some (.int x2)] [] S Q := by
  refine aw_ald j45_4 rfl rfl ?_
  refine aw_ild j45_5 rfl ?_
  refine aw_put j45_6 t_1 rfl ?_
  refine aw_ald j45_9 rfl rfl ?_
  refine aw_ild j45_10 rfl ?_
  refine aw_put j45_11 t_1 rfl ?_
  refine aw_ald j45_14 rfl rfl ?_
  refine aw_nul j45_15 ?_
  refine aw_put j45_16 t_1 rfl ?_
  exact aw_vret j45_19 rt45 k_2
/-! File_take -/
theorem bk46_0 {a0 : Nat} {r1 : Option Nat} {o2 : Option Value} {o3 : Option Value} {o4 : Option Value} {q2 : Option Nat} (t_1 : S.1 a0 = some (.inl 6)) (f_3 : S.2.1 a0 2 = va_rf q2) (k_4 : aw ext d 46 10 [some (.ref a0), some (va_rf r1), some (.null), some (va_rf q2), some (.int (0 : Int32))] [] S Q) : aw ext d 46 0 [some (.ref a0), some (va_rf r1), o2, o3, o4] [] S Q := by
  refine aw_nul j46_0 ?_
  refine aw_ast j46_1 rfl (Nat.le_of_ble_eq_true rfl) ?_
  refine aw_ald j46_2 rfl rfl ?_
  refine aw_get j46_3 t_1 f_3 ?_
  refine aw_ast j46_6 (av_isR_rf q2) (Nat.le_of_ble_eq_true rfl) ?_
  refine aw_con j46_7 ?_
  refine aw_ist j46_8 (Nat.le_of_ble_eq_true rfl) ?_
  exact k_4
theorem bk46_10 {r0 : Option Nat} {r1 : Option Nat} {r2 : Option Nat} {r3 : Option Nat} {x4 : Int32}  (k_1 : ((600 : Int32) ≤ x4) → aw ext d 46 46 [some (va_rf r0), some (va_rf r1), some (va_rf r2), some (va_rf r3), some (.int x4)] [] S Q) (k_2 : (¬ ((600 : Int32) ≤ x4)) → aw ext d 46 18 [some (va_rf r0), some (va_rf r1), some (va_rf r2), some (va_rf r3), some (.int x4)] [] S Q) : aw ext d 46 10 [some (va_rf r0), some (va_rf r1), some (va_rf r2), some (va_rf r3), some (.int x4)] [] S Q := by
  refine aw_ild j46_10 rfl ?_
  refine aw_con j46_12 ?_
  exact aw_ic j46_15 (fun h => k_1 (of_decide_eq_true h)) (fun h => k_2 (of_decide_eq_false h))
theorem bk46_18 {r0 : Option Nat} {r1 : Option Nat} {r2 : Option Nat} {r3 : Option Nat} {x4 : Int32}  (k_2 : r3 = none → aw ext d 46 46 [some (va_rf r0), some (va_rf r1), some (va_rf r2), some (va_rf r3), some (.int x4)] [] S Q) (k_3 : ∀ c_1, r3 = some c_1 → aw ext d 46 22 [some (va_rf r0), some (va_rf r1), some (va_rf r2), some (va_rf r3), some (.int x4)] [] S Q) : aw ext d 46 18 [some (va_rf r0), some (va_rf r1), some (va_rf r2), some (va_rf r3), some (.int x4)] [] S Q := by
  refine aw_ald j46_18 rfl (av_isR_rf r3) ?_
  exact aw_null (r := r3) j46_19 k_2 k_3
theorem bk46_22 {r0 : Option Nat} {a1 : Nat} {r2 : Option Nat} {a3 : Nat} {x4 : Int32} {y2 : Int32} {y5 : Int32} (t_1 : S.1 a3 = some (.inl 9)) (f_3 : S.2.1 a3 2 = .int y2) (t_4 : S.1 a1 = some (.inl 9)) (f_6 : S.2.1 a1 2 = .int y5) (k_7 : (y5 < y2) → aw ext d 46 46 [some (va_rf r0), some (.ref a1), some (va_rf r2), some (.ref a3), some (.int x4)] [] S Q) (k_8 : (¬ (y5 < y2)) → aw ext d 46 33 [some (va_rf r0), some (.ref a1), some (va_rf r2), some (.ref a3), some (.int x4)] [] S Q) : aw ext d 46 22 [some (va_rf r0), some (.ref a1), some (va_rf r2), some (.ref a3), some (.int x4)] [] S Q := by
  refine aw_ald j46_22 rfl rfl ?_
  refine aw_get j46_23 t_1 f_3 ?_
  refine aw_ald j46_26 rfl rfl ?_
  refine aw_get j46_27 t_4 f_6 ?_
  exact aw_ic j46_30 (fun h => k_7 (of_decide_eq_true h)) (fun h => k_8 (of_decide_eq_false h))
theorem bk46_33 {r0 : Option Nat} {r1 : Option Nat} {r2 : Option Nat} {a3 : Nat} {x4 : Int32} {q2 : Option Nat} (t_1 : S.1 a3 = some (.inl 9)) (f_3 : S.2.1 a3 4 = va_rf q2) (k_4 : aw ext d 46 10 [some (va_rf r0), some (va_rf r1), some (.ref a3), some (va_rf q2), some (.int (x4 + 1))] [] S Q) : aw ext d 46 33 [some (va_rf r0), some (va_rf r1), some (va_rf r2), some (.ref a3), some (.int x4)] [] S Q := by
  refine aw_ald j46_33 rfl rfl ?_
  refine aw_ast j46_34 rfl (Nat.le_of_ble_eq_true rfl) ?_
  refine aw_ald j46_35 rfl rfl ?_
  refine aw_get j46_36 t_1 f_3 ?_
  refine aw_ast j46_39 (av_isR_rf q2) (Nat.le_of_ble_eq_true rfl) ?_
  refine aw_inc j46_40 rfl ?_
  exact aw_goto j46_43 k_4
theorem bk46_46 {r0 : Option Nat} {a1 : Nat} {r2 : Option Nat} {r3 : Option Nat} {x4 : Int32} (t_1 : S.1 a1 = some (.inl 9)) (k_3 : r2 = none → aw ext d 46 55 [some (va_rf r0), some (.ref a1), some (va_rf r2), some (va_rf r3), some (.int x4)] [] (av_set S a1 4 (va_rf r3)) Q) (k_4 : ∀ c_2, r2 = some c_2 → aw ext d 46 63 [some (va_rf r0), some (.ref a1), some (va_rf r2), some (va_rf r3), some (.int x4)] [] (av_set S a1 4 (va_rf r3)) Q) : aw ext d 46 46 [some (va_rf r0), some (.ref a1), some (va_rf r2), some (va_rf r3), some (.int x4)] [] S Q := by
  refine aw_ald j46_46 rfl rfl ?_
  refine aw_ald j46_47 rfl (av_isR_rf r3) ?_
  refine aw_put j46_48 t_1 (av_fo_rf _ r3) ?_
  refine aw_ald j46_51 rfl (av_isR_rf r2) ?_
  exact aw_nonn (r := r2) j46_52 k_3 k_4
theorem bk46_55 {a0 : Nat} {r1 : Option Nat} {r2 : Option Nat} {r3 : Option Nat} {x4 : Int32} (t_1 : S.1 a0 = some (.inl 6)) (k_2 : aw ext d 46 68 [some (.ref a0), some (va_rf r1), some (va_rf r2), some (va_rf r3), some (.int x4)] [] (av_set S a0 2 (va_rf r1)) Q) : aw ext d 46 55 [some (.ref a0), some (va_rf r1), some (va_rf r2), some (va_rf r3), some (.int x4)] [] S Q := by
  refine aw_ald j46_55 rfl rfl ?_
  refine aw_ald j46_56 rfl (av_isR_rf r1) ?_
  refine aw_put j46_57 t_1 (av_fo_rf _ r1) ?_
  exact aw_goto j46_60 k_2
theorem bk46_63 {r0 : Option Nat} {r1 : Option Nat} {a2 : Nat} {r3 : Option Nat} {x4 : Int32} (t_1 : S.1 a2 = some (.inl 9)) (k_2 : aw ext d 46 68 [some (va_rf r0), some (va_rf r1), some (.ref a2), some (va_rf r3), some (.int x4)] [] (av_set S a2 4 (va_rf r1)) Q) : aw ext d 46 63 [some (va_rf r0), some (va_rf r1), some (.ref a2), some (va_rf r3), some (.int x4)] [] S Q := by
  refine aw_ald j46_63 rfl rfl ?_
  refine aw_ald j46_64 rfl (av_isR_rf r1) ?_
  refine aw_put j46_65 t_1 (av_fo_rf _ r1) ?_
  exact k_2
theorem bk46_68 {r0 : Option Nat} {r1 : Option Nat} {r2 : Option Nat} {r3 : Option Nat} {x4 : Int32}  (k_1 : Q none S) : aw ext d 46 68 [some (va_rf r0), some (va_rf r1), some (va_rf r2), some (va_rf r3), some (.int x4)] [] S Q := by
  exact aw_vret j46_68 rt46 k_1
/-! File_hasPlaceTwice -/
theorem bk47_0 {a0 : Nat} {r1 : Option Nat} {o2 : Option Value} {o3 : Option Value} {o4 : Option Value} {o5 : Option Value} {q2 : Option Nat} (t_1 : S.1 a0 = some (.inl 6)) (f_3 : S.2.1 a0 2 = va_rf q2) (k_4 : aw ext d 47 10 [some (.ref a0), some (va_rf r1), some (.int (0 : Int32)), some (va_rf q2), some (.int (0 : Int32)), o5] [] S Q) : aw ext d 47 0 [some (.ref a0), some (va_rf r1), o2, o3, o4, o5] [] S Q := by
  refine aw_con j47_0 ?_
  refine aw_ist j47_1 (Nat.le_of_ble_eq_true rfl) ?_
  refine aw_ald j47_2 rfl rfl ?_
  refine aw_get j47_3 t_1 f_3 ?_
  refine aw_ast j47_6 (av_isR_rf q2) (Nat.le_of_ble_eq_true rfl) ?_
  refine aw_con j47_7 ?_
  refine aw_ist j47_8 (Nat.le_of_ble_eq_true rfl) ?_
  exact k_4
theorem bk47_10 {r0 : Option Nat} {r1 : Option Nat} {x2 : Int32} {r3 : Option Nat} {x4 : Int32} {o5 : Option Value}  (k_1 : ((600 : Int32) ≤ x4) → aw ext d 47 88 [some (va_rf r0), some (va_rf r1), some (.int x2), some (va_rf r3), some (.int x4), o5] [] S Q) (k_2 : (¬ ((600 : Int32) ≤ x4)) → aw ext d 47 18 [some (va_rf r0), some (va_rf r1), some (.int x2), some (va_rf r3), some (.int x4), o5] [] S Q) : aw ext d 47 10 [some (va_rf r0), some (va_rf r1), some (.int x2), some (va_rf r3), some (.int x4), o5] [] S Q := by
  refine aw_ild j47_10 rfl ?_
  refine aw_con j47_12 ?_
  exact aw_ic j47_15 (fun h => k_1 (of_decide_eq_true h)) (fun h => k_2 (of_decide_eq_false h))
theorem bk47_18 {r0 : Option Nat} {r1 : Option Nat} {x2 : Int32} {r3 : Option Nat} {x4 : Int32} {o5 : Option Value}  (k_2 : r3 = none → aw ext d 47 88 [some (va_rf r0), some (va_rf r1), some (.int x2), some (va_rf r3), some (.int x4), o5] [] S Q) (k_3 : ∀ c_1, r3 = some c_1 → aw ext d 47 22 [some (va_rf r0), some (va_rf r1), some (.int x2), some (va_rf r3), some (.int x4), o5] [] S Q) : aw ext d 47 18 [some (va_rf r0), some (va_rf r1), some (.int x2), some (va_rf r3), some (.int x4), o5] [] S Q := by
  refine aw_ald j47_18 rfl (av_isR_rf r3) ?_
  exact aw_null (r := r3) j47_19 k_2 k_3
theorem bk47_22 {a0 : Nat} {r1 : Option Nat} {x2 : Int32} {a3 : Nat} {x4 : Int32} {o5 : Option Value} {y2 : Int32} {y5 : Int32} (t_1 : S.1 a3 = some (.inl 9)) (f_3 : S.2.1 a3 2 = .int y2) (t_4 : S.1 a0 = some (.inl 6)) (f_6 : S.2.1 a0 1 = .int y5) (k_7 : (y5 ≤ y2) → aw ext d 47 88 [some (.ref a0), some (va_rf r1), some (.int x2), some (.ref a3), some (.int x4), o5] [] S Q) (k_8 : (¬ (y5 ≤ y2)) → aw ext d 47 33 [some (.ref a0), some (va_rf r1), some (.int x2), some (.ref a3), some (.int x4), o5] [] S Q) : aw ext d 47 22 [some (.ref a0), some (va_rf r1), some (.int x2), some (.ref a3), some (.int x4), o5] [] S Q := by
  refine aw_ald j47_22 rfl rfl ?_
  refine aw_get j47_23 t_1 f_3 ?_
  refine aw_ald j47_26 rfl rfl ?_
  refine aw_get j47_27 t_4 f_6 ?_
  exact aw_ic j47_30 (fun h => k_7 (of_decide_eq_true h)) (fun h => k_8 (of_decide_eq_false h))
theorem bk47_33 {r0 : Option Nat} {r1 : Option Nat} {x2 : Int32} {a3 : Nat} {x4 : Int32} {o5 : Option Value} {P_1 : Int32 → av_St → Prop} (t_4 : S.1 a3 = some (.inl 9)) (m_5 : cti ext d 61 [.ref a3, va_rf r1] S P_1) (k_6 : ∀ v_3 S_2, P_1 v_3 S_2 → aw ext (d + 1) 47 38 [some (va_rf r0), some (va_rf r1), some (.int x2), some (.ref a3), some (.int x4), o5] [.int v_3] S_2 Q) : aw ext (d + 1) 47 33 [some (va_rf r0), some (va_rf r1), some (.int x2), some (.ref a3), some (.int x4), o5] [] S Q := by
  refine aw_ald j47_33 rfl rfl ?_
  refine aw_ald j47_34 rfl (av_isR_rf r1) ?_
  exact aw_calli (as := [.ref a3, va_rf r1]) j47_35 rfl rfl (Nat.le_of_ble_eq_true rfl) cy61.1 cy61.2 (cs_cons rfl (cs_cons (av_cat_rf r1) cs_nil)) (decide_eq_true t_4) m_5 k_6
theorem bk47_38 {r0 : Option Nat} {r1 : Option Nat} {x2 : Int32} {r3 : Option Nat} {x4 : Int32} {o5 : Option Value} {xk0 : Int32}  (k_1 : ((1 : Int32) < xk0) → aw ext d 47 60 [some (va_rf r0), some (va_rf r1), some (.int x2), some (va_rf r3), some (.int x4), some (.int xk0)] [] S Q) (k_2 : (¬ ((1 : Int32) < xk0)) → aw ext d 47 46 [some (va_rf r0), some (va_rf r1), some (.int x2), some (va_rf r3), some (.int x4), some (.int xk0)] [] S Q) : aw ext d 47 38 [some (va_rf r0), some (va_rf r1), some (.int x2), some (va_rf r3), some (.int x4), o5] [.int xk0] S Q := by
  refine aw_ist j47_38 (Nat.le_of_ble_eq_true rfl) ?_
  refine aw_ild j47_40 rfl ?_
  refine aw_con j47_42 ?_
  exact aw_ic j47_43 (fun h => k_1 (of_decide_eq_true h)) (fun h => k_2 (of_decide_eq_false h))
theorem bk47_46 {r0 : Option Nat} {r1 : Option Nat} {x2 : Int32} {r3 : Option Nat} {x4 : Int32} {x5 : Int32}  (k_1 : (¬ x5 = (1 : Int32)) → aw ext d 47 62 [some (va_rf r0), some (va_rf r1), some (.int x2), some (va_rf r3), some (.int x4), some (.int x5)] [] S Q) (k_2 : (x5 = (1 : Int32)) → aw ext d 47 52 [some (va_rf r0), some (va_rf r1), some (.int x2), some (va_rf r3), some (.int x4), some (.int x5)] [] S Q) : aw ext d 47 46 [some (va_rf r0), some (va_rf r1), some (.int x2), some (va_rf r3), some (.int x4), some (.int x5)] [] S Q := by
  refine aw_ild j47_46 rfl ?_
  refine aw_con j47_48 ?_
  exact aw_ic j47_49 (fun h => k_1 (of_decide_eq_true h)) (fun h => k_2 (Decidable.of_not_not (of_decide_eq_false h)))
theorem bk47_52 {r0 : Option Nat} {r1 : Option Nat} {x2 : Int32} {a3 : Nat} {x4 : Int32} {x5 : Int32} {y2 : Int32} (t_1 : S.1 a3 = some (.inl 9)) (f_3 : S.2.1 a3 2 = .int y2) (k_4 : (x2 ≤ y2) → aw ext d 47 62 [some (va_rf r0), some (va_rf r1), some (.int x2), some (.ref a3), some (.int x4), some (.int x5)] [] S Q) (k_5 : (¬ (x2 ≤ y2)) → aw ext d 47 60 [some (va_rf r0), some (va_rf r1), some (.int x2), some (.ref a3), some (.int x4), some (.int x5)] [] S Q) : aw ext d 47 52 [some (va_rf r0), some (va_rf r1), some (.int x2), some (.ref a3), some (.int x4), some (.int x5)] [] S Q := by
  refine aw_ald j47_52 rfl rfl ?_
  refine aw_get j47_53 t_1 f_3 ?_
  refine aw_ild j47_56 rfl ?_
  exact aw_ic j47_57 (fun h => k_4 (of_decide_eq_true h)) (fun h => k_5 (of_decide_eq_false h))
theorem bk47_60 {r0 : Option Nat} {r1 : Option Nat} {x2 : Int32} {r3 : Option Nat} {x4 : Int32} {x5 : Int32}  (k_1 : Q (some (.int (1 : Int32))) S) : aw ext d 47 60 [some (va_rf r0), some (va_rf r1), some (.int x2), some (va_rf r3), some (.int x4), some (.int x5)] [] S Q := by
  refine aw_con j47_60 ?_
  exact aw_ret j47_61 (by rw [rt47]; exact rfl) k_1
theorem bk47_62 {r0 : Option Nat} {r1 : Option Nat} {x2 : Int32} {r3 : Option Nat} {x4 : Int32} {x5 : Int32}  (k_1 : (¬ x5 = (1 : Int32)) → aw ext d 47 77 [some (va_rf r0), some (va_rf r1), some (.int x2), some (va_rf r3), some (.int x4), some (.int x5)] [] S Q) (k_2 : (x5 = (1 : Int32)) → aw ext d 47 68 [some (va_rf r0), some (va_rf r1), some (.int x2), some (va_rf r3), some (.int x4), some (.int x5)] [] S Q) : aw ext d 47 62 [some (va_rf r0), some (va_rf r1), some (.int x2), some (va_rf r3), some (.int x4), some (.int x5)] [] S Q := by
  refine aw_ild j47_62 rfl ?_
  refine aw_con j47_64 ?_
  exact aw_ic j47_65 (fun h => k_1 (of_decide_eq_true h)) (fun h => k_2 (Decidable.of_not_not (of_decide_eq_false h)))
theorem bk47_68 {r0 : Option Nat} {r1 : Option Nat} {x2 : Int32} {a3 : Nat} {x4 : Int32} {x5 : Int32} {y2 : Int32} {P_4 : Int32 → av_St → Prop} (t_1 : S.1 a3 = some (.inl 9)) (f_3 : S.2.1 a3 3 = .int y2) (m_7 : cti ext d 97 [.int x2, .int y2] S P_4) (k_8 : ∀ v_6 S_5, P_4 v_6 S_5 → aw ext (d + 1) 47 76 [some (va_rf r0), some (va_rf r1), some (.int x2), some (.ref a3), some (.int x4), some (.int x5)] [.int v_6] S_5 Q) : aw ext (d + 1) 47 68 [some (va_rf r0), some (va_rf r1), some (.int x2), some (.ref a3), some (.int x4), some (.int x5)] [] S Q := by
  refine aw_ild j47_68 rfl ?_
  refine aw_ald j47_69 rfl rfl ?_
  refine aw_get j47_70 t_1 f_3 ?_
  exact aw_calli (as := [.int x2, .int y2]) j47_73 rfl rfl (Nat.le_of_ble_eq_true rfl) cy97.1 cy97.2 (cs_cons rfl (cs_cons rfl cs_nil)) rfl m_7 k_8
theorem bk47_76 {r0 : Option Nat} {r1 : Option Nat} {x2 : Int32} {r3 : Option Nat} {x4 : Int32} {x5 : Int32} {xk0 : Int32}  (k_1 : aw ext d 47 77 [some (va_rf r0), some (va_rf r1), some (.int xk0), some (va_rf r3), some (.int x4), some (.int x5)] [] S Q) : aw ext d 47 76 [some (va_rf r0), some (va_rf r1), some (.int x2), some (va_rf r3), some (.int x4), some (.int x5)] [.int xk0] S Q := by
  refine aw_ist j47_76 (Nat.le_of_ble_eq_true rfl) ?_
  exact k_1
theorem bk47_77 {r0 : Option Nat} {r1 : Option Nat} {x2 : Int32} {a3 : Nat} {x4 : Int32} {x5 : Int32} {q2 : Option Nat} (t_1 : S.1 a3 = some (.inl 9)) (f_3 : S.2.1 a3 4 = va_rf q2) (k_4 : aw ext d 47 10 [some (va_rf r0), some (va_rf r1), some (.int x2), some (va_rf q2), some (.int (x4 + 1)), some (.int x5)] [] S Q) : aw ext d 47 77 [some (va_rf r0), some (va_rf r1), some (.int x2), some (.ref a3), some (.int x4), some (.int x5)] [] S Q := by
  refine aw_ald j47_77 rfl rfl ?_
  refine aw_get j47_78 t_1 f_3 ?_
  refine aw_ast j47_81 (av_isR_rf q2) (Nat.le_of_ble_eq_true rfl) ?_
  refine aw_inc j47_82 rfl ?_
  exact aw_goto j47_85 k_4
theorem bk47_88 {r0 : Option Nat} {r1 : Option Nat} {x2 : Int32} {r3 : Option Nat} {x4 : Int32} {o5 : Option Value}  (k_1 : Q (some (.int (0 : Int32))) S) : aw ext d 47 88 [some (va_rf r0), some (va_rf r1), some (.int x2), some (va_rf r3), some (.int x4), o5] [] S Q := by
  refine aw_con j47_88 ?_
  exact aw_ret j47_89 (by rw [rt47]; exact rfl) k_1
/-! File_hasPlaceInNone -/
theorem bk48_0 {a0 : Nat} {r1 : Option Nat} {o2 : Option Value} {o3 : Option Value} {o4 : Option Value} {q2 : Option Nat} (t_1 : S.1 a0 = some (.inl 6)) (f_3 : S.2.1 a0 2 = va_rf q2) (k_4 : aw ext d 48 10 [some (.ref a0), some (va_rf r1), some (.int (0 : Int32)), some (va_rf q2), some (.int (0 : Int32))] [] S Q) : aw ext d 48 0 [some (.ref a0), some (va_rf r1), o2, o3, o4] [] S Q := by
  refine aw_con j48_0 ?_
  refine aw_ist j48_1 (Nat.le_of_ble_eq_true rfl) ?_
  refine aw_ald j48_2 rfl rfl ?_
  refine aw_get j48_3 t_1 f_3 ?_
  refine aw_ast j48_6 (av_isR_rf q2) (Nat.le_of_ble_eq_true rfl) ?_
  refine aw_con j48_7 ?_
  refine aw_ist j48_8 (Nat.le_of_ble_eq_true rfl) ?_
  exact k_4
theorem bk48_10 {r0 : Option Nat} {r1 : Option Nat} {x2 : Int32} {r3 : Option Nat} {x4 : Int32}  (k_1 : ((600 : Int32) ≤ x4) → aw ext d 48 58 [some (va_rf r0), some (va_rf r1), some (.int x2), some (va_rf r3), some (.int x4)] [] S Q) (k_2 : (¬ ((600 : Int32) ≤ x4)) → aw ext d 48 18 [some (va_rf r0), some (va_rf r1), some (.int x2), some (va_rf r3), some (.int x4)] [] S Q) : aw ext d 48 10 [some (va_rf r0), some (va_rf r1), some (.int x2), some (va_rf r3), some (.int x4)] [] S Q := by
  refine aw_ild j48_10 rfl ?_
  refine aw_con j48_12 ?_
  exact aw_ic j48_15 (fun h => k_1 (of_decide_eq_true h)) (fun h => k_2 (of_decide_eq_false h))
theorem bk48_18 {r0 : Option Nat} {r1 : Option Nat} {x2 : Int32} {r3 : Option Nat} {x4 : Int32}  (k_2 : r3 = none → aw ext d 48 58 [some (va_rf r0), some (va_rf r1), some (.int x2), some (va_rf r3), some (.int x4)] [] S Q) (k_3 : ∀ c_1, r3 = some c_1 → aw ext d 48 22 [some (va_rf r0), some (va_rf r1), some (.int x2), some (va_rf r3), some (.int x4)] [] S Q) : aw ext d 48 18 [some (va_rf r0), some (va_rf r1), some (.int x2), some (va_rf r3), some (.int x4)] [] S Q := by
  refine aw_ald j48_18 rfl (av_isR_rf r3) ?_
  exact aw_null (r := r3) j48_19 k_2 k_3
theorem bk48_22 {r0 : Option Nat} {r1 : Option Nat} {x2 : Int32} {a3 : Nat} {x4 : Int32} {y2 : Int32} (t_1 : S.1 a3 = some (.inl 9)) (f_3 : S.2.1 a3 2 = .int y2) (k_4 : (x2 < y2) → aw ext d 48 58 [some (va_rf r0), some (va_rf r1), some (.int x2), some (.ref a3), some (.int x4)] [] S Q) (k_5 : (¬ (x2 < y2)) → aw ext d 48 30 [some (va_rf r0), some (va_rf r1), some (.int x2), some (.ref a3), some (.int x4)] [] S Q) : aw ext d 48 22 [some (va_rf r0), some (va_rf r1), some (.int x2), some (.ref a3), some (.int x4)] [] S Q := by
  refine aw_ald j48_22 rfl rfl ?_
  refine aw_get j48_23 t_1 f_3 ?_
  refine aw_ild j48_26 rfl ?_
  exact aw_ic j48_27 (fun h => k_4 (of_decide_eq_true h)) (fun h => k_5 (of_decide_eq_false h))
theorem bk48_30 {r0 : Option Nat} {r1 : Option Nat} {x2 : Int32} {a3 : Nat} {x4 : Int32} {P_1 : Int32 → av_St → Prop} (t_4 : S.1 a3 = some (.inl 9)) (m_5 : cti ext d 61 [.ref a3, va_rf r1] S P_1) (k_6 : ∀ v_3 S_2, P_1 v_3 S_2 → aw ext (d + 1) 48 35 [some (va_rf r0), some (va_rf r1), some (.int x2), some (.ref a3), some (.int x4)] [.int v_3] S_2 Q) : aw ext (d + 1) 48 30 [some (va_rf r0), some (va_rf r1), some (.int x2), some (.ref a3), some (.int x4)] [] S Q := by
  refine aw_ald j48_30 rfl rfl ?_
  refine aw_ald j48_31 rfl (av_isR_rf r1) ?_
  exact aw_calli (as := [.ref a3, va_rf r1]) j48_32 rfl rfl (Nat.le_of_ble_eq_true rfl) cy61.1 cy61.2 (cs_cons rfl (cs_cons (av_cat_rf r1) cs_nil)) (decide_eq_true t_4) m_5 k_6
theorem bk48_35 {r0 : Option Nat} {r1 : Option Nat} {x2 : Int32} {r3 : Option Nat} {x4 : Int32} {xk0 : Int32}  (k_1 : (xk0 ≤ 0) → aw ext d 48 47 [some (va_rf r0), some (va_rf r1), some (.int x2), some (va_rf r3), some (.int x4)] [] S Q) (k_2 : (¬ (xk0 ≤ 0)) → aw ext d 48 38 [some (va_rf r0), some (va_rf r1), some (.int x2), some (va_rf r3), some (.int x4)] [] S Q) : aw ext d 48 35 [some (va_rf r0), some (va_rf r1), some (.int x2), some (va_rf r3), some (.int x4)] [.int xk0] S Q := by
  exact aw_if j48_35 (fun h => k_1 (of_decide_eq_true h)) (fun h => k_2 (of_decide_eq_false h))
theorem bk48_38 {r0 : Option Nat} {r1 : Option Nat} {x2 : Int32} {a3 : Nat} {x4 : Int32} {y2 : Int32} {P_4 : Int32 → av_St → Prop} (t_1 : S.1 a3 = some (.inl 9)) (f_3 : S.2.1 a3 3 = .int y2) (m_7 : cti ext d 97 [.int x2, .int y2] S P_4) (k_8 : ∀ v_6 S_5, P_4 v_6 S_5 → aw ext (d + 1) 48 46 [some (va_rf r0), some (va_rf r1), some (.int x2), some (.ref a3), some (.int x4)] [.int v_6] S_5 Q) : aw ext (d + 1) 48 38 [some (va_rf r0), some (va_rf r1), some (.int x2), some (.ref a3), some (.int x4)] [] S Q := by
  refine aw_ild j48_38 rfl ?_
  refine aw_ald j48_39 rfl rfl ?_
  refine aw_get j48_40 t_1 f_3 ?_
  exact aw_calli (as := [.int x2, .int y2]) j48_43 rfl rfl (Nat.le_of_ble_eq_true rfl) cy97.1 cy97.2 (cs_cons rfl (cs_cons rfl cs_nil)) rfl m_7 k_8
theorem bk48_46 {r0 : Option Nat} {r1 : Option Nat} {x2 : Int32} {r3 : Option Nat} {x4 : Int32} {xk0 : Int32}  (k_1 : aw ext d 48 47 [some (va_rf r0), some (va_rf r1), some (.int xk0), some (va_rf r3), some (.int x4)] [] S Q) : aw ext d 48 46 [some (va_rf r0), some (va_rf r1), some (.int x2), some (va_rf r3), some (.int x4)] [.int xk0] S Q := by
  refine aw_ist j48_46 (Nat.le_of_ble_eq_true rfl) ?_
  exact k_1
theorem bk48_47 {r0 : Option Nat} {r1 : Option Nat} {x2 : Int32} {a3 : Nat} {x4 : Int32} {q2 : Option Nat} (t_1 : S.1 a3 = some (.inl 9)) (f_3 : S.2.1 a3 4 = va_rf q2) (k_4 : aw ext d 48 10 [some (va_rf r0), some (va_rf r1), some (.int x2), some (va_rf q2), some (.int (x4 + 1))] [] S Q) : aw ext d 48 47 [some (va_rf r0), some (va_rf r1), some (.int x2), some (.ref a3), some (.int x4)] [] S Q := by
  refine aw_ald j48_47 rfl rfl ?_
  refine aw_get j48_48 t_1 f_3 ?_
  refine aw_ast j48_51 (av_isR_rf q2) (Nat.le_of_ble_eq_true rfl) ?_
  refine aw_inc j48_52 rfl ?_
  exact aw_goto j48_55 k_4
theorem bk48_58 {a0 : Nat} {r1 : Option Nat} {x2 : Int32} {r3 : Option Nat} {x4 : Int32} {y2 : Int32} (t_1 : S.1 a0 = some (.inl 6)) (f_3 : S.2.1 a0 1 = .int y2) (k_4 : (y2 ≤ x2) → aw ext d 48 70 [some (.ref a0), some (va_rf r1), some (.int x2), some (va_rf r3), some (.int x4)] [] S Q) (k_5 : (¬ (y2 ≤ x2)) → aw ext d 48 66 [some (.ref a0), some (va_rf r1), some (.int x2), some (va_rf r3), some (.int x4)] [] S Q) : aw ext d 48 58 [some (.ref a0), some (va_rf r1), some (.int x2), some (va_rf r3), some (.int x4)] [] S Q := by
  refine aw_ild j48_58 rfl ?_
  refine aw_ald j48_59 rfl rfl ?_
  refine aw_get j48_60 t_1 f_3 ?_
  exact aw_ic j48_63 (fun h => k_4 (of_decide_eq_true h)) (fun h => k_5 (of_decide_eq_false h))
theorem bk48_66 {r0 : Option Nat} {r1 : Option Nat} {x2 : Int32} {r3 : Option Nat} {x4 : Int32}  (k_1 : aw ext d 48 71 [some (va_rf r0), some (va_rf r1), some (.int x2), some (va_rf r3), some (.int x4)] [.int (1 : Int32)] S Q) : aw ext d 48 66 [some (va_rf r0), some (va_rf r1), some (.int x2), some (va_rf r3), some (.int x4)] [] S Q := by
  refine aw_con j48_66 ?_
  exact aw_goto j48_67 k_1
theorem bk48_70 {r0 : Option Nat} {r1 : Option Nat} {x2 : Int32} {r3 : Option Nat} {x4 : Int32}  (k_1 : aw ext d 48 71 [some (va_rf r0), some (va_rf r1), some (.int x2), some (va_rf r3), some (.int x4)] [.int (0 : Int32)] S Q) : aw ext d 48 70 [some (va_rf r0), some (va_rf r1), some (.int x2), some (va_rf r3), some (.int x4)] [] S Q := by
  refine aw_con j48_70 ?_
  exact k_1
theorem bk48_71 {r0 : Option Nat} {r1 : Option Nat} {x2 : Int32} {r3 : Option Nat} {x4 : Int32} {xk0 : Int32} (o_2 : xk0 = 0 ∨ xk0 = 1) (k_1 : Q (some (.int xk0)) S) : aw ext d 48 71 [some (va_rf r0), some (va_rf r1), some (.int x2), some (va_rf r3), some (.int x4)] [.int xk0] S Q := by
  exact aw_ret j48_71 (by rw [rt48]; exact (decide_eq_true o_2)) k_1
/-! Tree_init -/
theorem bk49_0 {a0 : Nat} {x1 : Int32} {x2 : Int32}  (k_1 : aw ext (d + 1) 49 4 [some (.ref a0), some (.int x1), some (.int x2)] [] S Q) : aw ext (d + 1) 49 0 [some (.ref a0), some (.int x1), some (.int x2)] [] S Q := by
  refine aw_ald j49_0 rfl rfl ?_
  exact aw_obj j49_1 (Nat.le_of_ble_eq_true rfl) k_1
theorem bk49_4 {a0 : Nat} {x1 : Int32} {x2 : Int32} (t_1 : S.1 a0 = some (.inl 7)) (k_2 : aw ext d 49 13 [some (.ref a0), some (.int x1), some (.int x2)] [.ref (av_set S a0 0 (.int x2)).2.2.1, .ref a0] (av_new (av_set S a0 0 (.int x2)) (.inl 8) (fun f => defaultValue (sm_fT 8 f)) (sm_fN 8)) Q) : aw ext d 49 4 [some (.ref a0), some (.int x1), some (.int x2)] [] S Q := by
  refine aw_ald j49_4 rfl rfl ?_
  refine aw_ild j49_5 rfl ?_
  refine aw_put j49_6 t_1 rfl ?_
  refine aw_ald j49_9 rfl rfl ?_
  refine aw_new j49_10 ?_
  exact k_2
theorem bk49_13 {r0 : Option Nat} {x1 : Int32} {x2 : Int32} {rk0 : Option Nat} {ak1 : Nat} {P_1 : av_St → Prop} (m_4 : ctv ext d 50 [.ref ak1, .int (-1 : Int32), .int x1, .int (0 : Int32), .int (0 : Int32)] S P_1) (k_5 : ∀ S_2, P_1 S_2 → aw ext (d + 1) 49 21 [some (va_rf r0), some (.int x1), some (.int x2)] [.ref ak1, va_rf rk0] S_2 Q) : aw ext (d + 1) 49 13 [some (va_rf r0), some (.int x1), some (.int x2)] [.ref ak1, va_rf rk0] S Q := by
  refine aw_dup j49_13 rfl ?_
  refine aw_con j49_14 ?_
  refine aw_ild j49_15 rfl ?_
  refine aw_con j49_16 ?_
  refine aw_con j49_17 ?_
  exact aw_callv (as := [.ref ak1, .int (-1 : Int32), .int x1, .int (0 : Int32), .int (0 : Int32)]) j49_18 rfl rfl (Nat.le_of_ble_eq_true rfl) cy50.1 cy50.2 (cs_cons rfl (cs_cons rfl (cs_cons rfl (cs_cons rfl (cs_cons rfl cs_nil))))) rfl m_4 k_5
theorem bk49_21 {r0 : Option Nat} {x1 : Int32} {x2 : Int32} {ak0 : Nat} {rk1 : Option Nat} (t_1 : S.1 ak0 = some (.inl 7)) (k_2 : Q none (av_set S ak0 1 (va_rf rk1))) : aw ext d 49 21 [some (va_rf r0), some (.int x1), some (.int x2)] [va_rf rk1, .ref ak0] S Q := by
  refine aw_put j49_21 t_1 (av_fo_rf _ rk1) ?_
  exact aw_vret j49_24 rt49 k_2
/-! Div_init -/
theorem bk50_0 {a0 : Nat} {x1 : Int32} {x2 : Int32} {x3 : Int32} {x4 : Int32}  (k_1 : aw ext (d + 1) 50 4 [some (.ref a0), some (.int x1), some (.int x2), some (.int x3), some (.int x4)] [] S Q) : aw ext (d + 1) 50 0 [some (.ref a0), some (.int x1), some (.int x2), some (.int x3), some (.int x4)] [] S Q := by
  refine aw_ald j50_0 rfl rfl ?_
  exact aw_obj j50_1 (Nat.le_of_ble_eq_true rfl) k_1
theorem bk50_4 {a0 : Nat} {x1 : Int32} {x2 : Int32} {x3 : Int32} {x4 : Int32} (t_1 : S.1 a0 = some (.inl 8)) (k_2 : aw ext d 50 30 [some (.ref a0), some (.int x1), some (.int x2), some (.int x3), some (.int x4)] [.ref (av_set (av_set (av_set (av_set S a0 0 (.int x1)) a0 1 (.int x2)) a0 2 (.int x3)) a0 3 (.int x4)).2.2.1, .ref a0] (av_new (av_set (av_set (av_set (av_set S a0 0 (.int x1)) a0 1 (.int x2)) a0 2 (.int x3)) a0 3 (.int x4)) (.inr (8, 5)) (fun _ => .null) 5) Q) : aw ext d 50 4 [some (.ref a0), some (.int x1), some (.int x2), some (.int x3), some (.int x4)] [] S Q := by
  refine aw_ald j50_4 rfl rfl ?_
  refine aw_ild j50_5 rfl ?_
  refine aw_put j50_6 t_1 rfl ?_
  refine aw_ald j50_9 rfl rfl ?_
  refine aw_ild j50_10 rfl ?_
  refine aw_put j50_11 t_1 rfl ?_
  refine aw_ald j50_14 rfl rfl ?_
  refine aw_ild j50_15 rfl ?_
  refine aw_put j50_16 t_1 rfl ?_
  refine aw_ald j50_19 rfl rfl ?_
  refine aw_ild j50_20 rfl ?_
  refine aw_put j50_22 t_1 rfl ?_
  refine aw_ald j50_25 rfl rfl ?_
  refine aw_con j50_26 ?_
  refine aw_newr (n := 5) j50_27 (by decide) (by decide) ?_
  exact k_2
theorem bk50_30 {a0 : Nat} {x1 : Int32} {x2 : Int32} {x3 : Int32} {x4 : Int32} {ak0 : Nat} {rk1 : Option Nat} (t_1 : S.1 ak0 = some (.inl 8)) (t_2 : (av_set S ak0 4 (va_rf rk1)).1 a0 = some (.inl 8)) (k_3 : Q none (av_set (av_set (av_set (av_set (av_set (av_set S ak0 4 (va_rf rk1)) a0 5 (.int (0 : Int32))) a0 6 (.null)) a0 7 (.null)) a0 8 (.null)) a0 9 (.null))) : aw ext d 50 30 [some (.ref a0), some (.int x1), some (.int x2), some (.int x3), some (.int x4)] [va_rf rk1, .ref ak0] S Q := by
  refine aw_put j50_30 t_1 (av_fa_rf _ rk1) ?_
  refine aw_ald j50_33 rfl rfl ?_
  refine aw_con j50_34 ?_
  refine aw_put j50_35 t_2 rfl ?_
  refine aw_ald j50_38 rfl rfl ?_
  refine aw_nul j50_39 ?_
  refine aw_put j50_40 t_2 rfl ?_
  refine aw_ald j50_43 rfl rfl ?_
  refine aw_nul j50_44 ?_
  refine aw_put j50_45 t_2 rfl ?_
  refine aw_ald j50_48 rfl rfl ?_
  refine aw_nul j50_49 ?_
  refine aw_put j50_50 t_2 rfl ?_
  refine aw_ald j50_53 rfl rfl ?_
  refine aw_nul j50_54 ?_
  refine aw_put j50_55 t_2 rfl ?_
  exact aw_vret j50_58 rt50 k_3
/-! Div_take -/
theorem bk51_0 {a0 : Nat} {r1 : Option Nat} {o2 : Option Value} {o3 : Option Value} {o4 : Option Value} {q2 : Option Nat} (t_1 : S.1 a0 = some (.inl 8)) (f_3 : S.2.1 a0 7 = va_rf q2) (k_4 : aw ext d 51 10 [some (.ref a0), some (va_rf r1), some (.null), some (va_rf q2), some (.int (0 : Int32))] [] S Q) : aw ext d 51 0 [some (.ref a0), some (va_rf r1), o2, o3, o4] [] S Q := by
  refine aw_nul j51_0 ?_
  refine aw_ast j51_1 rfl (Nat.le_of_ble_eq_true rfl) ?_
  refine aw_ald j51_2 rfl rfl ?_
  refine aw_get j51_3 t_1 f_3 ?_
  refine aw_ast j51_6 (av_isR_rf q2) (Nat.le_of_ble_eq_true rfl) ?_
  refine aw_con j51_7 ?_
  refine aw_ist j51_8 (Nat.le_of_ble_eq_true rfl) ?_
  exact k_4
theorem bk51_10 {r0 : Option Nat} {r1 : Option Nat} {r2 : Option Nat} {r3 : Option Nat} {x4 : Int32}  (k_1 : ((120 : Int32) ≤ x4) → aw ext d 51 42 [some (va_rf r0), some (va_rf r1), some (va_rf r2), some (va_rf r3), some (.int x4)] [] S Q) (k_2 : (¬ ((120 : Int32) ≤ x4)) → aw ext d 51 17 [some (va_rf r0), some (va_rf r1), some (va_rf r2), some (va_rf r3), some (.int x4)] [] S Q) : aw ext d 51 10 [some (va_rf r0), some (va_rf r1), some (va_rf r2), some (va_rf r3), some (.int x4)] [] S Q := by
  refine aw_ild j51_10 rfl ?_
  refine aw_con j51_12 ?_
  exact aw_ic j51_14 (fun h => k_1 (of_decide_eq_true h)) (fun h => k_2 (of_decide_eq_false h))
theorem bk51_17 {r0 : Option Nat} {r1 : Option Nat} {r2 : Option Nat} {r3 : Option Nat} {x4 : Int32}  (k_2 : r3 = none → aw ext d 51 42 [some (va_rf r0), some (va_rf r1), some (va_rf r2), some (va_rf r3), some (.int x4)] [] S Q) (k_3 : ∀ c_1, r3 = some c_1 → aw ext d 51 21 [some (va_rf r0), some (va_rf r1), some (va_rf r2), some (va_rf r3), some (.int x4)] [] S Q) : aw ext d 51 17 [some (va_rf r0), some (va_rf r1), some (va_rf r2), some (va_rf r3), some (.int x4)] [] S Q := by
  refine aw_ald j51_17 rfl (av_isR_rf r3) ?_
  exact aw_null (r := r3) j51_18 k_2 k_3
theorem bk51_21 {r0 : Option Nat} {r1 : Option Nat} {r2 : Option Nat} {a3 : Nat} {x4 : Int32} {P_1 : Int32 → av_St → Prop} (t_4 : S.1 a3 = some (.inl 8)) (m_5 : cti ext d 52 [.ref a3, va_rf r1] S P_1) (k_6 : ∀ v_3 S_2, P_1 v_3 S_2 → aw ext (d + 1) 51 26 [some (va_rf r0), some (va_rf r1), some (va_rf r2), some (.ref a3), some (.int x4)] [.int v_3] S_2 Q) : aw ext (d + 1) 51 21 [some (va_rf r0), some (va_rf r1), some (va_rf r2), some (.ref a3), some (.int x4)] [] S Q := by
  refine aw_ald j51_21 rfl rfl ?_
  refine aw_ald j51_22 rfl (av_isR_rf r1) ?_
  exact aw_calli (as := [.ref a3, va_rf r1]) j51_23 rfl rfl (Nat.le_of_ble_eq_true rfl) cy52.1 cy52.2 (cs_cons rfl (cs_cons (av_cat_rf r1) cs_nil)) (decide_eq_true t_4) m_5 k_6
theorem bk51_26 {r0 : Option Nat} {r1 : Option Nat} {r2 : Option Nat} {r3 : Option Nat} {x4 : Int32} {xk0 : Int32}  (k_1 : (xk0 = 0) → aw ext d 51 42 [some (va_rf r0), some (va_rf r1), some (va_rf r2), some (va_rf r3), some (.int x4)] [] S Q) (k_2 : (¬ (xk0 = 0)) → aw ext d 51 29 [some (va_rf r0), some (va_rf r1), some (va_rf r2), some (va_rf r3), some (.int x4)] [] S Q) : aw ext d 51 26 [some (va_rf r0), some (va_rf r1), some (va_rf r2), some (va_rf r3), some (.int x4)] [.int xk0] S Q := by
  exact aw_if j51_26 (fun h => k_1 (of_decide_eq_true h)) (fun h => k_2 (of_decide_eq_false h))
theorem bk51_29 {r0 : Option Nat} {r1 : Option Nat} {r2 : Option Nat} {a3 : Nat} {x4 : Int32} {q2 : Option Nat} (t_1 : S.1 a3 = some (.inl 8)) (f_3 : S.2.1 a3 8 = va_rf q2) (k_4 : aw ext d 51 10 [some (va_rf r0), some (va_rf r1), some (.ref a3), some (va_rf q2), some (.int (x4 + 1))] [] S Q) : aw ext d 51 29 [some (va_rf r0), some (va_rf r1), some (va_rf r2), some (.ref a3), some (.int x4)] [] S Q := by
  refine aw_ald j51_29 rfl rfl ?_
  refine aw_ast j51_30 rfl (Nat.le_of_ble_eq_true rfl) ?_
  refine aw_ald j51_31 rfl rfl ?_
  refine aw_get j51_32 t_1 f_3 ?_
  refine aw_ast j51_35 (av_isR_rf q2) (Nat.le_of_ble_eq_true rfl) ?_
  refine aw_inc j51_36 rfl ?_
  exact aw_goto j51_39 k_4
theorem bk51_42 {r0 : Option Nat} {a1 : Nat} {r2 : Option Nat} {r3 : Option Nat} {x4 : Int32} (t_1 : S.1 a1 = some (.inl 8)) (k_3 : r2 = none → aw ext d 51 56 [some (va_rf r0), some (.ref a1), some (va_rf r2), some (va_rf r3), some (.int x4)] [] (av_set (av_set S a1 6 (va_rf r0)) a1 8 (va_rf r3)) Q) (k_4 : ∀ c_2, r2 = some c_2 → aw ext d 51 64 [some (va_rf r0), some (.ref a1), some (va_rf r2), some (va_rf r3), some (.int x4)] [] (av_set (av_set S a1 6 (va_rf r0)) a1 8 (va_rf r3)) Q) : aw ext d 51 42 [some (va_rf r0), some (.ref a1), some (va_rf r2), some (va_rf r3), some (.int x4)] [] S Q := by
  refine aw_ald j51_42 rfl rfl ?_
  refine aw_ald j51_43 rfl (av_isR_rf r0) ?_
  refine aw_put j51_44 t_1 (av_fo_rf _ r0) ?_
  refine aw_ald j51_47 rfl rfl ?_
  refine aw_ald j51_48 rfl (av_isR_rf r3) ?_
  refine aw_put j51_49 t_1 (av_fo_rf _ r3) ?_
  refine aw_ald j51_52 rfl (av_isR_rf r2) ?_
  exact aw_nonn (r := r2) j51_53 k_3 k_4
theorem bk51_56 {a0 : Nat} {r1 : Option Nat} {r2 : Option Nat} {r3 : Option Nat} {x4 : Int32} (t_1 : S.1 a0 = some (.inl 8)) (k_2 : aw ext d 51 69 [some (.ref a0), some (va_rf r1), some (va_rf r2), some (va_rf r3), some (.int x4)] [] (av_set S a0 7 (va_rf r1)) Q) : aw ext d 51 56 [some (.ref a0), some (va_rf r1), some (va_rf r2), some (va_rf r3), some (.int x4)] [] S Q := by
  refine aw_ald j51_56 rfl rfl ?_
  refine aw_ald j51_57 rfl (av_isR_rf r1) ?_
  refine aw_put j51_58 t_1 (av_fo_rf _ r1) ?_
  exact aw_goto j51_61 k_2
theorem bk51_64 {r0 : Option Nat} {r1 : Option Nat} {a2 : Nat} {r3 : Option Nat} {x4 : Int32} (t_1 : S.1 a2 = some (.inl 8)) (k_2 : aw ext d 51 69 [some (va_rf r0), some (va_rf r1), some (.ref a2), some (va_rf r3), some (.int x4)] [] (av_set S a2 8 (va_rf r1)) Q) : aw ext d 51 64 [some (va_rf r0), some (va_rf r1), some (.ref a2), some (va_rf r3), some (.int x4)] [] S Q := by
  refine aw_ald j51_64 rfl rfl ?_
  refine aw_ald j51_65 rfl (av_isR_rf r1) ?_
  refine aw_put j51_66 t_1 (av_fo_rf _ r1) ?_
  exact k_2
theorem bk51_69 {r0 : Option Nat} {r1 : Option Nat} {r2 : Option Nat} {r3 : Option Nat} {x4 : Int32}  (k_1 : Q none S) : aw ext d 51 69 [some (va_rf r0), some (va_rf r1), some (va_rf r2), some (va_rf r3), some (.int x4)] [] S Q := by
  exact aw_vret j51_69 rt51 k_1
/-! Div_comesBefore -/
theorem bk52_0 {a0 : Nat} {a1 : Nat} {y2 : Int32} {y5 : Int32} (t_1 : S.1 a0 = some (.inl 8)) (f_3 : S.2.1 a0 2 = .int y2) (t_4 : S.1 a1 = some (.inl 8)) (f_6 : S.2.1 a1 2 = .int y5) (k_7 : (y2 = y5) → aw ext d 52 30 [some (.ref a0), some (.ref a1)] [] S Q) (k_8 : (¬ (y2 = y5)) → aw ext d 52 11 [some (.ref a0), some (.ref a1)] [] S Q) : aw ext d 52 0 [some (.ref a0), some (.ref a1)] [] S Q := by
  refine aw_ald j52_0 rfl rfl ?_
  refine aw_get j52_1 t_1 f_3 ?_
  refine aw_ald j52_4 rfl rfl ?_
  refine aw_get j52_5 t_4 f_6 ?_
  exact aw_ic j52_8 (fun h => k_7 (of_decide_eq_true h)) (fun h => k_8 (of_decide_eq_false h))
theorem bk52_11 {a0 : Nat} {a1 : Nat} {y2 : Int32} {y5 : Int32} (t_1 : S.1 a0 = some (.inl 8)) (f_3 : S.2.1 a0 2 = .int y2) (t_4 : S.1 a1 = some (.inl 8)) (f_6 : S.2.1 a1 2 = .int y5) (k_7 : (y5 ≤ y2) → aw ext d 52 26 [some (.ref a0), some (.ref a1)] [] S Q) (k_8 : (¬ (y5 ≤ y2)) → aw ext d 52 22 [some (.ref a0), some (.ref a1)] [] S Q) : aw ext d 52 11 [some (.ref a0), some (.ref a1)] [] S Q := by
  refine aw_ald j52_11 rfl rfl ?_
  refine aw_get j52_12 t_1 f_3 ?_
  refine aw_ald j52_15 rfl rfl ?_
  refine aw_get j52_16 t_4 f_6 ?_
  exact aw_ic j52_19 (fun h => k_7 (of_decide_eq_true h)) (fun h => k_8 (of_decide_eq_false h))
theorem bk52_22 {r0 : Option Nat} {r1 : Option Nat}  (k_1 : aw ext d 52 46 [some (va_rf r0), some (va_rf r1)] [.int (1 : Int32)] S Q) : aw ext d 52 22 [some (va_rf r0), some (va_rf r1)] [] S Q := by
  refine aw_con j52_22 ?_
  exact aw_goto j52_23 k_1
theorem bk52_26 {r0 : Option Nat} {r1 : Option Nat}  (k_1 : aw ext d 52 46 [some (va_rf r0), some (va_rf r1)] [.int (0 : Int32)] S Q) : aw ext d 52 26 [some (va_rf r0), some (va_rf r1)] [] S Q := by
  refine aw_con j52_26 ?_
  exact aw_goto j52_27 k_1
theorem bk52_30 {a0 : Nat} {a1 : Nat} {y2 : Int32} {y5 : Int32} (t_1 : S.1 a0 = some (.inl 8)) (f_3 : S.2.1 a0 0 = .int y2) (t_4 : S.1 a1 = some (.inl 8)) (f_6 : S.2.1 a1 0 = .int y5) (k_7 : (y5 ≤ y2) → aw ext d 52 45 [some (.ref a0), some (.ref a1)] [] S Q) (k_8 : (¬ (y5 ≤ y2)) → aw ext d 52 41 [some (.ref a0), some (.ref a1)] [] S Q) : aw ext d 52 30 [some (.ref a0), some (.ref a1)] [] S Q := by
  refine aw_ald j52_30 rfl rfl ?_
  refine aw_get j52_31 t_1 f_3 ?_
  refine aw_ald j52_34 rfl rfl ?_
  refine aw_get j52_35 t_4 f_6 ?_
  exact aw_ic j52_38 (fun h => k_7 (of_decide_eq_true h)) (fun h => k_8 (of_decide_eq_false h))
theorem bk52_41 {r0 : Option Nat} {r1 : Option Nat}  (k_1 : aw ext d 52 46 [some (va_rf r0), some (va_rf r1)] [.int (1 : Int32)] S Q) : aw ext d 52 41 [some (va_rf r0), some (va_rf r1)] [] S Q := by
  refine aw_con j52_41 ?_
  exact aw_goto j52_42 k_1
theorem bk52_45 {r0 : Option Nat} {r1 : Option Nat}  (k_1 : aw ext d 52 46 [some (va_rf r0), some (va_rf r1)] [.int (0 : Int32)] S Q) : aw ext d 52 45 [some (va_rf r0), some (va_rf r1)] [] S Q := by
  refine aw_con j52_45 ?_
  exact k_1
theorem bk52_46 {r0 : Option Nat} {r1 : Option Nat} {xk0 : Int32} (o_2 : xk0 = 0 ∨ xk0 = 1) (k_1 : Q (some (.int xk0)) S) : aw ext d 52 46 [some (va_rf r0), some (va_rf r1)] [.int xk0] S Q := by
  exact aw_ret j52_46 (by rw [rt52]; exact (decide_eq_true o_2)) k_1
/-! Div_isEmpty -/
theorem bk53_0 {a0 : Nat} {y2 : Int32} (t_1 : S.1 a0 = some (.inl 8)) (f_3 : S.2.1 a0 5 = .int y2) (k_4 : (¬ y2 = 0) → aw ext d 53 25 [some (.ref a0)] [] S Q) (k_5 : (y2 = 0) → aw ext d 53 7 [some (.ref a0)] [] S Q) : aw ext d 53 0 [some (.ref a0)] [] S Q := by
  refine aw_ald j53_0 rfl rfl ?_
  refine aw_get j53_1 t_1 f_3 ?_
  exact aw_if j53_4 (fun h => k_4 (of_decide_eq_true h)) (fun h => k_5 (Decidable.of_not_not (of_decide_eq_false h)))
theorem bk53_7 {a0 : Nat} {q2 : Option Nat} (t_1 : S.1 a0 = some (.inl 8)) (f_3 : S.2.1 a0 7 = va_rf q2) (k_5 : q2 = none → aw ext d 53 14 [some (.ref a0)] [] S Q) (k_6 : ∀ c_4, q2 = some c_4 → aw ext d 53 25 [some (.ref a0)] [] S Q) : aw ext d 53 7 [some (.ref a0)] [] S Q := by
  refine aw_ald j53_7 rfl rfl ?_
  refine aw_get j53_8 t_1 f_3 ?_
  exact aw_nonn (r := q2) j53_11 k_5 k_6
theorem bk53_14 {a0 : Nat} {q2 : Option Nat} (t_1 : S.1 a0 = some (.inl 8)) (f_3 : S.2.1 a0 9 = va_rf q2) (k_5 : q2 = none → aw ext d 53 21 [some (.ref a0)] [] S Q) (k_6 : ∀ c_4, q2 = some c_4 → aw ext d 53 25 [some (.ref a0)] [] S Q) : aw ext d 53 14 [some (.ref a0)] [] S Q := by
  refine aw_ald j53_14 rfl rfl ?_
  refine aw_get j53_15 t_1 f_3 ?_
  exact aw_nonn (r := q2) j53_18 k_5 k_6
theorem bk53_21 {r0 : Option Nat}  (k_1 : aw ext d 53 26 [some (va_rf r0)] [.int (1 : Int32)] S Q) : aw ext d 53 21 [some (va_rf r0)] [] S Q := by
  refine aw_con j53_21 ?_
  exact aw_goto j53_22 k_1
theorem bk53_25 {r0 : Option Nat}  (k_1 : aw ext d 53 26 [some (va_rf r0)] [.int (0 : Int32)] S Q) : aw ext d 53 25 [some (va_rf r0)] [] S Q := by
  refine aw_con j53_25 ?_
  exact k_1
theorem bk53_26 {r0 : Option Nat} {xk0 : Int32} (o_2 : xk0 = 0 ∨ xk0 = 1) (k_1 : Q (some (.int xk0)) S) : aw ext d 53 26 [some (va_rf r0)] [.int xk0] S Q := by
  exact aw_ret j53_26 (by rw [rt53]; exact (decide_eq_true o_2)) k_1
/-! Div_drop -/
theorem bk54_0 {a0 : Nat} {r1 : Option Nat} {o2 : Option Value} {o3 : Option Value} {o4 : Option Value} {q2 : Option Nat} (t_1 : S.1 a0 = some (.inl 8)) (f_3 : S.2.1 a0 7 = va_rf q2) (k_4 : aw ext d 54 10 [some (.ref a0), some (va_rf r1), some (.null), some (va_rf q2), some (.int (0 : Int32))] [] S Q) : aw ext d 54 0 [some (.ref a0), some (va_rf r1), o2, o3, o4] [] S Q := by
  refine aw_nul j54_0 ?_
  refine aw_ast j54_1 rfl (Nat.le_of_ble_eq_true rfl) ?_
  refine aw_ald j54_2 rfl rfl ?_
  refine aw_get j54_3 t_1 f_3 ?_
  refine aw_ast j54_6 (av_isR_rf q2) (Nat.le_of_ble_eq_true rfl) ?_
  refine aw_con j54_7 ?_
  refine aw_ist j54_8 (Nat.le_of_ble_eq_true rfl) ?_
  exact k_4
theorem bk54_10 {r0 : Option Nat} {r1 : Option Nat} {r2 : Option Nat} {r3 : Option Nat} {x4 : Int32}  (k_1 : ((120 : Int32) ≤ x4) → aw ext d 54 39 [some (va_rf r0), some (va_rf r1), some (va_rf r2), some (va_rf r3), some (.int x4)] [] S Q) (k_2 : (¬ ((120 : Int32) ≤ x4)) → aw ext d 54 17 [some (va_rf r0), some (va_rf r1), some (va_rf r2), some (va_rf r3), some (.int x4)] [] S Q) : aw ext d 54 10 [some (va_rf r0), some (va_rf r1), some (va_rf r2), some (va_rf r3), some (.int x4)] [] S Q := by
  refine aw_ild j54_10 rfl ?_
  refine aw_con j54_12 ?_
  exact aw_ic j54_14 (fun h => k_1 (of_decide_eq_true h)) (fun h => k_2 (of_decide_eq_false h))
theorem bk54_17 {r0 : Option Nat} {r1 : Option Nat} {r2 : Option Nat} {r3 : Option Nat} {x4 : Int32}  (k_2 : r3 = none → aw ext d 54 39 [some (va_rf r0), some (va_rf r1), some (va_rf r2), some (va_rf r3), some (.int x4)] [] S Q) (k_3 : ∀ c_1, r3 = some c_1 → aw ext d 54 21 [some (va_rf r0), some (va_rf r1), some (va_rf r2), some (va_rf r3), some (.int x4)] [] S Q) : aw ext d 54 17 [some (va_rf r0), some (va_rf r1), some (va_rf r2), some (va_rf r3), some (.int x4)] [] S Q := by
  refine aw_ald j54_17 rfl (av_isR_rf r3) ?_
  exact aw_null (r := r3) j54_18 k_2 k_3
theorem bk54_21 {r0 : Option Nat} {r1 : Option Nat} {r2 : Option Nat} {r3 : Option Nat} {x4 : Int32}  (k_1 : r3 = r1 → aw ext d 54 39 [some (va_rf r0), some (va_rf r1), some (va_rf r2), some (va_rf r3), some (.int x4)] [] S Q) (k_2 : ¬ r3 = r1 → aw ext d 54 26 [some (va_rf r0), some (va_rf r1), some (va_rf r2), some (va_rf r3), some (.int x4)] [] S Q) : aw ext d 54 21 [some (va_rf r0), some (va_rf r1), some (va_rf r2), some (va_rf r3), some (.int x4)] [] S Q := by
  refine aw_ald j54_21 rfl (av_isR_rf r3) ?_
  refine aw_ald j54_22 rfl (av_isR_rf r1) ?_
  exact aw_ac (r1 := r3) (r2 := r1) j54_23 (fun h => k_1 (by simpa using h)) (fun h => k_2 (by simpa using h))
theorem bk54_26 {r0 : Option Nat} {r1 : Option Nat} {r2 : Option Nat} {a3 : Nat} {x4 : Int32} {q2 : Option Nat} (t_1 : S.1 a3 = some (.inl 8)) (f_3 : S.2.1 a3 8 = va_rf q2) (k_4 : aw ext d 54 10 [some (va_rf r0), some (va_rf r1), some (.ref a3), some (va_rf q2), some (.int (x4 + 1))] [] S Q) : aw ext d 54 26 [some (va_rf r0), some (va_rf r1), some (va_rf r2), some (.ref a3), some (.int x4)] [] S Q := by
  refine aw_ald j54_26 rfl rfl ?_
  refine aw_ast j54_27 rfl (Nat.le_of_ble_eq_true rfl) ?_
  refine aw_ald j54_28 rfl rfl ?_
  refine aw_get j54_29 t_1 f_3 ?_
  refine aw_ast j54_32 (av_isR_rf q2) (Nat.le_of_ble_eq_true rfl) ?_
  refine aw_inc j54_33 rfl ?_
  exact aw_goto j54_36 k_4
theorem bk54_39 {r0 : Option Nat} {r1 : Option Nat} {r2 : Option Nat} {r3 : Option Nat} {x4 : Int32}  (k_2 : r2 = none → aw ext d 54 43 [some (va_rf r0), some (va_rf r1), some (va_rf r2), some (va_rf r3), some (.int x4)] [] S Q) (k_3 : ∀ c_1, r2 = some c_1 → aw ext d 54 54 [some (va_rf r0), some (va_rf r1), some (va_rf r2), some (va_rf r3), some (.int x4)] [] S Q) : aw ext d 54 39 [some (va_rf r0), some (va_rf r1), some (va_rf r2), some (va_rf r3), some (.int x4)] [] S Q := by
  refine aw_ald j54_39 rfl (av_isR_rf r2) ?_
  exact aw_nonn (r := r2) j54_40 k_2 k_3
theorem bk54_43 {a0 : Nat} {a1 : Nat} {r2 : Option Nat} {r3 : Option Nat} {x4 : Int32} {q2 : Option Nat} (t_1 : S.1 a1 = some (.inl 8)) (f_3 : S.2.1 a1 8 = va_rf q2) (t_4 : S.1 a0 = some (.inl 8)) (k_5 : aw ext d 54 62 [some (.ref a0), some (.ref a1), some (va_rf r2), some (va_rf r3), some (.int x4)] [] (av_set S a0 7 (va_rf q2)) Q) : aw ext d 54 43 [some (.ref a0), some (.ref a1), some (va_rf r2), some (va_rf r3), some (.int x4)] [] S Q := by
  refine aw_ald j54_43 rfl rfl ?_
  refine aw_ald j54_44 rfl rfl ?_
  refine aw_get j54_45 t_1 f_3 ?_
  refine aw_put j54_48 t_4 (av_fo_rf _ q2) ?_
  exact aw_goto j54_51 k_5
theorem bk54_54 {r0 : Option Nat} {a1 : Nat} {a2 : Nat} {r3 : Option Nat} {x4 : Int32} {q2 : Option Nat} (t_1 : S.1 a1 = some (.inl 8)) (f_3 : S.2.1 a1 8 = va_rf q2) (t_4 : S.1 a2 = some (.inl 8)) (k_5 : aw ext d 54 62 [some (va_rf r0), some (.ref a1), some (.ref a2), some (va_rf r3), some (.int x4)] [] (av_set S a2 8 (va_rf q2)) Q) : aw ext d 54 54 [some (va_rf r0), some (.ref a1), some (.ref a2), some (va_rf r3), some (.int x4)] [] S Q := by
  refine aw_ald j54_54 rfl rfl ?_
  refine aw_ald j54_55 rfl rfl ?_
  refine aw_get j54_56 t_1 f_3 ?_
  refine aw_put j54_59 t_4 (av_fo_rf _ q2) ?_
  exact k_5
theorem bk54_62 {r0 : Option Nat} {a1 : Nat} {r2 : Option Nat} {r3 : Option Nat} {x4 : Int32} (t_1 : S.1 a1 = some (.inl 8)) (k_2 : Q none (av_set (av_set S a1 6 (.null)) a1 8 (.null))) : aw ext d 54 62 [some (va_rf r0), some (.ref a1), some (va_rf r2), some (va_rf r3), some (.int x4)] [] S Q := by
  refine aw_ald j54_62 rfl rfl ?_
  refine aw_nul j54_63 ?_
  refine aw_put j54_64 t_1 rfl ?_
  refine aw_ald j54_67 rfl rfl ?_
  refine aw_nul j54_68 ?_
  refine aw_put j54_69 t_1 rfl ?_
  exact aw_vret j54_72 rt54 k_2
/-! Div_next -/
theorem bk55_0 {a0 : Nat} {r1 : Option Nat} {o2 : Option Value} {o3 : Option Value} {q2 : Option Nat} (t_1 : S.1 a0 = some (.inl 8)) (f_3 : S.2.1 a0 7 = va_rf q2) (k_5 : q2 = none → aw ext d 55 12 [some (.ref a0), some (va_rf r1), o2, o3] [] S Q) (k_6 : ∀ c_4, q2 = some c_4 → aw ext d 55 7 [some (.ref a0), some (va_rf r1), o2, o3] [] S Q) : aw ext d 55 0 [some (.ref a0), some (va_rf r1), o2, o3] [] S Q := by
  refine aw_ald j55_0 rfl rfl ?_
  refine aw_get j55_1 t_1 f_3 ?_
  exact aw_null (r := q2) j55_4 k_5 k_6
theorem bk55_7 {a0 : Nat} {r1 : Option Nat} {o2 : Option Value} {o3 : Option Value} {q2 : Option Nat} (t_1 : S.1 a0 = some (.inl 8)) (f_3 : S.2.1 a0 7 = va_rf q2) (k_4 : Q (some (va_rf q2)) S) : aw ext d 55 7 [some (.ref a0), some (va_rf r1), o2, o3] [] S Q := by
  refine aw_ald j55_7 rfl rfl ?_
  refine aw_get j55_8 t_1 f_3 ?_
  exact aw_ret j55_11 (by rw [rt55]; exact (av_fo_rf _ q2)) k_4
theorem bk55_12 {r0 : Option Nat} {r1 : Option Nat} {o2 : Option Value} {o3 : Option Value}  (k_1 : aw ext d 55 16 [some (va_rf r0), some (va_rf r1), some (va_rf r0), some (.int (0 : Int32))] [] S Q) : aw ext d 55 12 [some (va_rf r0), some (va_rf r1), o2, o3] [] S Q := by
  refine aw_ald j55_12 rfl (av_isR_rf r0) ?_
  refine aw_ast j55_13 (av_isR_rf r0) (Nat.le_of_ble_eq_true rfl) ?_
  refine aw_con j55_14 ?_
  refine aw_ist j55_15 (Nat.le_of_ble_eq_true rfl) ?_
  exact k_1
theorem bk55_16 {r0 : Option Nat} {r1 : Option Nat} {r2 : Option Nat} {x3 : Int32}  (k_1 : ((120 : Int32) < x3) → aw ext d 55 54 [some (va_rf r0), some (va_rf r1), some (va_rf r2), some (.int x3)] [] S Q) (k_2 : (¬ ((120 : Int32) < x3)) → aw ext d 55 22 [some (va_rf r0), some (va_rf r1), some (va_rf r2), some (.int x3)] [] S Q) : aw ext d 55 16 [some (va_rf r0), some (va_rf r1), some (va_rf r2), some (.int x3)] [] S Q := by
  refine aw_ild j55_16 rfl ?_
  refine aw_con j55_17 ?_
  exact aw_ic j55_19 (fun h => k_1 (of_decide_eq_true h)) (fun h => k_2 (of_decide_eq_false h))
theorem bk55_22 {r0 : Option Nat} {r1 : Option Nat} {r2 : Option Nat} {x3 : Int32}  (k_2 : r2 = none → aw ext d 55 54 [some (va_rf r0), some (va_rf r1), some (va_rf r2), some (.int x3)] [] S Q) (k_3 : ∀ c_1, r2 = some c_1 → aw ext d 55 26 [some (va_rf r0), some (va_rf r1), some (va_rf r2), some (.int x3)] [] S Q) : aw ext d 55 22 [some (va_rf r0), some (va_rf r1), some (va_rf r2), some (.int x3)] [] S Q := by
  refine aw_ald j55_22 rfl (av_isR_rf r2) ?_
  exact aw_null (r := r2) j55_23 k_2 k_3
theorem bk55_26 {r0 : Option Nat} {r1 : Option Nat} {r2 : Option Nat} {x3 : Int32}  (k_1 : r2 = r1 → aw ext d 55 54 [some (va_rf r0), some (va_rf r1), some (va_rf r2), some (.int x3)] [] S Q) (k_2 : ¬ r2 = r1 → aw ext d 55 31 [some (va_rf r0), some (va_rf r1), some (va_rf r2), some (.int x3)] [] S Q) : aw ext d 55 26 [some (va_rf r0), some (va_rf r1), some (va_rf r2), some (.int x3)] [] S Q := by
  refine aw_ald j55_26 rfl (av_isR_rf r2) ?_
  refine aw_ald j55_27 rfl (av_isR_rf r1) ?_
  exact aw_ac (r1 := r2) (r2 := r1) j55_28 (fun h => k_1 (by simpa using h)) (fun h => k_2 (by simpa using h))
theorem bk55_31 {r0 : Option Nat} {r1 : Option Nat} {a2 : Nat} {x3 : Int32} {q2 : Option Nat} (t_1 : S.1 a2 = some (.inl 8)) (f_3 : S.2.1 a2 8 = va_rf q2) (k_5 : q2 = none → aw ext d 55 43 [some (va_rf r0), some (va_rf r1), some (.ref a2), some (.int x3)] [] S Q) (k_6 : ∀ c_4, q2 = some c_4 → aw ext d 55 38 [some (va_rf r0), some (va_rf r1), some (.ref a2), some (.int x3)] [] S Q) : aw ext d 55 31 [some (va_rf r0), some (va_rf r1), some (.ref a2), some (.int x3)] [] S Q := by
  refine aw_ald j55_31 rfl rfl ?_
  refine aw_get j55_32 t_1 f_3 ?_
  exact aw_null (r := q2) j55_35 k_5 k_6
theorem bk55_38 {r0 : Option Nat} {r1 : Option Nat} {a2 : Nat} {x3 : Int32} {q2 : Option Nat} (t_1 : S.1 a2 = some (.inl 8)) (f_3 : S.2.1 a2 8 = va_rf q2) (k_4 : Q (some (va_rf q2)) S) : aw ext d 55 38 [some (va_rf r0), some (va_rf r1), some (.ref a2), some (.int x3)] [] S Q := by
  refine aw_ald j55_38 rfl rfl ?_
  refine aw_get j55_39 t_1 f_3 ?_
  exact aw_ret j55_42 (by rw [rt55]; exact (av_fo_rf _ q2)) k_4
theorem bk55_43 {r0 : Option Nat} {r1 : Option Nat} {a2 : Nat} {x3 : Int32} {q2 : Option Nat} (t_1 : S.1 a2 = some (.inl 8)) (f_3 : S.2.1 a2 6 = va_rf q2) (k_4 : aw ext d 55 16 [some (va_rf r0), some (va_rf r1), some (va_rf q2), some (.int (x3 + 1))] [] S Q) : aw ext d 55 43 [some (va_rf r0), some (va_rf r1), some (.ref a2), some (.int x3)] [] S Q := by
  refine aw_ald j55_43 rfl rfl ?_
  refine aw_get j55_44 t_1 f_3 ?_
  refine aw_ast j55_47 (av_isR_rf q2) (Nat.le_of_ble_eq_true rfl) ?_
  refine aw_inc j55_48 rfl ?_
  exact aw_goto j55_51 k_4
theorem bk55_54 {r0 : Option Nat} {r1 : Option Nat} {r2 : Option Nat} {x3 : Int32}  (k_1 : Q (some (.null)) S) : aw ext d 55 54 [some (va_rf r0), some (va_rf r1), some (va_rf r2), some (.int x3)] [] S Q := by
  refine aw_nul j55_54 ?_
  exact aw_ret j55_55 (by rw [rt55]; exact rfl) k_1
/-! Div_hasOrderOfLower -/
theorem bk56_0 {a0 : Nat} {o1 : Option Value} {o2 : Option Value} {q2 : Option Nat} (t_1 : S.1 a0 = some (.inl 8)) (f_3 : S.2.1 a0 6 = va_rf q2) (k_5 : q2 = none → aw ext d 56 7 [some (.ref a0), o1, o2] [] S Q) (k_6 : ∀ c_4, q2 = some c_4 → aw ext d 56 11 [some (.ref a0), o1, o2] [] S Q) : aw ext d 56 0 [some (.ref a0), o1, o2] [] S Q := by
  refine aw_ald j56_0 rfl rfl ?_
  refine aw_get j56_1 t_1 f_3 ?_
  exact aw_nonn (r := q2) j56_4 k_5 k_6
theorem bk56_7 {r0 : Option Nat} {o1 : Option Value} {o2 : Option Value}  (k_1 : aw ext d 56 18 [some (va_rf r0), o1, o2] [.null] S Q) : aw ext d 56 7 [some (va_rf r0), o1, o2] [] S Q := by
  refine aw_nul j56_7 ?_
  exact aw_goto j56_8 k_1
theorem bk56_11 {a0 : Nat} {o1 : Option Value} {o2 : Option Value} {b2 : Nat} {q5 : Option Nat} (t_1 : S.1 a0 = some (.inl 8)) (f_3 : S.2.1 a0 6 = .ref b2) (t_4 : S.1 b2 = some (.inl 8)) (f_6 : S.2.1 b2 7 = va_rf q5) (k_7 : aw ext d 56 18 [some (.ref a0), o1, o2] [va_rf q5] S Q) : aw ext d 56 11 [some (.ref a0), o1, o2] [] S Q := by
  refine aw_ald j56_11 rfl rfl ?_
  refine aw_get j56_12 t_1 f_3 ?_
  refine aw_get j56_15 t_4 f_6 ?_
  exact k_7
theorem bk56_18 {r0 : Option Nat} {o1 : Option Value} {o2 : Option Value} {rk0 : Option Nat}  (k_1 : aw ext d 56 21 [some (va_rf r0), some (va_rf rk0), some (.int (0 : Int32))] [] S Q) : aw ext d 56 18 [some (va_rf r0), o1, o2] [va_rf rk0] S Q := by
  refine aw_ast j56_18 (av_isR_rf rk0) (Nat.le_of_ble_eq_true rfl) ?_
  refine aw_con j56_19 ?_
  refine aw_ist j56_20 (Nat.le_of_ble_eq_true rfl) ?_
  exact k_1
theorem bk56_21 {r0 : Option Nat} {r1 : Option Nat} {x2 : Int32}  (k_1 : ((120 : Int32) ≤ x2) → aw ext d 56 66 [some (va_rf r0), some (va_rf r1), some (.int x2)] [] S Q) (k_2 : (¬ ((120 : Int32) ≤ x2)) → aw ext d 56 27 [some (va_rf r0), some (va_rf r1), some (.int x2)] [] S Q) : aw ext d 56 21 [some (va_rf r0), some (va_rf r1), some (.int x2)] [] S Q := by
  refine aw_ild j56_21 rfl ?_
  refine aw_con j56_22 ?_
  exact aw_ic j56_24 (fun h => k_1 (of_decide_eq_true h)) (fun h => k_2 (of_decide_eq_false h))
theorem bk56_27 {r0 : Option Nat} {r1 : Option Nat} {x2 : Int32}  (k_2 : r1 = none → aw ext d 56 66 [some (va_rf r0), some (va_rf r1), some (.int x2)] [] S Q) (k_3 : ∀ c_1, r1 = some c_1 → aw ext d 56 31 [some (va_rf r0), some (va_rf r1), some (.int x2)] [] S Q) : aw ext d 56 27 [some (va_rf r0), some (va_rf r1), some (.int x2)] [] S Q := by
  refine aw_ald j56_27 rfl (av_isR_rf r1) ?_
  exact aw_null (r := r1) j56_28 k_2 k_3
theorem bk56_31 {a0 : Nat} {a1 : Nat} {x2 : Int32} {y2 : Int32} {y5 : Int32} (t_1 : S.1 a1 = some (.inl 8)) (f_3 : S.2.1 a1 2 = .int y2) (t_4 : S.1 a0 = some (.inl 8)) (f_6 : S.2.1 a0 2 = .int y5) (k_7 : (¬ y2 = y5) → aw ext d 56 55 [some (.ref a0), some (.ref a1), some (.int x2)] [] S Q) (k_8 : (y2 = y5) → aw ext d 56 42 [some (.ref a0), some (.ref a1), some (.int x2)] [] S Q) : aw ext d 56 31 [some (.ref a0), some (.ref a1), some (.int x2)] [] S Q := by
  refine aw_ald j56_31 rfl rfl ?_
  refine aw_get j56_32 t_1 f_3 ?_
  refine aw_ald j56_35 rfl rfl ?_
  refine aw_get j56_36 t_4 f_6 ?_
  exact aw_ic j56_39 (fun h => k_7 (of_decide_eq_true h)) (fun h => k_8 (Decidable.of_not_not (of_decide_eq_false h)))
theorem bk56_42 {a0 : Nat} {a1 : Nat} {x2 : Int32} {y2 : Int32} {y5 : Int32} (t_1 : S.1 a1 = some (.inl 8)) (f_3 : S.2.1 a1 0 = .int y2) (t_4 : S.1 a0 = some (.inl 8)) (f_6 : S.2.1 a0 0 = .int y5) (k_7 : (y5 ≤ y2) → aw ext d 56 55 [some (.ref a0), some (.ref a1), some (.int x2)] [] S Q) (k_8 : (¬ (y5 ≤ y2)) → aw ext d 56 53 [some (.ref a0), some (.ref a1), some (.int x2)] [] S Q) : aw ext d 56 42 [some (.ref a0), some (.ref a1), some (.int x2)] [] S Q := by
  refine aw_ald j56_42 rfl rfl ?_
  refine aw_get j56_43 t_1 f_3 ?_
  refine aw_ald j56_46 rfl rfl ?_
  refine aw_get j56_47 t_4 f_6 ?_
  exact aw_ic j56_50 (fun h => k_7 (of_decide_eq_true h)) (fun h => k_8 (of_decide_eq_false h))
theorem bk56_53 {r0 : Option Nat} {r1 : Option Nat} {x2 : Int32}  (k_1 : Q (some (.int (1 : Int32))) S) : aw ext d 56 53 [some (va_rf r0), some (va_rf r1), some (.int x2)] [] S Q := by
  refine aw_con j56_53 ?_
  exact aw_ret j56_54 (by rw [rt56]; exact rfl) k_1
theorem bk56_55 {r0 : Option Nat} {a1 : Nat} {x2 : Int32} {q2 : Option Nat} (t_1 : S.1 a1 = some (.inl 8)) (f_3 : S.2.1 a1 8 = va_rf q2) (k_4 : aw ext d 56 21 [some (va_rf r0), some (va_rf q2), some (.int (x2 + 1))] [] S Q) : aw ext d 56 55 [some (va_rf r0), some (.ref a1), some (.int x2)] [] S Q := by
  refine aw_ald j56_55 rfl rfl ?_
  refine aw_get j56_56 t_1 f_3 ?_
  refine aw_ast j56_59 (av_isR_rf q2) (Nat.le_of_ble_eq_true rfl) ?_
  refine aw_inc j56_60 rfl ?_
  exact aw_goto j56_63 k_4
theorem bk56_66 {r0 : Option Nat} {r1 : Option Nat} {x2 : Int32}  (k_1 : Q (some (.int (0 : Int32))) S) : aw ext d 56 66 [some (va_rf r0), some (va_rf r1), some (.int x2)] [] S Q := by
  refine aw_con j56_66 ?_
  exact aw_ret j56_67 (by rw [rt56]; exact rfl) k_1
/-! Div_linksBeyond -/
theorem bk57_0 {r0 : Option Nat} {o1 : Option Value} {o2 : Option Value}  (k_1 : aw ext d 57 2 [some (va_rf r0), some (.int (0 : Int32)), o2] [] S Q) : aw ext d 57 0 [some (va_rf r0), o1, o2] [] S Q := by
  refine aw_con j57_0 ?_
  refine aw_ist j57_1 (Nat.le_of_ble_eq_true rfl) ?_
  exact k_1
theorem bk57_2 {a0 : Nat} {x1 : Int32} {o2 : Option Value} {y2 : Int32} (t_1 : S.1 a0 = some (.inl 8)) (f_3 : S.2.1 a0 5 = .int y2) (k_4 : (y2 ≤ x1) → aw ext d 57 52 [some (.ref a0), some (.int x1), o2] [] S Q) (k_5 : (¬ (y2 ≤ x1)) → aw ext d 57 10 [some (.ref a0), some (.int x1), o2] [] S Q) : aw ext d 57 2 [some (.ref a0), some (.int x1), o2] [] S Q := by
  refine aw_ild j57_2 rfl ?_
  refine aw_ald j57_3 rfl rfl ?_
  refine aw_get j57_4 t_1 f_3 ?_
  exact aw_ic j57_7 (fun h => k_4 (of_decide_eq_true h)) (fun h => k_5 (of_decide_eq_false h))
theorem bk57_10 {a0 : Nat} {x1 : Int32} {o2 : Option Value} {b2 : Nat} {n_4 : Nat} (t_1 : S.1 a0 = some (.inl 8)) (f_3 : S.2.1 a0 4 = .ref b2) (t_5 : S.1 b2 = some (.inr (8, n_4))) (b_6 : n_4 < 2147483648) (k_7 : ((nI n_4) ≤ x1) → aw ext d 57 52 [some (.ref a0), some (.int x1), o2] [] S Q) (k_8 : (¬ ((nI n_4) ≤ x1)) → aw ext d 57 19 [some (.ref a0), some (.int x1), o2] [] S Q) : aw ext d 57 10 [some (.ref a0), some (.int x1), o2] [] S Q := by
  refine aw_ild j57_10 rfl ?_
  refine aw_ald j57_11 rfl rfl ?_
  refine aw_get j57_12 t_1 f_3 ?_
  refine aw_len j57_15 t_5 ?_
  exact aw_ic j57_16 (fun h => k_7 (of_decide_eq_true h)) (fun h => k_8 (of_decide_eq_false h))
theorem bk57_19 {a0 : Nat} {x1 : Int32} {o2 : Option Value} {b2 : Nat} {n_4 : Nat} {i_7 : Nat} {q10 : Option Nat} (t_1 : S.1 a0 = some (.inl 8)) (f_3 : S.2.1 a0 4 = .ref b2) (t_5 : S.1 b2 = some (.inr (8, n_4))) (b_6 : n_4 < 2147483648) (e_8 : x1 = nI i_7) (c_9 : i_7 < n_4) (f_11 : S.2.1 b2 i_7 = va_rf q10) (k_13 : q10 = none → aw ext d 57 46 [some (.ref a0), some (.int x1), some (va_rf q10)] [] S Q) (k_14 : ∀ c_12, q10 = some c_12 → aw ext d 57 30 [some (.ref a0), some (.int x1), some (va_rf q10)] [] S Q) : aw ext d 57 19 [some (.ref a0), some (.int x1), o2] [] S Q := by
  refine aw_ald j57_19 rfl rfl ?_
  refine aw_get j57_20 t_1 f_3 ?_
  refine aw_ild j57_23 rfl ?_
  refine aw_xld j57_24 t_5 e_8 c_9 b_6 f_11 ?_
  refine aw_ast j57_25 (av_isR_rf q10) (Nat.le_of_ble_eq_true rfl) ?_
  refine aw_ald j57_26 rfl (av_isR_rf q10) ?_
  exact aw_null (r := q10) j57_27 k_13 k_14
theorem bk57_30 {r0 : Option Nat} {x1 : Int32} {a2 : Nat} {y2 : Int32} {b4 : Nat} {y7 : Int32} (t_1 : S.1 a2 = some (.inl 9)) (f_3 : S.2.1 a2 3 = .int y2) (f_5 : S.2.1 a2 1 = .ref b4) (t_6 : S.1 b4 = some (.inl 6)) (f_8 : S.2.1 b4 1 = .int y7) (k_9 : (y2 ≤ y7) → aw ext d 57 46 [some (va_rf r0), some (.int x1), some (.ref a2)] [] S Q) (k_10 : (¬ (y2 ≤ y7)) → aw ext d 57 44 [some (va_rf r0), some (.int x1), some (.ref a2)] [] S Q) : aw ext d 57 30 [some (va_rf r0), some (.int x1), some (.ref a2)] [] S Q := by
  refine aw_ald j57_30 rfl rfl ?_
  refine aw_get j57_31 t_1 f_3 ?_
  refine aw_ald j57_34 rfl rfl ?_
  refine aw_get j57_35 t_1 f_5 ?_
  refine aw_get j57_38 t_6 f_8 ?_
  exact aw_ic j57_41 (fun h => k_9 (of_decide_eq_true h)) (fun h => k_10 (of_decide_eq_false h))
theorem bk57_44 {r0 : Option Nat} {x1 : Int32} {r2 : Option Nat}  (k_1 : Q (some (.int (1 : Int32))) S) : aw ext d 57 44 [some (va_rf r0), some (.int x1), some (va_rf r2)] [] S Q := by
  refine aw_con j57_44 ?_
  exact aw_ret j57_45 (by rw [rt57]; exact rfl) k_1
theorem bk57_46 {r0 : Option Nat} {x1 : Int32} {r2 : Option Nat}  (k_1 : aw ext d 57 2 [some (va_rf r0), some (.int (x1 + 1)), some (va_rf r2)] [] S Q) : aw ext d 57 46 [some (va_rf r0), some (.int x1), some (va_rf r2)] [] S Q := by
  refine aw_inc j57_46 rfl ?_
  exact aw_goto j57_49 k_1
theorem bk57_52 {r0 : Option Nat} {x1 : Int32} {o2 : Option Value}  (k_1 : Q (some (.int (0 : Int32))) S) : aw ext d 57 52 [some (va_rf r0), some (.int x1), o2] [] S Q := by
  refine aw_con j57_52 ?_
  exact aw_ret j57_53 (by rw [rt57]; exact rfl) k_1
/-! Div_depth -/
theorem bk58_0 {a0 : Nat} {o1 : Option Value} {o2 : Option Value} {o3 : Option Value} {q2 : Option Nat} (t_1 : S.1 a0 = some (.inl 8)) (f_3 : S.2.1 a0 6 = va_rf q2) (k_4 : aw ext d 58 9 [some (.ref a0), some (.int (0 : Int32)), some (va_rf q2), some (.int (0 : Int32))] [] S Q) : aw ext d 58 0 [some (.ref a0), o1, o2, o3] [] S Q := by
  refine aw_con j58_0 ?_
  refine aw_ist j58_1 (Nat.le_of_ble_eq_true rfl) ?_
  refine aw_ald j58_2 rfl rfl ?_
  refine aw_get j58_3 t_1 f_3 ?_
  refine aw_ast j58_6 (av_isR_rf q2) (Nat.le_of_ble_eq_true rfl) ?_
  refine aw_con j58_7 ?_
  refine aw_ist j58_8 (Nat.le_of_ble_eq_true rfl) ?_
  exact k_4
theorem bk58_9 {r0 : Option Nat} {x1 : Int32} {r2 : Option Nat} {x3 : Int32}  (k_1 : ((120 : Int32) ≤ x3) → aw ext d 58 41 [some (va_rf r0), some (.int x1), some (va_rf r2), some (.int x3)] [] S Q) (k_2 : (¬ ((120 : Int32) ≤ x3)) → aw ext d 58 15 [some (va_rf r0), some (.int x1), some (va_rf r2), some (.int x3)] [] S Q) : aw ext d 58 9 [some (va_rf r0), some (.int x1), some (va_rf r2), some (.int x3)] [] S Q := by
  refine aw_ild j58_9 rfl ?_
  refine aw_con j58_10 ?_
  exact aw_ic j58_12 (fun h => k_1 (of_decide_eq_true h)) (fun h => k_2 (of_decide_eq_false h))
theorem bk58_15 {r0 : Option Nat} {x1 : Int32} {r2 : Option Nat} {x3 : Int32}  (k_2 : r2 = none → aw ext d 58 41 [some (va_rf r0), some (.int x1), some (va_rf r2), some (.int x3)] [] S Q) (k_3 : ∀ c_1, r2 = some c_1 → aw ext d 58 19 [some (va_rf r0), some (.int x1), some (va_rf r2), some (.int x3)] [] S Q) : aw ext d 58 15 [some (va_rf r0), some (.int x1), some (va_rf r2), some (.int x3)] [] S Q := by
  refine aw_ald j58_15 rfl (av_isR_rf r2) ?_
  exact aw_null (r := r2) j58_16 k_2 k_3
theorem bk58_19 {r0 : Option Nat} {x1 : Int32} {a2 : Nat} {x3 : Int32} {y2 : Int32} (t_1 : S.1 a2 = some (.inl 8)) (f_3 : S.2.1 a2 0 = .int y2) (k_4 : (y2 = (-1 : Int32)) → aw ext d 58 41 [some (va_rf r0), some (.int x1), some (.ref a2), some (.int x3)] [] S Q) (k_5 : (¬ (y2 = (-1 : Int32))) → aw ext d 58 27 [some (va_rf r0), some (.int x1), some (.ref a2), some (.int x3)] [] S Q) : aw ext d 58 19 [some (va_rf r0), some (.int x1), some (.ref a2), some (.int x3)] [] S Q := by
  refine aw_ald j58_19 rfl rfl ?_
  refine aw_get j58_20 t_1 f_3 ?_
  refine aw_con j58_23 ?_
  exact aw_ic j58_24 (fun h => k_4 (of_decide_eq_true h)) (fun h => k_5 (of_decide_eq_false h))
theorem bk58_27 {r0 : Option Nat} {x1 : Int32} {a2 : Nat} {x3 : Int32} {q2 : Option Nat} (t_1 : S.1 a2 = some (.inl 8)) (f_3 : S.2.1 a2 6 = va_rf q2) (k_4 : aw ext d 58 9 [some (va_rf r0), some (.int (x1 + 1)), some (va_rf q2), some (.int (x3 + 1))] [] S Q) : aw ext d 58 27 [some (va_rf r0), some (.int x1), some (.ref a2), some (.int x3)] [] S Q := by
  refine aw_inc j58_27 rfl ?_
  refine aw_ald j58_30 rfl rfl ?_
  refine aw_get j58_31 t_1 f_3 ?_
  refine aw_ast j58_34 (av_isR_rf q2) (Nat.le_of_ble_eq_true rfl) ?_
  refine aw_inc j58_35 rfl ?_
  exact aw_goto j58_38 k_4
theorem bk58_41 {r0 : Option Nat} {x1 : Int32} {r2 : Option Nat} {x3 : Int32}  (k_1 : Q (some (.int x1)) S) : aw ext d 58 41 [some (va_rf r0), some (.int x1), some (va_rf r2), some (.int x3)] [] S Q := by
  refine aw_ild j58_41 rfl ?_
  exact aw_ret j58_42 (by rw [rt58]; exact rfl) k_1
/-! Div_countUnder -/
theorem bk59_0 {a0 : Nat} {o1 : Option Value} {o2 : Option Value} {o3 : Option Value} {P_1 : Option Nat → av_St → Prop} (t_4 : S.1 a0 = some (.inl 8)) (m_5 : ctr ext d 55 [.ref a0, .ref a0] S P_1) (k_6 : ∀ v_3 S_2, P_1 v_3 S_2 → aw ext (d + 1) 59 7 [some (.ref a0), some (.int (0 : Int32)), o2, o3] [va_rf v_3] S_2 Q) : aw ext (d + 1) 59 0 [some (.ref a0), o1, o2, o3] [] S Q := by
  refine aw_con j59_0 ?_
  refine aw_ist j59_1 (Nat.le_of_ble_eq_true rfl) ?_
  refine aw_ald j59_2 rfl rfl ?_
  refine aw_ald j59_3 rfl rfl ?_
  exact aw_callr (as := [.ref a0, .ref a0]) j59_4 rfl rfl (Nat.le_of_ble_eq_true rfl) cy55.1 cy55.2 (cs_cons rfl (cs_cons rfl cs_nil)) (decide_eq_true t_4) m_5 k_6
theorem bk59_7 {r0 : Option Nat} {x1 : Int32} {o2 : Option Value} {o3 : Option Value} {rk0 : Option Nat}  (k_1 : aw ext d 59 10 [some (va_rf r0), some (.int x1), some (va_rf rk0), some (.int (0 : Int32))] [] S Q) : aw ext d 59 7 [some (va_rf r0), some (.int x1), o2, o3] [va_rf rk0] S Q := by
  refine aw_ast j59_7 (av_isR_rf rk0) (Nat.le_of_ble_eq_true rfl) ?_
  refine aw_con j59_8 ?_
  refine aw_ist j59_9 (Nat.le_of_ble_eq_true rfl) ?_
  exact k_1
theorem bk59_10 {r0 : Option Nat} {x1 : Int32} {r2 : Option Nat} {x3 : Int32}  (k_1 : ((120 : Int32) ≤ x3) → aw ext d 59 35 [some (va_rf r0), some (.int x1), some (va_rf r2), some (.int x3)] [] S Q) (k_2 : (¬ ((120 : Int32) ≤ x3)) → aw ext d 59 16 [some (va_rf r0), some (.int x1), some (va_rf r2), some (.int x3)] [] S Q) : aw ext d 59 10 [some (va_rf r0), some (.int x1), some (va_rf r2), some (.int x3)] [] S Q := by
  refine aw_ild j59_10 rfl ?_
  refine aw_con j59_11 ?_
  exact aw_ic j59_13 (fun h => k_1 (of_decide_eq_true h)) (fun h => k_2 (of_decide_eq_false h))
theorem bk59_16 {r0 : Option Nat} {x1 : Int32} {r2 : Option Nat} {x3 : Int32}  (k_2 : r2 = none → aw ext d 59 35 [some (va_rf r0), some (.int x1), some (va_rf r2), some (.int x3)] [] S Q) (k_3 : ∀ c_1, r2 = some c_1 → aw ext d 59 20 [some (va_rf r0), some (.int x1), some (va_rf r2), some (.int x3)] [] S Q) : aw ext d 59 16 [some (va_rf r0), some (.int x1), some (va_rf r2), some (.int x3)] [] S Q := by
  refine aw_ald j59_16 rfl (av_isR_rf r2) ?_
  exact aw_null (r := r2) j59_17 k_2 k_3
theorem bk59_20 {r0 : Option Nat} {x1 : Int32} {a2 : Nat} {x3 : Int32} {P_1 : Option Nat → av_St → Prop} (t_4 : S.1 a2 = some (.inl 8)) (m_5 : ctr ext d 55 [.ref a2, va_rf r0] S P_1) (k_6 : ∀ v_3 S_2, P_1 v_3 S_2 → aw ext (d + 1) 59 28 [some (va_rf r0), some (.int (x1 + 1)), some (.ref a2), some (.int x3)] [va_rf v_3] S_2 Q) : aw ext (d + 1) 59 20 [some (va_rf r0), some (.int x1), some (.ref a2), some (.int x3)] [] S Q := by
  refine aw_inc j59_20 rfl ?_
  refine aw_ald j59_23 rfl rfl ?_
  refine aw_ald j59_24 rfl (av_isR_rf r0) ?_
  exact aw_callr (as := [.ref a2, va_rf r0]) j59_25 rfl rfl (Nat.le_of_ble_eq_true rfl) cy55.1 cy55.2 (cs_cons rfl (cs_cons (av_cat_rf r0) cs_nil)) (decide_eq_true t_4) m_5 k_6
theorem bk59_28 {r0 : Option Nat} {x1 : Int32} {r2 : Option Nat} {x3 : Int32} {rk0 : Option Nat}  (k_1 : aw ext d 59 10 [some (va_rf r0), some (.int x1), some (va_rf rk0), some (.int (x3 + 1))] [] S Q) : aw ext d 59 28 [some (va_rf r0), some (.int x1), some (va_rf r2), some (.int x3)] [va_rf rk0] S Q := by
  refine aw_ast j59_28 (av_isR_rf rk0) (Nat.le_of_ble_eq_true rfl) ?_
  refine aw_inc j59_29 rfl ?_
  exact aw_goto j59_32 k_1
theorem bk59_35 {r0 : Option Nat} {x1 : Int32} {r2 : Option Nat} {x3 : Int32}  (k_1 : Q (some (.int x1)) S) : aw ext d 59 35 [some (va_rf r0), some (.int x1), some (va_rf r2), some (.int x3)] [] S Q := by
  refine aw_ild j59_35 rfl ?_
  exact aw_ret j59_36 (by rw [rt59]; exact rfl) k_1
/-! Link_init -/
theorem bk60_0 {a0 : Nat} {r1 : Option Nat} {r2 : Option Nat} {x3 : Int32} {x4 : Int32}  (k_1 : aw ext (d + 1) 60 4 [some (.ref a0), some (va_rf r1), some (va_rf r2), some (.int x3), some (.int x4)] [] S Q) : aw ext (d + 1) 60 0 [some (.ref a0), some (va_rf r1), some (va_rf r2), some (.int x3), some (.int x4)] [] S Q := by
  refine aw_ald j60_0 rfl rfl ?_
  exact aw_obj j60_1 (Nat.le_of_ble_eq_true rfl) k_1
theorem bk60_4 {a0 : Nat} {r1 : Option Nat} {r2 : Option Nat} {x3 : Int32} {x4 : Int32} (t_1 : S.1 a0 = some (.inl 9)) (k_2 : Q none (av_set (av_set (av_set (av_set (av_set S a0 0 (va_rf r1)) a0 1 (va_rf r2)) a0 2 (.int x3)) a0 3 (.int x4)) a0 4 (.null))) : aw ext d 60 4 [some (.ref a0), some (va_rf r1), some (va_rf r2), some (.int x3), some (.int x4)] [] S Q := by
  refine aw_ald j60_4 rfl rfl ?_
  refine aw_ald j60_5 rfl (av_isR_rf r1) ?_
  refine aw_put j60_6 t_1 (av_fo_rf _ r1) ?_
  refine aw_ald j60_9 rfl rfl ?_
  refine aw_ald j60_10 rfl (av_isR_rf r2) ?_
  refine aw_put j60_11 t_1 (av_fo_rf _ r2) ?_
  refine aw_ald j60_14 rfl rfl ?_
  refine aw_ild j60_15 rfl ?_
  refine aw_put j60_16 t_1 rfl ?_
  refine aw_ald j60_19 rfl rfl ?_
  refine aw_ild j60_20 rfl ?_
  refine aw_put j60_22 t_1 rfl ?_
  refine aw_ald j60_25 rfl rfl ?_
  refine aw_nul j60_26 ?_
  refine aw_put j60_27 t_1 rfl ?_
  exact aw_vret j60_30 rt60 k_2
/-! Link_timesMet -/
theorem bk61_0 {a0 : Nat} {r1 : Option Nat} {o2 : Option Value} {b2 : Nat} {y5 : Int32} (t_1 : S.1 a0 = some (.inl 9)) (f_3 : S.2.1 a0 0 = .ref b2) (t_4 : S.1 b2 = some (.inl 8)) (f_6 : S.2.1 b2 0 = .int y5) (k_7 : (y5 < 0) → aw ext d 61 18 [some (.ref a0), some (va_rf r1), some (.int y5)] [] S Q) (k_8 : (¬ (y5 < 0)) → aw ext d 61 12 [some (.ref a0), some (va_rf r1), some (.int y5)] [] S Q) : aw ext d 61 0 [some (.ref a0), some (va_rf r1), o2] [] S Q := by
  refine aw_ald j61_0 rfl rfl ?_
  refine aw_get j61_1 t_1 f_3 ?_
  refine aw_get j61_4 t_4 f_6 ?_
  refine aw_ist j61_7 (Nat.le_of_ble_eq_true rfl) ?_
  refine aw_ild j61_8 rfl ?_
  exact aw_if j61_9 (fun h => k_7 (of_decide_eq_true h)) (fun h => k_8 (of_decide_eq_false h))
theorem bk61_12 {r0 : Option Nat} {a1 : Nat} {x2 : Int32} {n_1 : Nat} (t_2 : S.1 a1 = some (.inr (0, n_1))) (b_3 : n_1 < 2147483648) (k_4 : (x2 < (nI n_1)) → aw ext d 61 22 [some (va_rf r0), some (.ref a1), some (.int x2)] [] S Q) (k_5 : (¬ (x2 < (nI n_1))) → aw ext d 61 18 [some (va_rf r0), some (.ref a1), some (.int x2)] [] S Q) : aw ext d 61 12 [some (va_rf r0), some (.ref a1), some (.int x2)] [] S Q := by
  refine aw_ild j61_12 rfl ?_
  refine aw_ald j61_13 rfl rfl ?_
  refine aw_len j61_14 t_2 ?_
  exact aw_ic j61_15 (fun h => k_4 (of_decide_eq_true h)) (fun h => k_5 (of_decide_eq_false h))
theorem bk61_18 {r0 : Option Nat} {r1 : Option Nat} {x2 : Int32}  (k_1 : aw ext d 61 25 [some (va_rf r0), some (va_rf r1), some (.int x2)] [.int (0 : Int32)] S Q) : aw ext d 61 18 [some (va_rf r0), some (va_rf r1), some (.int x2)] [] S Q := by
  refine aw_con j61_18 ?_
  exact aw_goto j61_19 k_1
theorem bk61_22 {r0 : Option Nat} {a1 : Nat} {x2 : Int32} {n_1 : Nat} {i_4 : Nat} {y7 : Int32} (t_2 : S.1 a1 = some (.inr (0, n_1))) (b_3 : n_1 < 2147483648) (e_5 : x2 = nI i_4) (c_6 : i_4 < n_1) (f_8 : S.2.1 a1 i_4 = .int y7) (k_9 : aw ext d 61 25 [some (va_rf r0), some (.ref a1), some (.int x2)] [.int y7] S Q) : aw ext d 61 22 [some (va_rf r0), some (.ref a1), some (.int x2)] [] S Q := by
  refine aw_ald j61_22 rfl rfl ?_
  refine aw_ild j61_23 rfl ?_
  refine aw_xld j61_24 t_2 e_5 c_6 b_3 f_8 ?_
  exact k_9
theorem bk61_25 {r0 : Option Nat} {r1 : Option Nat} {x2 : Int32} {xk0 : Int32}  (k_1 : Q (some (.int xk0)) S) : aw ext d 61 25 [some (va_rf r0), some (va_rf r1), some (.int x2)] [.int xk0] S Q := by
  exact aw_ret j61_25 (by rw [rt61]; exact rfl) k_1
end
