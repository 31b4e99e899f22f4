section
variable {ext : av_X} {d : Nat} {S : av_St} {Q : Option Value → av_St → Prop}
/-! SM_init -/
theorem bk0_0 {a0 : Nat}  (k_1 : aw ext (d + 1) 0 4 [some (.ref a0)] [] S Q) : aw ext (d + 1) 0 0 [some (.ref a0)] [] S Q := by
  refine aw_ald j0_0 rfl rfl ?_
  exact aw_obj j0_1 (Nat.le_of_ble_eq_true rfl) k_1
theorem bk0_4 {r0 : Option Nat}  (k_1 : aw ext d 0 10 [some (va_rf r0)] [.ref S.2.2.1, va_rf r0] (av_new S (.inr (5, 30)) (fun _ => .null) 30) Q) : aw ext d 0 4 [some (va_rf r0)] [] S Q := by
  refine aw_ald j0_4 rfl (av_isR_rf r0) ?_
  refine aw_con j0_5 ?_
  refine aw_newr (n := 30) j0_7 (by decide) (by decide) ?_
  exact k_1
theorem bk0_10 {a0 : Nat} {ak0 : Nat} {rk1 : Option Nat} (t_1 : S.1 ak0 = some (.inl 0)) (t_2 : (av_set S ak0 0 (va_rf rk1)).1 a0 = some (.inl 0)) (k_3 : aw ext d 0 23 [some (.ref a0)] [.ref (av_set (av_set S ak0 0 (va_rf rk1)) a0 1 (.int (0 : Int32))).2.2.1, .ref a0] (av_new (av_set (av_set S ak0 0 (va_rf rk1)) a0 1 (.int (0 : Int32))) (.inr (6, 5)) (fun _ => .null) 5) Q) : aw ext d 0 10 [some (.ref a0)] [va_rf rk1, .ref ak0] S Q := by
  refine aw_put j0_10 t_1 (av_fa_rf _ rk1) ?_
  refine aw_ald j0_13 rfl rfl ?_
  refine aw_con j0_14 ?_
  refine aw_put j0_15 t_2 rfl ?_
  refine aw_ald j0_18 rfl rfl ?_
  refine aw_con j0_19 ?_
  refine aw_newr (n := 5) j0_20 (by decide) (by decide) ?_
  exact k_3
theorem bk0_23 {a0 : Nat} {ak0 : Nat} {rk1 : Option Nat} (t_1 : S.1 ak0 = some (.inl 0)) (t_2 : (av_set S ak0 2 (va_rf rk1)).1 a0 = some (.inl 0)) (k_3 : aw ext d 0 37 [some (.ref a0)] [.ref (av_set (av_set S ak0 2 (va_rf rk1)) a0 3 (.int (0 : Int32))).2.2.1, .ref a0] (av_new (av_set (av_set S ak0 2 (va_rf rk1)) a0 3 (.int (0 : Int32))) (.inr (7, 120)) (fun _ => .null) 120) Q) : aw ext d 0 23 [some (.ref a0)] [va_rf rk1, .ref ak0] S Q := by
  refine aw_put j0_23 t_1 (av_fa_rf _ rk1) ?_
  refine aw_ald j0_26 rfl rfl ?_
  refine aw_con j0_27 ?_
  refine aw_put j0_28 t_2 rfl ?_
  refine aw_ald j0_31 rfl rfl ?_
  refine aw_con j0_32 ?_
  refine aw_newr (n := 120) j0_34 (by decide) (by decide) ?_
  exact k_3
theorem bk0_37 {a0 : Nat} {ak0 : Nat} {rk1 : Option Nat} (t_1 : S.1 ak0 = some (.inl 0)) (t_2 : (av_set S ak0 4 (va_rf rk1)).1 a0 = some (.inl 0)) (k_3 : aw ext d 0 49 [some (.ref a0)] [.ref (av_set (av_set S ak0 4 (va_rf rk1)) a0 5 (.int (0 : Int32))).2.2.1, .ref a0] (av_new (av_set (av_set S ak0 4 (va_rf rk1)) a0 5 (.int (0 : Int32))) (.inl 1) (fun f => defaultValue (sm_fT 1 f)) (sm_fN 1)) Q) : aw ext d 0 37 [some (.ref a0)] [va_rf rk1, .ref ak0] S Q := by
  refine aw_put j0_37 t_1 (av_fa_rf _ rk1) ?_
  refine aw_ald j0_40 rfl rfl ?_
  refine aw_con j0_41 ?_
  refine aw_put j0_42 t_2 rfl ?_
  refine aw_ald j0_45 rfl rfl ?_
  refine aw_new j0_46 ?_
  exact k_3
theorem bk0_49 {r0 : Option Nat} {rk0 : Option Nat} {ak1 : Nat} {P_1 : av_St → Prop} (m_4 : ctv ext d 24 [.ref ak1] S P_1) (k_5 : ∀ S_2, P_1 S_2 → aw ext (d + 1) 0 53 [some (va_rf r0)] [.ref ak1, va_rf rk0] S_2 Q) : aw ext (d + 1) 0 49 [some (va_rf r0)] [.ref ak1, va_rf rk0] S Q := by
  refine aw_dup j0_49 rfl ?_
  exact aw_callv (as := [.ref ak1]) j0_50 rfl rfl (Nat.le_of_ble_eq_true rfl) cy24.1 cy24.2 (cs_cons rfl cs_nil) rfl m_4 k_5
theorem bk0_53 {r0 : Option Nat} {ak0 : Nat} {rk1 : Option Nat} (t_1 : S.1 ak0 = some (.inl 0)) (k_2 : aw ext d 0 60 [some (va_rf r0)] [.ref (av_set S ak0 6 (va_rf rk1)).2.2.1, va_rf r0] (av_new (av_set S ak0 6 (va_rf rk1)) (.inl 2) (fun f => defaultValue (sm_fT 2 f)) (sm_fN 2)) Q) : aw ext d 0 53 [some (va_rf r0)] [va_rf rk1, .ref ak0] S Q := by
  refine aw_put j0_53 t_1 (av_fo_rf _ rk1) ?_
  refine aw_ald j0_56 rfl (av_isR_rf r0) ?_
  refine aw_new j0_57 ?_
  exact k_2
theorem bk0_60 {r0 : Option Nat} {rk0 : Option Nat} {ak1 : Nat} {P_1 : av_St → Prop} (m_4 : ctv ext d 29 [.ref ak1] S P_1) (k_5 : ∀ S_2, P_1 S_2 → aw ext (d + 1) 0 64 [some (va_rf r0)] [.ref ak1, va_rf rk0] S_2 Q) : aw ext (d + 1) 0 60 [some (va_rf r0)] [.ref ak1, va_rf rk0] S Q := by
  refine aw_dup j0_60 rfl ?_
  exact aw_callv (as := [.ref ak1]) j0_61 rfl rfl (Nat.le_of_ble_eq_true rfl) cy29.1 cy29.2 (cs_cons rfl cs_nil) rfl m_4 k_5
theorem bk0_64 {r0 : Option Nat} {ak0 : Nat} {rk1 : Option Nat} (t_1 : S.1 ak0 = some (.inl 0)) (k_2 : aw ext d 0 71 [some (va_rf r0)] [.ref (av_set S ak0 7 (va_rf rk1)).2.2.1, va_rf r0] (av_new (av_set S ak0 7 (va_rf rk1)) (.inl 3) (fun f => defaultValue (sm_fT 3 f)) (sm_fN 3)) Q) : aw ext d 0 64 [some (va_rf r0)] [va_rf rk1, .ref ak0] S Q := by
  refine aw_put j0_64 t_1 (av_fo_rf _ rk1) ?_
  refine aw_ald j0_67 rfl (av_isR_rf r0) ?_
  refine aw_new j0_68 ?_
  exact k_2
theorem bk0_71 {r0 : Option Nat} {rk0 : Option Nat} {ak1 : Nat} {P_1 : av_St → Prop} (m_4 : ctv ext d 35 [.ref ak1] S P_1) (k_5 : ∀ S_2, P_1 S_2 → aw ext (d + 1) 0 75 [some (va_rf r0)] [.ref ak1, va_rf rk0] S_2 Q) : aw ext (d + 1) 0 71 [some (va_rf r0)] [.ref ak1, va_rf rk0] S Q := by
  refine aw_dup j0_71 rfl ?_
  exact aw_callv (as := [.ref ak1]) j0_72 rfl rfl (Nat.le_of_ble_eq_true rfl) cy35.1 cy35.2 (cs_cons rfl cs_nil) rfl m_4 k_5
theorem bk0_75 {r0 : Option Nat} {ak0 : Nat} {rk1 : Option Nat} (t_1 : S.1 ak0 = some (.inl 0)) (k_2 : aw ext d 0 82 [some (va_rf r0)] [.ref (av_set S ak0 8 (va_rf rk1)).2.2.1, va_rf r0] (av_new (av_set S ak0 8 (va_rf rk1)) (.inl 4) (fun f => defaultValue (sm_fT 4 f)) (sm_fN 4)) Q) : aw ext d 0 75 [some (va_rf r0)] [va_rf rk1, .ref ak0] S Q := by
  refine aw_put j0_75 t_1 (av_fo_rf _ rk1) ?_
  refine aw_ald j0_78 rfl (av_isR_rf r0) ?_
  refine aw_new j0_79 ?_
  exact k_2
theorem bk0_82 {r0 : Option Nat} {rk0 : Option Nat} {ak1 : Nat} {P_1 : av_St → Prop} (m_4 : ctv ext d 39 [.ref ak1] S P_1) (k_5 : ∀ S_2, P_1 S_2 → aw ext (d + 1) 0 86 [some (va_rf r0)] [.ref ak1, va_rf rk0] S_2 Q) : aw ext (d + 1) 0 82 [some (va_rf r0)] [.ref ak1, va_rf rk0] S Q := by
  refine aw_dup j0_82 rfl ?_
  exact aw_callv (as := [.ref ak1]) j0_83 rfl rfl (Nat.le_of_ble_eq_true rfl) cy39.1 cy39.2 (cs_cons rfl cs_nil) rfl m_4 k_5
theorem bk0_86 {r0 : Option Nat} {ak0 : Nat} {rk1 : Option Nat} (t_1 : S.1 ak0 = some (.inl 0)) (k_2 : aw ext d 0 93 [some (va_rf r0)] [.ref (av_set S ak0 9 (va_rf rk1)).2.2.1, va_rf r0] (av_new (av_set S ak0 9 (va_rf rk1)) (.inl 5) (fun f => defaultValue (sm_fT 5 f)) (sm_fN 5)) Q) : aw ext d 0 86 [some (va_rf r0)] [va_rf rk1, .ref ak0] S Q := by
  refine aw_put j0_86 t_1 (av_fo_rf _ rk1) ?_
  refine aw_ald j0_89 rfl (av_isR_rf r0) ?_
  refine aw_new j0_90 ?_
  exact k_2
theorem bk0_93 {r0 : Option Nat} {rk0 : Option Nat} {ak1 : Nat} {P_1 : av_St → Prop} (m_4 : ctv ext d 41 [.ref ak1] S P_1) (k_5 : ∀ S_2, P_1 S_2 → aw ext (d + 1) 0 97 [some (va_rf r0)] [.ref ak1, va_rf rk0] S_2 Q) : aw ext (d + 1) 0 93 [some (va_rf r0)] [.ref ak1, va_rf rk0] S Q := by
  refine aw_dup j0_93 rfl ?_
  exact aw_callv (as := [.ref ak1]) j0_94 rfl rfl (Nat.le_of_ble_eq_true rfl) cy41.1 cy41.2 (cs_cons rfl cs_nil) rfl m_4 k_5
theorem bk0_97 {r0 : Option Nat} {ak0 : Nat} {rk1 : Option Nat} (t_1 : S.1 ak0 = some (.inl 0)) (k_2 : Q none (av_set S ak0 10 (va_rf rk1))) : aw ext d 0 97 [some (va_rf r0)] [va_rf rk1, .ref ak0] S Q := by
  refine aw_put j0_97 t_1 (av_fo_rf _ rk1) ?_
  exact aw_vret j0_100 rt0 k_2
/-! SM_file -/
theorem bk1_0 {r0 : Option Nat} {x1 : Int32} {o2 : Option Value} {P_1 : Int32 → av_St → Prop} (m_4 : cti ext d 2 [.int x1] S P_1) (k_5 : ∀ v_3 S_2, P_1 v_3 S_2 → aw ext (d + 1) 1 4 [some (va_rf r0), some (.int x1), o2] [.int v_3] S_2 Q) : aw ext (d + 1) 1 0 [some (va_rf r0), some (.int x1), o2] [] S Q := by
  refine aw_ild j1_0 rfl ?_
  exact aw_calli (as := [.int x1]) j1_1 rfl rfl (Nat.le_of_ble_eq_true rfl) cy2.1 cy2.2 (cs_cons rfl cs_nil) rfl m_4 k_5
theorem bk1_4 {r0 : Option Nat} {x1 : Int32} {o2 : Option Value} {xk0 : Int32}  (k_1 : (¬ xk0 = 0) → aw ext d 1 10 [some (va_rf r0), some (.int x1), o2] [] S Q) (k_2 : (xk0 = 0) → aw ext d 1 7 [some (va_rf r0), some (.int x1), o2] [] S Q) : aw ext d 1 4 [some (va_rf r0), some (.int x1), o2] [.int xk0] S Q := by
  exact aw_if j1_4 (fun h => k_1 (of_decide_eq_true h)) (fun h => k_2 (Decidable.of_not_not (of_decide_eq_false h)))
theorem bk1_7 {r0 : Option Nat} {x1 : Int32} {o2 : Option Value}  (k_1 : Q (some (.int (-2 : Int32))) S) : aw ext d 1 7 [some (va_rf r0), some (.int x1), o2] [] S Q := by
  refine aw_con j1_7 ?_
  exact aw_ret j1_9 (by rw [rt1]; exact rfl) k_1
theorem bk1_10 {a0 : Nat} {x1 : Int32} {o2 : Option Value} {y2 : Int32} (t_1 : S.1 a0 = some (.inl 0)) (f_3 : S.2.1 a0 1 = .int y2) (k_4 : (y2 < (30 : Int32)) → aw ext d 1 22 [some (.ref a0), some (.int x1), o2] [] S Q) (k_5 : (¬ (y2 < (30 : Int32))) → aw ext d 1 19 [some (.ref a0), some (.int x1), o2] [] S Q) : aw ext d 1 10 [some (.ref a0), some (.int x1), o2] [] S Q := by
  refine aw_ald j1_10 rfl rfl ?_
  refine aw_get j1_11 t_1 f_3 ?_
  refine aw_con j1_14 ?_
  exact aw_ic j1_16 (fun h => k_4 (of_decide_eq_true h)) (fun h => k_5 (of_decide_eq_false h))
theorem bk1_19 {r0 : Option Nat} {x1 : Int32} {o2 : Option Value}  (k_1 : Q (some (.int (-4 : Int32))) S) : aw ext d 1 19 [some (va_rf r0), some (.int x1), o2] [] S Q := by
  refine aw_con j1_19 ?_
  exact aw_ret j1_21 (by rw [rt1]; exact rfl) k_1
theorem bk1_22 {a0 : Nat} {x1 : Int32} {o2 : Option Value} {y2 : Int32} {q4 : Option Nat} (t_1 : S.1 a0 = some (.inl 0)) (f_3 : S.2.1 a0 1 = .int y2) (f_5 : S.2.1 a0 0 = va_rf q4) (k_6 : aw ext d 1 35 [some (.ref a0), some (.int x1), some (.int y2)] [.ref S.2.2.1, .int y2, va_rf q4] (av_new S (.inl 6) (fun f => defaultValue (sm_fT 6 f)) (sm_fN 6)) Q) : aw ext d 1 22 [some (.ref a0), some (.int x1), o2] [] S Q := by
  refine aw_ald j1_22 rfl rfl ?_
  refine aw_get j1_23 t_1 f_3 ?_
  refine aw_ist j1_26 (Nat.le_of_ble_eq_true rfl) ?_
  refine aw_ald j1_27 rfl rfl ?_
  refine aw_get j1_28 t_1 f_5 ?_
  refine aw_ild j1_31 rfl ?_
  refine aw_new j1_32 ?_
  exact k_6
theorem bk1_35 {r0 : Option Nat} {x1 : Int32} {x2 : Int32} {rk0 : Option Nat} {xk1 : Int32} {ak2 : Nat} {P_1 : av_St → Prop} (m_4 : ctv ext d 45 [.ref ak2, .int x2, .int x1] S P_1) (k_5 : ∀ S_2, P_1 S_2 → aw ext (d + 1) 1 41 [some (va_rf r0), some (.int x1), some (.int x2)] [.ref ak2, .int xk1, va_rf rk0] S_2 Q) : aw ext (d + 1) 1 35 [some (va_rf r0), some (.int x1), some (.int x2)] [.ref ak2, .int xk1, va_rf rk0] S Q := by
  refine aw_dup j1_35 rfl ?_
  refine aw_ild j1_36 rfl ?_
  refine aw_ild j1_37 rfl ?_
  exact aw_callv (as := [.ref ak2, .int x2, .int x1]) j1_38 rfl rfl (Nat.le_of_ble_eq_true rfl) cy45.1 cy45.2 (cs_cons rfl (cs_cons rfl (cs_cons rfl cs_nil))) rfl m_4 k_5
theorem bk1_41 {a0 : Nat} {x1 : Int32} {x2 : Int32} {ak0 : Nat} {xk1 : Int32} {rk2 : Option Nat} {n_1 : Nat} {i_4 : Nat} {y10 : Int32} (t_2 : S.1 ak0 = some (.inr (5, n_1))) (b_3 : n_1 < 2147483648) (e_5 : xk1 = nI i_4) (c_6 : i_4 < n_1) (t_8 : ∀ w_7, rk2 = some w_7 → S.1 w_7 = some (.inl 6)) (t_9 : (av_set S ak0 i_4 (va_rf rk2)).1 a0 = some (.inl 0)) (f_11 : (av_set S ak0 i_4 (va_rf rk2)).2.1 a0 1 = .int y10) (k_12 : Q (some (.int x2)) (av_set (av_set S ak0 i_4 (va_rf rk2)) a0 1 (.int (y10 + (1 : Int32))))) : aw ext d 1 41 [some (.ref a0), some (.int x1), some (.int x2)] [va_rf rk2, .int xk1, .ref ak0] S Q := by
  refine aw_ast2 (r := rk2) j1_41 t_2 e_5 c_6 b_3 t_8 ?_
  refine aw_ald j1_42 rfl rfl ?_
  refine aw_dup j1_43 rfl ?_
  refine aw_get j1_44 t_9 f_11 ?_
  refine aw_con j1_47 ?_
  refine aw_bin (z := (y10 + (1 : Int32))) j1_48 rfl ?_
  refine aw_put j1_49 t_9 rfl ?_
  refine aw_ild j1_52 rfl ?_
  exact aw_ret j1_53 (by rw [rt1]; exact rfl) k_12
/-! SM_isSize -/
theorem bk2_0 {x0 : Int32}  (k_1 : (x0 < 0) → aw ext d 2 14 [some (.int x0)] [] S Q) (k_2 : (¬ (x0 < 0)) → aw ext d 2 4 [some (.int x0)] [] S Q) : aw ext d 2 0 [some (.int x0)] [] S Q := by
  refine aw_ild j2_0 rfl ?_
  exact aw_if j2_1 (fun h => k_1 (of_decide_eq_true h)) (fun h => k_2 (of_decide_eq_false h))
theorem bk2_4 {x0 : Int32}  (k_1 : ((100000 : Int32) < x0) → aw ext d 2 14 [some (.int x0)] [] S Q) (k_2 : (¬ ((100000 : Int32) < x0)) → aw ext d 2 10 [some (.int x0)] [] S Q) : aw ext d 2 4 [some (.int x0)] [] S Q := by
  refine aw_ild j2_4 rfl ?_
  refine aw_con j2_5 ?_
  exact aw_ic j2_7 (fun h => k_1 (of_decide_eq_true h)) (fun h => k_2 (of_decide_eq_false h))
theorem bk2_10 {x0 : Int32}  (k_1 : aw ext d 2 15 [some (.int x0)] [.int (1 : Int32)] S Q) : aw ext d 2 10 [some (.int x0)] [] S Q := by
  refine aw_con j2_10 ?_
  exact aw_goto j2_11 k_1
theorem bk2_14 {x0 : Int32}  (k_1 : aw ext d 2 15 [some (.int x0)] [.int (0 : Int32)] S Q) : aw ext d 2 14 [some (.int x0)] [] S Q := by
  refine aw_con j2_14 ?_
  exact k_1
theorem bk2_15 {x0 : Int32} {xk0 : Int32} (o_2 : xk0 = 0 ∨ xk0 = 1) (k_1 : Q (some (.int xk0)) S) : aw ext d 2 15 [some (.int x0)] [.int xk0] S Q := by
  exact aw_ret j2_15 (by rw [rt2]; exact (decide_eq_true o_2)) k_1
/-! SM_size -/
theorem bk3_0 {a0 : Nat} {x1 : Int32} {x2 : Int32} {o3 : Option Value} {o4 : Option Value} {P_1 : Option Nat → av_St → Prop} (t_4 : S.1 a0 = some (.inl 0)) (m_5 : ctr ext d 4 [.ref a0, .int x1] S P_1) (k_6 : ∀ v_3 S_2, P_1 v_3 S_2 → aw ext (d + 1) 3 5 [some (.ref a0), some (.int x1), some (.int x2), o3, o4] [va_rf v_3] S_2 Q) : aw ext (d + 1) 3 0 [some (.ref a0), some (.int x1), some (.int x2), o3, o4] [] S Q := by
  refine aw_ald j3_0 rfl rfl ?_
  refine aw_ild j3_1 rfl ?_
  exact aw_callr (as := [.ref a0, .int x1]) j3_2 rfl rfl (Nat.le_of_ble_eq_true rfl) cy4.1 cy4.2 (cs_cons rfl (cs_cons rfl cs_nil)) (decide_eq_true t_4) m_5 k_6
theorem bk3_5 {r0 : Option Nat} {x1 : Int32} {x2 : Int32} {o3 : Option Value} {o4 : Option Value} {rk0 : Option Nat}  (k_2 : rk0 = none → aw ext d 3 10 [some (va_rf r0), some (.int x1), some (.int x2), some (va_rf rk0), o4] [] S Q) (k_3 : ∀ c_1, rk0 = some c_1 → aw ext d 3 12 [some (va_rf r0), some (.int x1), some (.int x2), some (va_rf rk0), o4] [] S Q) : aw ext d 3 5 [some (va_rf r0), some (.int x1), some (.int x2), o3, o4] [va_rf rk0] S Q := by
  refine aw_ast j3_5 (av_isR_rf rk0) (Nat.le_of_ble_eq_true rfl) ?_
  refine aw_ald j3_6 rfl (av_isR_rf rk0) ?_
  exact aw_nonn (r := rk0) j3_7 k_2 k_3
theorem bk3_10 {r0 : Option Nat} {x1 : Int32} {x2 : Int32} {r3 : Option Nat} {o4 : Option Value}  (k_1 : Q (some (.int (-1 : Int32))) S) : aw ext d 3 10 [some (va_rf r0), some (.int x1), some (.int x2), some (va_rf r3), o4] [] S Q := by
  refine aw_con j3_10 ?_
  exact aw_ret j3_11 (by rw [rt3]; exact rfl) k_1
theorem bk3_12 {r0 : Option Nat} {x1 : Int32} {x2 : Int32} {r3 : Option Nat} {o4 : Option Value} {P_1 : Int32 → av_St → Prop} (m_4 : cti ext d 2 [.int x2] S P_1) (k_5 : ∀ v_3 S_2, P_1 v_3 S_2 → aw ext (d + 1) 3 16 [some (va_rf r0), some (.int x1), some (.int x2), some (va_rf r3), o4] [.int v_3] S_2 Q) : aw ext (d + 1) 3 12 [some (va_rf r0), some (.int x1), some (.int x2), some (va_rf r3), o4] [] S Q := by
  refine aw_ild j3_12 rfl ?_
  exact aw_calli (as := [.int x2]) j3_13 rfl rfl (Nat.le_of_ble_eq_true rfl) cy2.1 cy2.2 (cs_cons rfl cs_nil) rfl m_4 k_5
theorem bk3_16 {r0 : Option Nat} {x1 : Int32} {x2 : Int32} {r3 : Option Nat} {o4 : Option Value} {xk0 : Int32}  (k_1 : (¬ xk0 = 0) → aw ext d 3 22 [some (va_rf r0), some (.int x1), some (.int x2), some (va_rf r3), o4] [] S Q) (k_2 : (xk0 = 0) → aw ext d 3 19 [some (va_rf r0), some (.int x1), some (.int x2), some (va_rf r3), o4] [] S Q) : aw ext d 3 16 [some (va_rf r0), some (.int x1), some (.int x2), some (va_rf r3), o4] [.int xk0] S Q := by
  exact aw_if j3_16 (fun h => k_1 (of_decide_eq_true h)) (fun h => k_2 (Decidable.of_not_not (of_decide_eq_false h)))
theorem bk3_19 {r0 : Option Nat} {x1 : Int32} {x2 : Int32} {r3 : Option Nat} {o4 : Option Value}  (k_1 : Q (some (.int (-2 : Int32))) S) : aw ext d 3 19 [some (va_rf r0), some (.int x1), some (.int x2), some (va_rf r3), o4] [] S Q := by
  refine aw_con j3_19 ?_
  exact aw_ret j3_21 (by rw [rt3]; exact rfl) k_1
theorem bk3_22 {r0 : Option Nat} {x1 : Int32} {x2 : Int32} {a3 : Nat} {o4 : Option Value} {y2 : Int32} (t_1 : S.1 a3 = some (.inl 6)) (f_3 : S.2.1 a3 1 = .int y2) (k_4 : Q (some (.int y2)) (av_set S a3 1 (.int x2))) : aw ext d 3 22 [some (va_rf r0), some (.int x1), some (.int x2), some (.ref a3), o4] [] S Q := by
  refine aw_ald j3_22 rfl rfl ?_
  refine aw_get j3_23 t_1 f_3 ?_
  refine aw_ist j3_26 (Nat.le_of_ble_eq_true rfl) ?_
  refine aw_ald j3_28 rfl rfl ?_
  refine aw_ild j3_29 rfl ?_
  refine aw_put j3_30 t_1 rfl ?_
  refine aw_ild j3_33 rfl ?_
  exact aw_ret j3_35 (by rw [rt3]; exact rfl) k_4
/-! SM_findFile -/
theorem bk4_0 {r0 : Option Nat} {x1 : Int32}  (k_1 : (x1 < 0) → aw ext d 4 12 [some (va_rf r0), some (.int x1)] [] S Q) (k_2 : (¬ (x1 < 0)) → aw ext d 4 4 [some (va_rf r0), some (.int x1)] [] S Q) : aw ext d 4 0 [some (va_rf r0), some (.int x1)] [] S Q := by
  refine aw_ild j4_0 rfl ?_
  exact aw_if j4_1 (fun h => k_1 (of_decide_eq_true h)) (fun h => k_2 (of_decide_eq_false h))
theorem bk4_4 {a0 : Nat} {x1 : Int32} {y2 : Int32} (t_1 : S.1 a0 = some (.inl 0)) (f_3 : S.2.1 a0 1 = .int y2) (k_4 : (x1 < y2) → aw ext d 4 16 [some (.ref a0), some (.int x1)] [] S Q) (k_5 : (¬ (x1 < y2)) → aw ext d 4 12 [some (.ref a0), some (.int x1)] [] S Q) : aw ext d 4 4 [some (.ref a0), some (.int x1)] [] S Q := by
  refine aw_ild j4_4 rfl ?_
  refine aw_ald j4_5 rfl rfl ?_
  refine aw_get j4_6 t_1 f_3 ?_
  exact aw_ic j4_9 (fun h => k_4 (of_decide_eq_true h)) (fun h => k_5 (of_decide_eq_false h))
theorem bk4_12 {r0 : Option Nat} {x1 : Int32}  (k_1 : aw ext d 4 22 [some (va_rf r0), some (.int x1)] [.null] S Q) : aw ext d 4 12 [some (va_rf r0), some (.int x1)] [] S Q := by
  refine aw_nul j4_12 ?_
  exact aw_goto j4_13 k_1
theorem bk4_16 {a0 : Nat} {x1 : Int32} {b2 : Nat} {n_4 : Nat} {i_7 : Nat} {q10 : Option Nat} (t_1 : S.1 a0 = some (.inl 0)) (f_3 : S.2.1 a0 0 = .ref b2) (t_5 : S.1 b2 = some (.inr (5, n_4))) (b_6 : n_4 < 2147483648) (e_8 : x1 = nI i_7) (c_9 : i_7 < n_4) (f_11 : S.2.1 b2 i_7 = va_rf q10) (k_12 : aw ext d 4 22 [some (.ref a0), some (.int x1)] [va_rf q10] S Q) : aw ext d 4 16 [some (.ref a0), some (.int x1)] [] S Q := by
  refine aw_ald j4_16 rfl rfl ?_
  refine aw_get j4_17 t_1 f_3 ?_
  refine aw_ild j4_20 rfl ?_
  refine aw_xld j4_21 t_5 e_8 c_9 b_6 f_11 ?_
  exact k_12
theorem bk4_22 {r0 : Option Nat} {x1 : Int32} {rk0 : Option Nat}  (k_1 : Q (some (va_rf rk0)) S) : aw ext d 4 22 [some (va_rf r0), some (.int x1)] [va_rf rk0] S Q := by
  exact aw_ret j4_22 (by rw [rt4]; exact (av_fo_rf _ rk0)) k_1
/-! SM_map -/
theorem bk5_0 {r0 : Option Nat} {x1 : Int32} {o2 : Option Value}  (k_1 : (x1 = 0) → aw ext d 5 12 [some (va_rf r0), some (.int x1), o2] [] S Q) (k_2 : (¬ (x1 = 0)) → aw ext d 5 4 [some (va_rf r0), some (.int x1), o2] [] S Q) : aw ext d 5 0 [some (va_rf r0), some (.int x1), o2] [] S Q := by
  refine aw_ild j5_0 rfl ?_
  exact aw_if j5_1 (fun h => k_1 (of_decide_eq_true h)) (fun h => k_2 (of_decide_eq_false h))
theorem bk5_4 {r0 : Option Nat} {x1 : Int32} {o2 : Option Value}  (k_1 : (x1 = (1 : Int32)) → aw ext d 5 12 [some (va_rf r0), some (.int x1), o2] [] S Q) (k_2 : (¬ (x1 = (1 : Int32))) → aw ext d 5 9 [some (va_rf r0), some (.int x1), o2] [] S Q) : aw ext d 5 4 [some (va_rf r0), some (.int x1), o2] [] S Q := by
  refine aw_ild j5_4 rfl ?_
  refine aw_con j5_5 ?_
  exact aw_ic j5_6 (fun h => k_1 (of_decide_eq_true h)) (fun h => k_2 (of_decide_eq_false h))
theorem bk5_9 {r0 : Option Nat} {x1 : Int32} {o2 : Option Value}  (k_1 : Q (some (.int (-2 : Int32))) S) : aw ext d 5 9 [some (va_rf r0), some (.int x1), o2] [] S Q := by
  refine aw_con j5_9 ?_
  exact aw_ret j5_11 (by rw [rt5]; exact rfl) k_1
theorem bk5_12 {a0 : Nat} {x1 : Int32} {o2 : Option Value} {y2 : Int32} (t_1 : S.1 a0 = some (.inl 0)) (f_3 : S.2.1 a0 3 = .int y2) (k_4 : (y2 < (5 : Int32)) → aw ext d 5 23 [some (.ref a0), some (.int x1), o2] [] S Q) (k_5 : (¬ (y2 < (5 : Int32))) → aw ext d 5 20 [some (.ref a0), some (.int x1), o2] [] S Q) : aw ext d 5 12 [some (.ref a0), some (.int x1), o2] [] S Q := by
  refine aw_ald j5_12 rfl rfl ?_
  refine aw_get j5_13 t_1 f_3 ?_
  refine aw_con j5_16 ?_
  exact aw_ic j5_17 (fun h => k_4 (of_decide_eq_true h)) (fun h => k_5 (of_decide_eq_false h))
theorem bk5_20 {r0 : Option Nat} {x1 : Int32} {o2 : Option Value}  (k_1 : Q (some (.int (-4 : Int32))) S) : aw ext d 5 20 [some (va_rf r0), some (.int x1), o2] [] S Q := by
  refine aw_con j5_20 ?_
  exact aw_ret j5_22 (by rw [rt5]; exact rfl) k_1
theorem bk5_23 {a0 : Nat} {x1 : Int32} {o2 : Option Value} {y2 : Int32} {q4 : Option Nat} (t_1 : S.1 a0 = some (.inl 0)) (f_3 : S.2.1 a0 3 = .int y2) (f_5 : S.2.1 a0 2 = va_rf q4) (k_6 : aw ext d 5 36 [some (.ref a0), some (.int x1), some (.int y2)] [.ref S.2.2.1, .int y2, va_rf q4] (av_new S (.inl 7) (fun f => defaultValue (sm_fT 7 f)) (sm_fN 7)) Q) : aw ext d 5 23 [some (.ref a0), some (.int x1), o2] [] S Q := by
  refine aw_ald j5_23 rfl rfl ?_
  refine aw_get j5_24 t_1 f_3 ?_
  refine aw_ist j5_27 (Nat.le_of_ble_eq_true rfl) ?_
  refine aw_ald j5_28 rfl rfl ?_
  refine aw_get j5_29 t_1 f_5 ?_
  refine aw_ild j5_32 rfl ?_
  refine aw_new j5_33 ?_
  exact k_6
theorem bk5_36 {r0 : Option Nat} {x1 : Int32} {x2 : Int32} {rk0 : Option Nat} {xk1 : Int32} {ak2 : Nat} {P_1 : av_St → Prop} (m_4 : ctv ext d 49 [.ref ak2, .int x2, .int x1] S P_1) (k_5 : ∀ S_2, P_1 S_2 → aw ext (d + 1) 5 42 [some (va_rf r0), some (.int x1), some (.int x2)] [.ref ak2, .int xk1, va_rf rk0] S_2 Q) : aw ext (d + 1) 5 36 [some (va_rf r0), some (.int x1), some (.int x2)] [.ref ak2, .int xk1, va_rf rk0] S Q := by
  refine aw_dup j5_36 rfl ?_
  refine aw_ild j5_37 rfl ?_
  refine aw_ild j5_38 rfl ?_
  exact aw_callv (as := [.ref ak2, .int x2, .int x1]) j5_39 rfl rfl (Nat.le_of_ble_eq_true rfl) cy49.1 cy49.2 (cs_cons rfl (cs_cons rfl (cs_cons rfl cs_nil))) rfl m_4 k_5
theorem bk5_42 {a0 : Nat} {x1 : Int32} {x2 : Int32} {ak0 : Nat} {xk1 : Int32} {rk2 : Option Nat} {n_1 : Nat} {i_4 : Nat} {y10 : Int32} (t_2 : S.1 ak0 = some (.inr (6, n_1))) (b_3 : n_1 < 2147483648) (e_5 : xk1 = nI i_4) (c_6 : i_4 < n_1) (t_8 : ∀ w_7, rk2 = some w_7 → S.1 w_7 = some (.inl 7)) (t_9 : (av_set S ak0 i_4 (va_rf rk2)).1 a0 = some (.inl 0)) (f_11 : (av_set S ak0 i_4 (va_rf rk2)).2.1 a0 3 = .int y10) (k_12 : Q (some (.int x2)) (av_set (av_set S ak0 i_4 (va_rf rk2)) a0 3 (.int (y10 + (1 : Int32))))) : aw ext d 5 42 [some (.ref a0), some (.int x1), some (.int x2)] [va_rf rk2, .int xk1, .ref ak0] S Q := by
  refine aw_ast2 (r := rk2) j5_42 t_2 e_5 c_6 b_3 t_8 ?_
  refine aw_ald j5_43 rfl rfl ?_
  refine aw_dup j5_44 rfl ?_
  refine aw_get j5_45 t_9 f_11 ?_
  refine aw_con j5_48 ?_
  refine aw_bin (z := (y10 + (1 : Int32))) j5_49 rfl ?_
  refine aw_put j5_50 t_9 rfl ?_
  refine aw_ild j5_53 rfl ?_
  exact aw_ret j5_54 (by rw [rt5]; exact rfl) k_12
/-! SM_division -/
theorem bk6_0 {a0 : Nat} {x1 : Int32} {x2 : Int32} {x3 : Int32} {x4 : Int32} {o5 : Option Value} {o6 : Option Value} {o7 : Option Value} {o8 : Option Value} {P_1 : Option Nat → av_St → Prop} (t_4 : S.1 a0 = some (.inl 0)) (m_5 : ctr ext d 7 [.ref a0, .int x1] S P_1) (k_6 : ∀ v_3 S_2, P_1 v_3 S_2 → aw ext (d + 1) 6 5 [some (.ref a0), some (.int x1), some (.int x2), some (.int x3), some (.int x4), o5, o6, o7, o8] [va_rf v_3] S_2 Q) : aw ext (d + 1) 6 0 [some (.ref a0), some (.int x1), some (.int x2), some (.int x3), some (.int x4), o5, o6, o7, o8] [] S Q := by
  refine aw_ald j6_0 rfl rfl ?_
  refine aw_ild j6_1 rfl ?_
  exact aw_callr (as := [.ref a0, .int x1]) j6_2 rfl rfl (Nat.le_of_ble_eq_true rfl) cy7.1 cy7.2 (cs_cons rfl (cs_cons rfl cs_nil)) (decide_eq_true t_4) m_5 k_6
theorem bk6_5 {r0 : Option Nat} {x1 : Int32} {x2 : Int32} {x3 : Int32} {x4 : Int32} {o5 : Option Value} {o6 : Option Value} {o7 : Option Value} {o8 : Option Value} {rk0 : Option Nat}  (k_2 : rk0 = none → aw ext d 6 12 [some (va_rf r0), some (.int x1), some (.int x2), some (.int x3), some (.int x4), some (va_rf rk0), o6, o7, o8] [] S Q) (k_3 : ∀ c_1, rk0 = some c_1 → aw ext d 6 14 [some (va_rf r0), some (.int x1), some (.int x2), some (.int x3), some (.int x4), some (va_rf rk0), o6, o7, o8] [] S Q) : aw ext d 6 5 [some (va_rf r0), some (.int x1), some (.int x2), some (.int x3), some (.int x4), o5, o6, o7, o8] [va_rf rk0] S Q := by
  refine aw_ast j6_5 (av_isR_rf rk0) (Nat.le_of_ble_eq_true rfl) ?_
  refine aw_ald j6_7 rfl (av_isR_rf rk0) ?_
  exact aw_nonn (r := rk0) j6_9 k_2 k_3
theorem bk6_12 {r0 : Option Nat} {x1 : Int32} {x2 : Int32} {x3 : Int32} {x4 : Int32} {r5 : Option Nat} {o6 : Option Value} {o7 : Option Value} {o8 : Option Value}  (k_1 : Q (some (.int (-1 : Int32))) S) : aw ext d 6 12 [some (va_rf r0), some (.int x1), some (.int x2), some (.int x3), some (.int x4), some (va_rf r5), o6, o7, o8] [] S Q := by
  refine aw_con j6_12 ?_
  exact aw_ret j6_13 (by rw [rt6]; exact rfl) k_1
theorem bk6_14 {a0 : Nat} {x1 : Int32} {x2 : Int32} {x3 : Int32} {x4 : Int32} {r5 : Option Nat} {o6 : Option Value} {o7 : Option Value} {o8 : Option Value} {P_1 : Option Nat → av_St → Prop} (t_4 : S.1 a0 = some (.inl 0)) (m_5 : ctr ext d 8 [.ref a0, va_rf r5, .int x2] S P_1) (k_6 : ∀ v_3 S_2, P_1 v_3 S_2 → aw ext (d + 1) 6 21 [some (.ref a0), some (.int x1), some (.int x2), some (.int x3), some (.int x4), some (va_rf r5), o6, o7, o8] [va_rf v_3] S_2 Q) : aw ext (d + 1) 6 14 [some (.ref a0), some (.int x1), some (.int x2), some (.int x3), some (.int x4), some (va_rf r5), o6, o7, o8] [] S Q := by
  refine aw_ald j6_14 rfl rfl ?_
  refine aw_ald j6_15 rfl (av_isR_rf r5) ?_
  refine aw_ild j6_17 rfl ?_
  exact aw_callr (as := [.ref a0, va_rf r5, .int x2]) j6_18 rfl rfl (Nat.le_of_ble_eq_true rfl) cy8.1 cy8.2 (cs_cons rfl (cs_cons (av_cat_rf r5) (cs_cons rfl cs_nil))) (decide_eq_true t_4) m_5 k_6
theorem bk6_21 {r0 : Option Nat} {x1 : Int32} {x2 : Int32} {x3 : Int32} {x4 : Int32} {r5 : Option Nat} {o6 : Option Value} {o7 : Option Value} {o8 : Option Value} {rk0 : Option Nat}  (k_2 : rk0 = none → aw ext d 6 28 [some (va_rf r0), some (.int x1), some (.int x2), some (.int x3), some (.int x4), some (va_rf r5), some (va_rf rk0), o7, o8] [] S Q) (k_3 : ∀ c_1, rk0 = some c_1 → aw ext d 6 30 [some (va_rf r0), some (.int x1), some (.int x2), some (.int x3), some (.int x4), some (va_rf r5), some (va_rf rk0), o7, o8] [] S Q) : aw ext d 6 21 [some (va_rf r0), some (.int x1), some (.int x2), some (.int x3), some (.int x4), some (va_rf r5), o6, o7, o8] [va_rf rk0] S Q := by
  refine aw_ast j6_21 (av_isR_rf rk0) (Nat.le_of_ble_eq_true rfl) ?_
  refine aw_ald j6_23 rfl (av_isR_rf rk0) ?_
  exact aw_nonn (r := rk0) j6_25 k_2 k_3
theorem bk6_28 {r0 : Option Nat} {x1 : Int32} {x2 : Int32} {x3 : Int32} {x4 : Int32} {r5 : Option Nat} {r6 : Option Nat} {o7 : Option Value} {o8 : Option Value}  (k_1 : Q (some (.int (-1 : Int32))) S) : aw ext d 6 28 [some (va_rf r0), some (.int x1), some (.int x2), some (.int x3), some (.int x4), some (va_rf r5), some (va_rf r6), o7, o8] [] S Q := by
  refine aw_con j6_28 ?_
  exact aw_ret j6_29 (by rw [rt6]; exact rfl) k_1
theorem bk6_30 {r0 : Option Nat} {x1 : Int32} {x2 : Int32} {x3 : Int32} {x4 : Int32} {r5 : Option Nat} {r6 : Option Nat} {o7 : Option Value} {o8 : Option Value}  (k_1 : (x3 < 0) → aw ext d 6 54 [some (va_rf r0), some (.int x1), some (.int x2), some (.int x3), some (.int x4), some (va_rf r5), some (va_rf r6), o7, o8] [] S Q) (k_2 : (¬ (x3 < 0)) → aw ext d 6 34 [some (va_rf r0), some (.int x1), some (.int x2), some (.int x3), some (.int x4), some (va_rf r5), some (va_rf r6), o7, o8] [] S Q) : aw ext d 6 30 [some (va_rf r0), some (.int x1), some (.int x2), some (.int x3), some (.int x4), some (va_rf r5), some (va_rf r6), o7, o8] [] S Q := by
  refine aw_ild j6_30 rfl ?_
  exact aw_if j6_31 (fun h => k_1 (of_decide_eq_true h)) (fun h => k_2 (of_decide_eq_false h))
theorem bk6_34 {r0 : Option Nat} {x1 : Int32} {x2 : Int32} {x3 : Int32} {x4 : Int32} {r5 : Option Nat} {r6 : Option Nat} {o7 : Option Value} {o8 : Option Value}  (k_1 : ((999 : Int32) < x3) → aw ext d 6 54 [some (va_rf r0), some (.int x1), some (.int x2), some (.int x3), some (.int x4), some (va_rf r5), some (va_rf r6), o7, o8] [] S Q) (k_2 : (¬ ((999 : Int32) < x3)) → aw ext d 6 41 [some (va_rf r0), some (.int x1), some (.int x2), some (.int x3), some (.int x4), some (va_rf r5), some (va_rf r6), o7, o8] [] S Q) : aw ext d 6 34 [some (va_rf r0), some (.int x1), some (.int x2), some (.int x3), some (.int x4), some (va_rf r5), some (va_rf r6), o7, o8] [] S Q := by
  refine aw_ild j6_34 rfl ?_
  refine aw_con j6_35 ?_
  exact aw_ic j6_38 (fun h => k_1 (of_decide_eq_true h)) (fun h => k_2 (of_decide_eq_false h))
theorem bk6_41 {r0 : Option Nat} {x1 : Int32} {x2 : Int32} {x3 : Int32} {x4 : Int32} {r5 : Option Nat} {r6 : Option Nat} {o7 : Option Value} {o8 : Option Value}  (k_1 : (x4 < 0) → aw ext d 6 54 [some (va_rf r0), some (.int x1), some (.int x2), some (.int x3), some (.int x4), some (va_rf r5), some (va_rf r6), o7, o8] [] S Q) (k_2 : (¬ (x4 < 0)) → aw ext d 6 46 [some (va_rf r0), some (.int x1), some (.int x2), some (.int x3), some (.int x4), some (va_rf r5), some (va_rf r6), o7, o8] [] S Q) : aw ext d 6 41 [some (va_rf r0), some (.int x1), some (.int x2), some (.int x3), some (.int x4), some (va_rf r5), some (va_rf r6), o7, o8] [] S Q := by
  refine aw_ild j6_41 rfl ?_
  exact aw_if j6_43 (fun h => k_1 (of_decide_eq_true h)) (fun h => k_2 (of_decide_eq_false h))
theorem bk6_46 {r0 : Option Nat} {x1 : Int32} {x2 : Int32} {x3 : Int32} {x4 : Int32} {r5 : Option Nat} {r6 : Option Nat} {o7 : Option Value} {o8 : Option Value}  (k_1 : (x4 ≤ (9999 : Int32)) → aw ext d 6 57 [some (va_rf r0), some (.int x1), some (.int x2), some (.int x3), some (.int x4), some (va_rf r5), some (va_rf r6), o7, o8] [] S Q) (k_2 : (¬ (x4 ≤ (9999 : Int32))) → aw ext d 6 54 [some (va_rf r0), some (.int x1), some (.int x2), some (.int x3), some (.int x4), some (va_rf r5), some (va_rf r6), o7, o8] [] S Q) : aw ext d 6 46 [some (va_rf r0), some (.int x1), some (.int x2), some (.int x3), some (.int x4), some (va_rf r5), some (va_rf r6), o7, o8] [] S Q := by
  refine aw_ild j6_46 rfl ?_
  refine aw_con j6_48 ?_
  exact aw_ic j6_51 (fun h => k_1 (of_decide_eq_true h)) (fun h => k_2 (of_decide_eq_false h))
theorem bk6_54 {r0 : Option Nat} {x1 : Int32} {x2 : Int32} {x3 : Int32} {x4 : Int32} {r5 : Option Nat} {r6 : Option Nat} {o7 : Option Value} {o8 : Option Value}  (k_1 : Q (some (.int (-2 : Int32))) S) : aw ext d 6 54 [some (va_rf r0), some (.int x1), some (.int x2), some (.int x3), some (.int x4), some (va_rf r5), some (va_rf r6), o7, o8] [] S Q := by
  refine aw_con j6_54 ?_
  exact aw_ret j6_56 (by rw [rt6]; exact rfl) k_1
theorem bk6_57 {r0 : Option Nat} {x1 : Int32} {x2 : Int32} {x3 : Int32} {x4 : Int32} {r5 : Option Nat} {a6 : Nat} {o7 : Option Value} {o8 : Option Value} {y2 : Int32} (t_1 : S.1 a6 = some (.inl 8)) (f_3 : S.2.1 a6 1 = .int y2) (k_4 : (¬ y2 = x1) → aw ext d 6 74 [some (va_rf r0), some (.int x1), some (.int x2), some (.int x3), some (.int x4), some (va_rf r5), some (.ref a6), o7, o8] [] S Q) (k_5 : (y2 = x1) → aw ext d 6 66 [some (va_rf r0), some (.int x1), some (.int x2), some (.int x3), some (.int x4), some (va_rf r5), some (.ref a6), o7, o8] [] S Q) : aw ext d 6 57 [some (va_rf r0), some (.int x1), some (.int x2), some (.int x3), some (.int x4), some (va_rf r5), some (.ref a6), o7, o8] [] S Q := by
  refine aw_ald j6_57 rfl rfl ?_
  refine aw_get j6_59 t_1 f_3 ?_
  refine aw_ild j6_62 rfl ?_
  exact aw_ic j6_63 (fun h => k_4 (of_decide_eq_true h)) (fun h => k_5 (Decidable.of_not_not (of_decide_eq_false h)))
theorem bk6_66 {r0 : Option Nat} {x1 : Int32} {x2 : Int32} {x3 : Int32} {x4 : Int32} {r5 : Option Nat} {a6 : Nat} {o7 : Option Value} {o8 : Option Value} {q2 : Option Nat} (t_1 : S.1 a6 = some (.inl 8)) (f_3 : S.2.1 a6 9 = va_rf q2) (k_5 : q2 = none → aw ext d 6 77 [some (va_rf r0), some (.int x1), some (.int x2), some (.int x3), some (.int x4), some (va_rf r5), some (.ref a6), o7, o8] [] S Q) (k_6 : ∀ c_4, q2 = some c_4 → aw ext d 6 74 [some (va_rf r0), some (.int x1), some (.int x2), some (.int x3), some (.int x4), some (va_rf r5), some (.ref a6), o7, o8] [] S Q) : aw ext d 6 66 [some (va_rf r0), some (.int x1), some (.int x2), some (.int x3), some (.int x4), some (va_rf r5), some (.ref a6), o7, o8] [] S Q := by
  refine aw_ald j6_66 rfl rfl ?_
  refine aw_get j6_68 t_1 f_3 ?_
  exact aw_null (r := q2) j6_71 k_5 k_6
theorem bk6_74 {r0 : Option Nat} {x1 : Int32} {x2 : Int32} {x3 : Int32} {x4 : Int32} {r5 : Option Nat} {r6 : Option Nat} {o7 : Option Value} {o8 : Option Value}  (k_1 : Q (some (.int (-3 : Int32))) S) : aw ext d 6 74 [some (va_rf r0), some (.int x1), some (.int x2), some (.int x3), some (.int x4), some (va_rf r5), some (va_rf r6), o7, o8] [] S Q := by
  refine aw_con j6_74 ?_
  exact aw_ret j6_76 (by rw [rt6]; exact rfl) k_1
theorem bk6_77 {a0 : Nat} {x1 : Int32} {x2 : Int32} {x3 : Int32} {x4 : Int32} {r5 : Option Nat} {r6 : Option Nat} {o7 : Option Value} {o8 : Option Value} {y2 : Int32} (t_1 : S.1 a0 = some (.inl 0)) (f_3 : S.2.1 a0 5 = .int y2) (k_4 : (y2 < (120 : Int32)) → aw ext d 6 89 [some (.ref a0), some (.int x1), some (.int x2), some (.int x3), some (.int x4), some (va_rf r5), some (va_rf r6), o7, o8] [] S Q) (k_5 : (¬ (y2 < (120 : Int32))) → aw ext d 6 86 [some (.ref a0), some (.int x1), some (.int x2), some (.int x3), some (.int x4), some (va_rf r5), some (va_rf r6), o7, o8] [] S Q) : aw ext d 6 77 [some (.ref a0), some (.int x1), some (.int x2), some (.int x3), some (.int x4), some (va_rf r5), some (va_rf r6), o7, o8] [] S Q := by
  refine aw_ald j6_77 rfl rfl ?_
  refine aw_get j6_78 t_1 f_3 ?_
  refine aw_con j6_81 ?_
  exact aw_ic j6_83 (fun h => k_4 (of_decide_eq_true h)) (fun h => k_5 (of_decide_eq_false h))
theorem bk6_86 {r0 : Option Nat} {x1 : Int32} {x2 : Int32} {x3 : Int32} {x4 : Int32} {r5 : Option Nat} {r6 : Option Nat} {o7 : Option Value} {o8 : Option Value}  (k_1 : Q (some (.int (-4 : Int32))) S) : aw ext d 6 86 [some (va_rf r0), some (.int x1), some (.int x2), some (.int x3), some (.int x4), some (va_rf r5), some (va_rf r6), o7, o8] [] S Q := by
  refine aw_con j6_86 ?_
  exact aw_ret j6_88 (by rw [rt6]; exact rfl) k_1
theorem bk6_89 {a0 : Nat} {x1 : Int32} {x2 : Int32} {x3 : Int32} {x4 : Int32} {r5 : Option Nat} {r6 : Option Nat} {o7 : Option Value} {o8 : Option Value} {y2 : Int32} (t_1 : S.1 a0 = some (.inl 0)) (f_3 : S.2.1 a0 5 = .int y2) (k_4 : aw ext d 6 98 [some (.ref a0), some (.int x1), some (.int x2), some (.int x3), some (.int x4), some (va_rf r5), some (va_rf r6), some (.int y2), o8] [.ref S.2.2.1] (av_new S (.inl 8) (fun f => defaultValue (sm_fT 8 f)) (sm_fN 8)) Q) : aw ext d 6 89 [some (.ref a0), some (.int x1), some (.int x2), some (.int x3), some (.int x4), some (va_rf r5), some (va_rf r6), o7, o8] [] S Q := by
  refine aw_ald j6_89 rfl rfl ?_
  refine aw_get j6_90 t_1 f_3 ?_
  refine aw_ist j6_93 (Nat.le_of_ble_eq_true rfl) ?_
  refine aw_new j6_95 ?_
  exact k_4
theorem bk6_98 {r0 : Option Nat} {x1 : Int32} {x2 : Int32} {x3 : Int32} {x4 : Int32} {r5 : Option Nat} {r6 : Option Nat} {x7 : Int32} {o8 : Option Value} {ak0 : Nat} {P_1 : av_St → Prop} (m_4 : ctv ext d 50 [.ref ak0, .int x7, .int x1, .int x3, .int x4] S P_1) (k_5 : ∀ S_2, P_1 S_2 → aw ext (d + 1) 6 108 [some (va_rf r0), some (.int x1), some (.int x2), some (.int x3), some (.int x4), some (va_rf r5), some (va_rf r6), some (.int x7), o8] [.ref ak0] S_2 Q) : aw ext (d + 1) 6 98 [some (va_rf r0), some (.int x1), some (.int x2), some (.int x3), some (.int x4), some (va_rf r5), some (va_rf r6), some (.int x7), o8] [.ref ak0] S Q := by
  refine aw_dup j6_98 rfl ?_
  refine aw_ild j6_99 rfl ?_
  refine aw_ild j6_101 rfl ?_
  refine aw_ild j6_102 rfl ?_
  refine aw_ild j6_103 rfl ?_
  exact aw_callv (as := [.ref ak0, .int x7, .int x1, .int x3, .int x4]) j6_105 rfl rfl (Nat.le_of_ble_eq_true rfl) cy50.1 cy50.2 (cs_cons rfl (cs_cons rfl (cs_cons rfl (cs_cons rfl (cs_cons rfl cs_nil))))) rfl m_4 k_5
theorem bk6_108 {a0 : Nat} {x1 : Int32} {x2 : Int32} {x3 : Int32} {x4 : Int32} {r5 : Option Nat} {a6 : Nat} {x7 : Int32} {o8 : Option Value} {rk0 : Option Nat} {b2 : Nat} {n_4 : Nat} {i_7 : Nat} {y12 : Int32} {P_14 : av_St → Prop} (t_1 : S.1 a0 = some (.inl 0)) (f_3 : S.2.1 a0 4 = .ref b2) (t_5 : S.1 b2 = some (.inr (7, n_4))) (b_6 : n_4 < 2147483648) (e_8 : x7 = nI i_7) (c_9 : i_7 < n_4) (t_11 : ∀ w_10, rk0 = some w_10 → S.1 w_10 = some (.inl 8)) (f_13 : (av_set S b2 i_7 (va_rf rk0)).2.1 a0 5 = .int y12) (t_17 : (av_set (av_set S b2 i_7 (va_rf rk0)) a0 5 (.int (y12 + (1 : Int32)))).1 a6 = some (.inl 8)) (m_18 : ctv ext d 51 [.ref a6, va_rf rk0] (av_set (av_set S b2 i_7 (va_rf rk0)) a0 5 (.int (y12 + (1 : Int32)))) P_14) (k_19 : ∀ S_15, P_14 S_15 → aw ext (d + 1) 6 136 [some (.ref a0), some (.int x1), some (.int x2), some (.int x3), some (.int x4), some (va_rf r5), some (.ref a6), some (.int x7), some (va_rf rk0)] [] S_15 Q) : aw ext (d + 1) 6 108 [some (.ref a0), some (.int x1), some (.int x2), some (.int x3), some (.int x4), some (va_rf r5), some (.ref a6), some (.int x7), o8] [va_rf rk0] S Q := by
  refine aw_ast j6_108 (av_isR_rf rk0) (Nat.le_of_ble_eq_true rfl) ?_
  refine aw_ald j6_110 rfl rfl ?_
  refine aw_get j6_111 t_1 f_3 ?_
  refine aw_ild j6_114 rfl ?_
  refine aw_ald j6_116 rfl (av_isR_rf rk0) ?_
  refine aw_ast2 (r := rk0) j6_118 t_5 e_8 c_9 b_6 t_11 ?_
  refine aw_ald j6_119 rfl rfl ?_
  refine aw_dup j6_120 rfl ?_
  refine aw_get j6_121 t_1 f_13 ?_
  refine aw_con j6_124 ?_
  refine aw_bin (z := (y12 + (1 : Int32))) j6_125 rfl ?_
  refine aw_put j6_126 t_1 rfl ?_
  refine aw_ald j6_129 rfl rfl ?_
  refine aw_ald j6_131 rfl (av_isR_rf rk0) ?_
  exact aw_callv (as := [.ref a6, va_rf rk0]) j6_133 rfl rfl (Nat.le_of_ble_eq_true rfl) cy51.1 cy51.2 (cs_cons rfl (cs_cons (av_cat_rf rk0) cs_nil)) (decide_eq_true t_17) m_18 k_19
theorem bk6_136 {r0 : Option Nat} {x1 : Int32} {x2 : Int32} {x3 : Int32} {x4 : Int32} {r5 : Option Nat} {r6 : Option Nat} {x7 : Int32} {r8 : Option Nat}  (k_1 : Q (some (.int x7)) S) : aw ext d 6 136 [some (va_rf r0), some (.int x1), some (.int x2), some (.int x3), some (.int x4), some (va_rf r5), some (va_rf r6), some (.int x7), some (va_rf r8)] [] S Q := by
  refine aw_ild j6_136 rfl ?_
  exact aw_ret j6_138 (by rw [rt6]; exact rfl) k_1
/-! SM_findTree -/
theorem bk7_0 {r0 : Option Nat} {x1 : Int32}  (k_1 : (x1 < 0) → aw ext d 7 12 [some (va_rf r0), some (.int x1)] [] S Q) (k_2 : (¬ (x1 < 0)) → aw ext d 7 4 [some (va_rf r0), some (.int x1)] [] S Q) : aw ext d 7 0 [some (va_rf r0), some (.int x1)] [] S Q := by
  refine aw_ild j7_0 rfl ?_
  exact aw_if j7_1 (fun h => k_1 (of_decide_eq_true h)) (fun h => k_2 (of_decide_eq_false h))
theorem bk7_4 {a0 : Nat} {x1 : Int32} {y2 : Int32} (t_1 : S.1 a0 = some (.inl 0)) (f_3 : S.2.1 a0 3 = .int y2) (k_4 : (x1 < y2) → aw ext d 7 16 [some (.ref a0), some (.int x1)] [] S Q) (k_5 : (¬ (x1 < y2)) → aw ext d 7 12 [some (.ref a0), some (.int x1)] [] S Q) : aw ext d 7 4 [some (.ref a0), some (.int x1)] [] S Q := by
  refine aw_ild j7_4 rfl ?_
  refine aw_ald j7_5 rfl rfl ?_
  refine aw_get j7_6 t_1 f_3 ?_
  exact aw_ic j7_9 (fun h => k_4 (of_decide_eq_true h)) (fun h => k_5 (of_decide_eq_false h))
theorem bk7_12 {r0 : Option Nat} {x1 : Int32}  (k_1 : aw ext d 7 22 [some (va_rf r0), some (.int x1)] [.null] S Q) : aw ext d 7 12 [some (va_rf r0), some (.int x1)] [] S Q := by
  refine aw_nul j7_12 ?_
  exact aw_goto j7_13 k_1
theorem bk7_16 {a0 : Nat} {x1 : Int32} {b2 : Nat} {n_4 : Nat} {i_7 : Nat} {q10 : Option Nat} (t_1 : S.1 a0 = some (.inl 0)) (f_3 : S.2.1 a0 2 = .ref b2) (t_5 : S.1 b2 = some (.inr (6, n_4))) (b_6 : n_4 < 2147483648) (e_8 : x1 = nI i_7) (c_9 : i_7 < n_4) (f_11 : S.2.1 b2 i_7 = va_rf q10) (k_12 : aw ext d 7 22 [some (.ref a0), some (.int x1)] [va_rf q10] S Q) : aw ext d 7 16 [some (.ref a0), some (.int x1)] [] S Q := by
  refine aw_ald j7_16 rfl rfl ?_
  refine aw_get j7_17 t_1 f_3 ?_
  refine aw_ild j7_20 rfl ?_
  refine aw_xld j7_21 t_5 e_8 c_9 b_6 f_11 ?_
  exact k_12
theorem bk7_22 {r0 : Option Nat} {x1 : Int32} {rk0 : Option Nat}  (k_1 : Q (some (va_rf rk0)) S) : aw ext d 7 22 [some (va_rf r0), some (.int x1)] [va_rf rk0] S Q := by
  exact aw_ret j7_22 (by rw [rt7]; exact (av_fo_rf _ rk0)) k_1
/-! SM_findParent -/
theorem bk8_0 {r0 : Option Nat} {r1 : Option Nat} {x2 : Int32}  (k_1 : (¬ x2 = (-1 : Int32)) → aw ext d 8 12 [some (va_rf r0), some (va_rf r1), some (.int x2)] [] S Q) (k_2 : (x2 = (-1 : Int32)) → aw ext d 8 5 [some (va_rf r0), some (va_rf r1), some (.int x2)] [] S Q) : aw ext d 8 0 [some (va_rf r0), some (va_rf r1), some (.int x2)] [] S Q := by
  refine aw_ild j8_0 rfl ?_
  refine aw_con j8_1 ?_
  exact aw_ic j8_2 (fun h => k_1 (of_decide_eq_true h)) (fun h => k_2 (Decidable.of_not_not (of_decide_eq_false h)))
theorem bk8_5 {r0 : Option Nat} {a1 : Nat} {x2 : Int32} {q2 : Option Nat} (t_1 : S.1 a1 = some (.inl 7)) (f_3 : S.2.1 a1 1 = va_rf q2) (k_4 : aw ext d 8 17 [some (va_rf r0), some (.ref a1), some (.int x2)] [va_rf q2] S Q) : aw ext d 8 5 [some (va_rf r0), some (.ref a1), some (.int x2)] [] S Q := by
  refine aw_ald j8_5 rfl rfl ?_
  refine aw_get j8_6 t_1 f_3 ?_
  exact aw_goto j8_9 k_4
theorem bk8_12 {a0 : Nat} {r1 : Option Nat} {x2 : Int32} {P_1 : Option Nat → av_St → Prop} (t_4 : S.1 a0 = some (.inl 0)) (m_5 : ctr ext d 9 [.ref a0, .int x2] S P_1) (k_6 : ∀ v_3 S_2, P_1 v_3 S_2 → aw ext (d + 1) 8 17 [some (.ref a0), some (va_rf r1), some (.int x2)] [va_rf v_3] S_2 Q) : aw ext (d + 1) 8 12 [some (.ref a0), some (va_rf r1), some (.int x2)] [] S Q := by
  refine aw_ald j8_12 rfl rfl ?_
  refine aw_ild j8_13 rfl ?_
  exact aw_callr (as := [.ref a0, .int x2]) j8_14 rfl rfl (Nat.le_of_ble_eq_true rfl) cy9.1 cy9.2 (cs_cons rfl (cs_cons rfl cs_nil)) (decide_eq_true t_4) m_5 k_6
theorem bk8_17 {r0 : Option Nat} {r1 : Option Nat} {x2 : Int32} {rk0 : Option Nat}  (k_1 : Q (some (va_rf rk0)) S) : aw ext d 8 17 [some (va_rf r0), some (va_rf r1), some (.int x2)] [va_rf rk0] S Q := by
  exact aw_ret j8_17 (by rw [rt8]; exact (av_fo_rf _ rk0)) k_1
/-! SM_findDivision -/
theorem bk9_0 {r0 : Option Nat} {x1 : Int32}  (k_1 : (x1 < 0) → aw ext d 9 12 [some (va_rf r0), some (.int x1)] [] S Q) (k_2 : (¬ (x1 < 0)) → aw ext d 9 4 [some (va_rf r0), some (.int x1)] [] S Q) : aw ext d 9 0 [some (va_rf r0), some (.int x1)] [] S Q := by
  refine aw_ild j9_0 rfl ?_
  exact aw_if j9_1 (fun h => k_1 (of_decide_eq_true h)) (fun h => k_2 (of_decide_eq_false h))
theorem bk9_4 {a0 : Nat} {x1 : Int32} {y2 : Int32} (t_1 : S.1 a0 = some (.inl 0)) (f_3 : S.2.1 a0 5 = .int y2) (k_4 : (x1 < y2) → aw ext d 9 16 [some (.ref a0), some (.int x1)] [] S Q) (k_5 : (¬ (x1 < y2)) → aw ext d 9 12 [some (.ref a0), some (.int x1)] [] S Q) : aw ext d 9 4 [some (.ref a0), some (.int x1)] [] S Q := by
  refine aw_ild j9_4 rfl ?_
  refine aw_ald j9_5 rfl rfl ?_
  refine aw_get j9_6 t_1 f_3 ?_
  exact aw_ic j9_9 (fun h => k_4 (of_decide_eq_true h)) (fun h => k_5 (of_decide_eq_false h))
theorem bk9_12 {r0 : Option Nat} {x1 : Int32}  (k_1 : aw ext d 9 22 [some (va_rf r0), some (.int x1)] [.null] S Q) : aw ext d 9 12 [some (va_rf r0), some (.int x1)] [] S Q := by
  refine aw_nul j9_12 ?_
  exact aw_goto j9_13 k_1
theorem bk9_16 {a0 : Nat} {x1 : Int32} {b2 : Nat} {n_4 : Nat} {i_7 : Nat} {q10 : Option Nat} (t_1 : S.1 a0 = some (.inl 0)) (f_3 : S.2.1 a0 4 = .ref b2) (t_5 : S.1 b2 = some (.inr (7, n_4))) (b_6 : n_4 < 2147483648) (e_8 : x1 = nI i_7) (c_9 : i_7 < n_4) (f_11 : S.2.1 b2 i_7 = va_rf q10) (k_12 : aw ext d 9 22 [some (.ref a0), some (.int x1)] [va_rf q10] S Q) : aw ext d 9 16 [some (.ref a0), some (.int x1)] [] S Q := by
  refine aw_ald j9_16 rfl rfl ?_
  refine aw_get j9_17 t_1 f_3 ?_
  refine aw_ild j9_20 rfl ?_
  refine aw_xld j9_21 t_5 e_8 c_9 b_6 f_11 ?_
  exact k_12
theorem bk9_22 {r0 : Option Nat} {x1 : Int32} {rk0 : Option Nat}  (k_1 : Q (some (va_rf rk0)) S) : aw ext d 9 22 [some (va_rf r0), some (.int x1)] [va_rf rk0] S Q := by
  exact aw_ret j9_22 (by rw [rt9]; exact (av_fo_rf _ rk0)) k_1
/-! SM_link -/
theorem bk10_0 {a0 : Nat} {x1 : Int32} {x2 : Int32} {x3 : Int32} {x4 : Int32} {o5 : Option Value} {o6 : Option Value} {o7 : Option Value} {P_1 : Option Nat → av_St → Prop} (t_4 : S.1 a0 = some (.inl 0)) (m_5 : ctr ext d 9 [.ref a0, .int x1] S P_1) (k_6 : ∀ v_3 S_2, P_1 v_3 S_2 → aw ext (d + 1) 10 5 [some (.ref a0), some (.int x1), some (.int x2), some (.int x3), some (.int x4), o5, o6, o7] [va_rf v_3] S_2 Q) : aw ext (d + 1) 10 0 [some (.ref a0), some (.int x1), some (.int x2), some (.int x3), some (.int x4), o5, o6, o7] [] S Q := by
  refine aw_ald j10_0 rfl rfl ?_
  refine aw_ild j10_1 rfl ?_
  exact aw_callr (as := [.ref a0, .int x1]) j10_2 rfl rfl (Nat.le_of_ble_eq_true rfl) cy9.1 cy9.2 (cs_cons rfl (cs_cons rfl cs_nil)) (decide_eq_true t_4) m_5 k_6
theorem bk10_5 {a0 : Nat} {x1 : Int32} {x2 : Int32} {x3 : Int32} {x4 : Int32} {o5 : Option Value} {o6 : Option Value} {o7 : Option Value} {rk0 : Option Nat} {P_1 : Option Nat → av_St → Prop} (t_4 : S.1 a0 = some (.inl 0)) (m_5 : ctr ext d 4 [.ref a0, .int x2] S P_1) (k_6 : ∀ v_3 S_2, P_1 v_3 S_2 → aw ext (d + 1) 10 12 [some (.ref a0), some (.int x1), some (.int x2), some (.int x3), some (.int x4), some (va_rf rk0), o6, o7] [va_rf v_3] S_2 Q) : aw ext (d + 1) 10 5 [some (.ref a0), some (.int x1), some (.int x2), some (.int x3), some (.int x4), o5, o6, o7] [va_rf rk0] S Q := by
  refine aw_ast j10_5 (av_isR_rf rk0) (Nat.le_of_ble_eq_true rfl) ?_
  refine aw_ald j10_7 rfl rfl ?_
  refine aw_ild j10_8 rfl ?_
  exact aw_callr (as := [.ref a0, .int x2]) j10_9 rfl rfl (Nat.le_of_ble_eq_true rfl) cy4.1 cy4.2 (cs_cons rfl (cs_cons rfl cs_nil)) (decide_eq_true t_4) m_5 k_6
theorem bk10_12 {r0 : Option Nat} {x1 : Int32} {x2 : Int32} {x3 : Int32} {x4 : Int32} {r5 : Option Nat} {o6 : Option Value} {o7 : Option Value} {rk0 : Option Nat}  (k_2 : r5 = none → aw ext d 10 24 [some (va_rf r0), some (.int x1), some (.int x2), some (.int x3), some (.int x4), some (va_rf r5), some (va_rf rk0), o7] [] S Q) (k_3 : ∀ c_1, r5 = some c_1 → aw ext d 10 19 [some (va_rf r0), some (.int x1), some (.int x2), some (.int x3), some (.int x4), some (va_rf r5), some (va_rf rk0), o7] [] S Q) : aw ext d 10 12 [some (va_rf r0), some (.int x1), some (.int x2), some (.int x3), some (.int x4), some (va_rf r5), o6, o7] [va_rf rk0] S Q := by
  refine aw_ast j10_12 (av_isR_rf rk0) (Nat.le_of_ble_eq_true rfl) ?_
  refine aw_ald j10_14 rfl (av_isR_rf r5) ?_
  exact aw_null (r := r5) j10_16 k_2 k_3
theorem bk10_19 {r0 : Option Nat} {x1 : Int32} {x2 : Int32} {x3 : Int32} {x4 : Int32} {r5 : Option Nat} {r6 : Option Nat} {o7 : Option Value}  (k_2 : r6 = none → aw ext d 10 24 [some (va_rf r0), some (.int x1), some (.int x2), some (.int x3), some (.int x4), some (va_rf r5), some (va_rf r6), o7] [] S Q) (k_3 : ∀ c_1, r6 = some c_1 → aw ext d 10 26 [some (va_rf r0), some (.int x1), some (.int x2), some (.int x3), some (.int x4), some (va_rf r5), some (va_rf r6), o7] [] S Q) : aw ext d 10 19 [some (va_rf r0), some (.int x1), some (.int x2), some (.int x3), some (.int x4), some (va_rf r5), some (va_rf r6), o7] [] S Q := by
  refine aw_ald j10_19 rfl (av_isR_rf r6) ?_
  exact aw_nonn (r := r6) j10_21 k_2 k_3
theorem bk10_24 {r0 : Option Nat} {x1 : Int32} {x2 : Int32} {x3 : Int32} {x4 : Int32} {r5 : Option Nat} {r6 : Option Nat} {o7 : Option Value}  (k_1 : Q (some (.int (-1 : Int32))) S) : aw ext d 10 24 [some (va_rf r0), some (.int x1), some (.int x2), some (.int x3), some (.int x4), some (va_rf r5), some (va_rf r6), o7] [] S Q := by
  refine aw_con j10_24 ?_
  exact aw_ret j10_25 (by rw [rt10]; exact rfl) k_1
theorem bk10_26 {r0 : Option Nat} {x1 : Int32} {x2 : Int32} {x3 : Int32} {x4 : Int32} {r5 : Option Nat} {r6 : Option Nat} {o7 : Option Value}  (k_1 : (x3 < 0) → aw ext d 10 43 [some (va_rf r0), some (.int x1), some (.int x2), some (.int x3), some (.int x4), some (va_rf r5), some (va_rf r6), o7] [] S Q) (k_2 : (¬ (x3 < 0)) → aw ext d 10 30 [some (va_rf r0), some (.int x1), some (.int x2), some (.int x3), some (.int x4), some (va_rf r5), some (va_rf r6), o7] [] S Q) : aw ext d 10 26 [some (va_rf r0), some (.int x1), some (.int x2), some (.int x3), some (.int x4), some (va_rf r5), some (va_rf r6), o7] [] S Q := by
  refine aw_ild j10_26 rfl ?_
  exact aw_if j10_27 (fun h => k_1 (of_decide_eq_true h)) (fun h => k_2 (of_decide_eq_false h))
theorem bk10_30 {r0 : Option Nat} {x1 : Int32} {x2 : Int32} {x3 : Int32} {x4 : Int32} {r5 : Option Nat} {r6 : Option Nat} {o7 : Option Value}  (k_1 : (x4 ≤ x3) → aw ext d 10 43 [some (va_rf r0), some (.int x1), some (.int x2), some (.int x3), some (.int x4), some (va_rf r5), some (va_rf r6), o7] [] S Q) (k_2 : (¬ (x4 ≤ x3)) → aw ext d 10 36 [some (va_rf r0), some (.int x1), some (.int x2), some (.int x3), some (.int x4), some (va_rf r5), some (va_rf r6), o7] [] S Q) : aw ext d 10 30 [some (va_rf r0), some (.int x1), some (.int x2), some (.int x3), some (.int x4), some (va_rf r5), some (va_rf r6), o7] [] S Q := by
  refine aw_ild j10_30 rfl ?_
  refine aw_ild j10_32 rfl ?_
  exact aw_ic j10_33 (fun h => k_1 (of_decide_eq_true h)) (fun h => k_2 (of_decide_eq_false h))
theorem bk10_36 {r0 : Option Nat} {x1 : Int32} {x2 : Int32} {x3 : Int32} {x4 : Int32} {r5 : Option Nat} {r6 : Option Nat} {o7 : Option Value}  (k_1 : (x4 ≤ (100000 : Int32)) → aw ext d 10 46 [some (va_rf r0), some (.int x1), some (.int x2), some (.int x3), some (.int x4), some (va_rf r5), some (va_rf r6), o7] [] S Q) (k_2 : (¬ (x4 ≤ (100000 : Int32))) → aw ext d 10 43 [some (va_rf r0), some (.int x1), some (.int x2), some (.int x3), some (.int x4), some (va_rf r5), some (va_rf r6), o7] [] S Q) : aw ext d 10 36 [some (va_rf r0), some (.int x1), some (.int x2), some (.int x3), some (.int x4), some (va_rf r5), some (va_rf r6), o7] [] S Q := by
  refine aw_ild j10_36 rfl ?_
  refine aw_con j10_38 ?_
  exact aw_ic j10_40 (fun h => k_1 (of_decide_eq_true h)) (fun h => k_2 (of_decide_eq_false h))
theorem bk10_43 {r0 : Option Nat} {x1 : Int32} {x2 : Int32} {x3 : Int32} {x4 : Int32} {r5 : Option Nat} {r6 : Option Nat} {o7 : Option Value}  (k_1 : Q (some (.int (-2 : Int32))) S) : aw ext d 10 43 [some (va_rf r0), some (.int x1), some (.int x2), some (.int x3), some (.int x4), some (va_rf r5), some (va_rf r6), o7] [] S Q := by
  refine aw_con j10_43 ?_
  exact aw_ret j10_45 (by rw [rt10]; exact rfl) k_1
theorem bk10_46 {r0 : Option Nat} {x1 : Int32} {x2 : Int32} {x3 : Int32} {x4 : Int32} {a5 : Nat} {r6 : Option Nat} {o7 : Option Value} {q2 : Option Nat} (t_1 : S.1 a5 = some (.inl 8)) (f_3 : S.2.1 a5 9 = va_rf q2) (k_5 : q2 = none → aw ext d 10 57 [some (va_rf r0), some (.int x1), some (.int x2), some (.int x3), some (.int x4), some (.ref a5), some (va_rf r6), o7] [] S Q) (k_6 : ∀ c_4, q2 = some c_4 → aw ext d 10 54 [some (va_rf r0), some (.int x1), some (.int x2), some (.int x3), some (.int x4), some (.ref a5), some (va_rf r6), o7] [] S Q) : aw ext d 10 46 [some (va_rf r0), some (.int x1), some (.int x2), some (.int x3), some (.int x4), some (.ref a5), some (va_rf r6), o7] [] S Q := by
  refine aw_ald j10_46 rfl rfl ?_
  refine aw_get j10_48 t_1 f_3 ?_
  exact aw_null (r := q2) j10_51 k_5 k_6
theorem bk10_54 {r0 : Option Nat} {x1 : Int32} {x2 : Int32} {x3 : Int32} {x4 : Int32} {r5 : Option Nat} {r6 : Option Nat} {o7 : Option Value}  (k_1 : Q (some (.int (-3 : Int32))) S) : aw ext d 10 54 [some (va_rf r0), some (.int x1), some (.int x2), some (.int x3), some (.int x4), some (va_rf r5), some (va_rf r6), o7] [] S Q := by
  refine aw_con j10_54 ?_
  exact aw_ret j10_56 (by rw [rt10]; exact rfl) k_1
theorem bk10_57 {r0 : Option Nat} {x1 : Int32} {x2 : Int32} {x3 : Int32} {x4 : Int32} {a5 : Nat} {r6 : Option Nat} {o7 : Option Value} {y2 : Int32} (t_1 : S.1 a5 = some (.inl 8)) (f_3 : S.2.1 a5 5 = .int y2) (k_4 : (y2 < (5 : Int32)) → aw ext d 10 69 [some (va_rf r0), some (.int x1), some (.int x2), some (.int x3), some (.int x4), some (.ref a5), some (va_rf r6), o7] [] S Q) (k_5 : (¬ (y2 < (5 : Int32))) → aw ext d 10 66 [some (va_rf r0), some (.int x1), some (.int x2), some (.int x3), some (.int x4), some (.ref a5), some (va_rf r6), o7] [] S Q) : aw ext d 10 57 [some (va_rf r0), some (.int x1), some (.int x2), some (.int x3), some (.int x4), some (.ref a5), some (va_rf r6), o7] [] S Q := by
  refine aw_ald j10_57 rfl rfl ?_
  refine aw_get j10_59 t_1 f_3 ?_
  refine aw_con j10_62 ?_
  exact aw_ic j10_63 (fun h => k_4 (of_decide_eq_true h)) (fun h => k_5 (of_decide_eq_false h))
theorem bk10_66 {r0 : Option Nat} {x1 : Int32} {x2 : Int32} {x3 : Int32} {x4 : Int32} {r5 : Option Nat} {r6 : Option Nat} {o7 : Option Value}  (k_1 : Q (some (.int (-4 : Int32))) S) : aw ext d 10 66 [some (va_rf r0), some (.int x1), some (.int x2), some (.int x3), some (.int x4), some (va_rf r5), some (va_rf r6), o7] [] S Q := by
  refine aw_con j10_66 ?_
  exact aw_ret j10_68 (by rw [rt10]; exact rfl) k_1
theorem bk10_69 {r0 : Option Nat} {x1 : Int32} {x2 : Int32} {x3 : Int32} {x4 : Int32} {r5 : Option Nat} {r6 : Option Nat} {o7 : Option Value}  (k_1 : aw ext d 10 72 [some (va_rf r0), some (.int x1), some (.int x2), some (.int x3), some (.int x4), some (va_rf r5), some (va_rf r6), o7] [.ref S.2.2.1] (av_new S (.inl 9) (fun f => defaultValue (sm_fT 9 f)) (sm_fN 9)) Q) : aw ext d 10 69 [some (va_rf r0), some (.int x1), some (.int x2), some (.int x3), some (.int x4), some (va_rf r5), some (va_rf r6), o7] [] S Q := by
  refine aw_new j10_69 ?_
  exact k_1
theorem bk10_72 {r0 : Option Nat} {x1 : Int32} {x2 : Int32} {x3 : Int32} {x4 : Int32} {r5 : Option Nat} {r6 : Option Nat} {o7 : Option Value} {ak0 : Nat} {P_1 : av_St → Prop} (m_4 : ctv ext d 60 [.ref ak0, va_rf r5, va_rf r6, .int x3, .int x4] S P_1) (k_5 : ∀ S_2, P_1 S_2 → aw ext (d + 1) 10 83 [some (va_rf r0), some (.int x1), some (.int x2), some (.int x3), some (.int x4), some (va_rf r5), some (va_rf r6), o7] [.ref ak0] S_2 Q) : aw ext (d + 1) 10 72 [some (va_rf r0), some (.int x1), some (.int x2), some (.int x3), some (.int x4), some (va_rf r5), some (va_rf r6), o7] [.ref ak0] S Q := by
  refine aw_dup j10_72 rfl ?_
  refine aw_ald j10_73 rfl (av_isR_rf r5) ?_
  refine aw_ald j10_75 rfl (av_isR_rf r6) ?_
  refine aw_ild j10_77 rfl ?_
  refine aw_ild j10_78 rfl ?_
  exact aw_callv (as := [.ref ak0, va_rf r5, va_rf r6, .int x3, .int x4]) j10_80 rfl rfl (Nat.le_of_ble_eq_true rfl) cy60.1 cy60.2 (cs_cons rfl (cs_cons (av_cat_rf r5) (cs_cons (av_cat_rf r6) (cs_cons rfl (cs_cons rfl cs_nil))))) rfl m_4 k_5
theorem bk10_83 {r0 : Option Nat} {x1 : Int32} {x2 : Int32} {x3 : Int32} {x4 : Int32} {a5 : Nat} {a6 : Nat} {o7 : Option Value} {rk0 : Option Nat} {b2 : Nat} {y4 : Int32} {n_6 : Nat} {i_9 : Nat} {y14 : Int32} {P_16 : av_St → Prop} (t_1 : S.1 a5 = some (.inl 8)) (f_3 : S.2.1 a5 4 = .ref b2) (f_5 : S.2.1 a5 5 = .int y4) (t_7 : S.1 b2 = some (.inr (8, n_6))) (b_8 : n_6 < 2147483648) (e_10 : y4 = nI i_9) (c_11 : i_9 < n_6) (t_13 : ∀ w_12, rk0 = some w_12 → S.1 w_12 = some (.inl 9)) (f_15 : (av_set S b2 i_9 (va_rf rk0)).2.1 a5 5 = .int y14) (t_19 : (av_set (av_set S b2 i_9 (va_rf rk0)) a5 5 (.int (y14 + (1 : Int32)))).1 a6 = some (.inl 6)) (m_20 : ctv ext d 46 [.ref a6, va_rf rk0] (av_set (av_set S b2 i_9 (va_rf rk0)) a5 5 (.int (y14 + (1 : Int32)))) P_16) (k_21 : ∀ S_17, P_16 S_17 → aw ext (d + 1) 10 116 [some (va_rf r0), some (.int x1), some (.int x2), some (.int x3), some (.int x4), some (.ref a5), some (.ref a6), some (va_rf rk0)] [] S_17 Q) : aw ext (d + 1) 10 83 [some (va_rf r0), some (.int x1), some (.int x2), some (.int x3), some (.int x4), some (.ref a5), some (.ref a6), o7] [va_rf rk0] S Q := by
  refine aw_ast j10_83 (av_isR_rf rk0) (Nat.le_of_ble_eq_true rfl) ?_
  refine aw_ald j10_85 rfl rfl ?_
  refine aw_get j10_87 t_1 f_3 ?_
  refine aw_ald j10_90 rfl rfl ?_
  refine aw_get j10_92 t_1 f_5 ?_
  refine aw_ald j10_95 rfl (av_isR_rf rk0) ?_
  refine aw_ast2 (r := rk0) j10_97 t_7 e_10 c_11 b_8 t_13 ?_
  refine aw_ald j10_98 rfl rfl ?_
  refine aw_dup j10_100 rfl ?_
  refine aw_get j10_101 t_1 f_15 ?_
  refine aw_con j10_104 ?_
  refine aw_bin (z := (y14 + (1 : Int32))) j10_105 rfl ?_
  refine aw_put j10_106 t_1 rfl ?_
  refine aw_ald j10_109 rfl rfl ?_
  refine aw_ald j10_111 rfl (av_isR_rf rk0) ?_
  exact aw_callv (as := [.ref a6, va_rf rk0]) j10_113 rfl rfl (Nat.le_of_ble_eq_true rfl) cy46.1 cy46.2 (cs_cons rfl (cs_cons (av_cat_rf rk0) cs_nil)) (decide_eq_true t_19) m_20 k_21
theorem bk10_116 {r0 : Option Nat} {x1 : Int32} {x2 : Int32} {x3 : Int32} {x4 : Int32} {a5 : Nat} {r6 : Option Nat} {r7 : Option Nat} {y2 : Int32} (t_1 : S.1 a5 = some (.inl 8)) (f_3 : S.2.1 a5 5 = .int y2) (k_4 : Q (some (.int y2)) S) : aw ext d 10 116 [some (va_rf r0), some (.int x1), some (.int x2), some (.int x3), some (.int x4), some (.ref a5), some (va_rf r6), some (va_rf r7)] [] S Q := by
  refine aw_ald j10_116 rfl rfl ?_
  refine aw_get j10_118 t_1 f_3 ?_
  exact aw_ret j10_121 (by rw [rt10]; exact rfl) k_4
/-! SM_repeat -/
theorem bk11_0 {a0 : Nat} {x1 : Int32} {x2 : Int32} {o3 : Option Value} {o4 : Option Value} {P_1 : Option Nat → av_St → Prop} (t_4 : S.1 a0 = some (.inl 0)) (m_5 : ctr ext d 9 [.ref a0, .int x1] S P_1) (k_6 : ∀ v_3 S_2, P_1 v_3 S_2 → aw ext (d + 1) 11 5 [some (.ref a0), some (.int x1), some (.int x2), o3, o4] [va_rf v_3] S_2 Q) : aw ext (d + 1) 11 0 [some (.ref a0), some (.int x1), some (.int x2), o3, o4] [] S Q := by
  refine aw_ald j11_0 rfl rfl ?_
  refine aw_ild j11_1 rfl ?_
  exact aw_callr (as := [.ref a0, .int x1]) j11_2 rfl rfl (Nat.le_of_ble_eq_true rfl) cy9.1 cy9.2 (cs_cons rfl (cs_cons rfl cs_nil)) (decide_eq_true t_4) m_5 k_6
theorem bk11_5 {a0 : Nat} {x1 : Int32} {x2 : Int32} {o3 : Option Value} {o4 : Option Value} {rk0 : Option Nat} {P_1 : Option Nat → av_St → Prop} (t_4 : S.1 a0 = some (.inl 0)) (m_5 : ctr ext d 9 [.ref a0, .int x2] S P_1) (k_6 : ∀ v_3 S_2, P_1 v_3 S_2 → aw ext (d + 1) 11 11 [some (.ref a0), some (.int x1), some (.int x2), some (va_rf rk0), o4] [va_rf v_3] S_2 Q) : aw ext (d + 1) 11 5 [some (.ref a0), some (.int x1), some (.int x2), o3, o4] [va_rf rk0] S Q := by
  refine aw_ast j11_5 (av_isR_rf rk0) (Nat.le_of_ble_eq_true rfl) ?_
  refine aw_ald j11_6 rfl rfl ?_
  refine aw_ild j11_7 rfl ?_
  exact aw_callr (as := [.ref a0, .int x2]) j11_8 rfl rfl (Nat.le_of_ble_eq_true rfl) cy9.1 cy9.2 (cs_cons rfl (cs_cons rfl cs_nil)) (decide_eq_true t_4) m_5 k_6
theorem bk11_11 {r0 : Option Nat} {x1 : Int32} {x2 : Int32} {r3 : Option Nat} {o4 : Option Value} {rk0 : Option Nat}  (k_2 : r3 = none → aw ext d 11 22 [some (va_rf r0), some (.int x1), some (.int x2), some (va_rf r3), some (va_rf rk0)] [] S Q) (k_3 : ∀ c_1, r3 = some c_1 → aw ext d 11 17 [some (va_rf r0), some (.int x1), some (.int x2), some (va_rf r3), some (va_rf rk0)] [] S Q) : aw ext d 11 11 [some (va_rf r0), some (.int x1), some (.int x2), some (va_rf r3), o4] [va_rf rk0] S Q := by
  refine aw_ast j11_11 (av_isR_rf rk0) (Nat.le_of_ble_eq_true rfl) ?_
  refine aw_ald j11_13 rfl (av_isR_rf r3) ?_
  exact aw_null (r := r3) j11_14 k_2 k_3
theorem bk11_17 {r0 : Option Nat} {x1 : Int32} {x2 : Int32} {r3 : Option Nat} {r4 : Option Nat}  (k_2 : r4 = none → aw ext d 11 22 [some (va_rf r0), some (.int x1), some (.int x2), some (va_rf r3), some (va_rf r4)] [] S Q) (k_3 : ∀ c_1, r4 = some c_1 → aw ext d 11 24 [some (va_rf r0), some (.int x1), some (.int x2), some (va_rf r3), some (va_rf r4)] [] S Q) : aw ext d 11 17 [some (va_rf r0), some (.int x1), some (.int x2), some (va_rf r3), some (va_rf r4)] [] S Q := by
  refine aw_ald j11_17 rfl (av_isR_rf r4) ?_
  exact aw_nonn (r := r4) j11_19 k_2 k_3
theorem bk11_22 {r0 : Option Nat} {x1 : Int32} {x2 : Int32} {r3 : Option Nat} {r4 : Option Nat}  (k_1 : Q (some (.int (-1 : Int32))) S) : aw ext d 11 22 [some (va_rf r0), some (.int x1), some (.int x2), some (va_rf r3), some (va_rf r4)] [] S Q := by
  refine aw_con j11_22 ?_
  exact aw_ret j11_23 (by rw [rt11]; exact rfl) k_1
theorem bk11_24 {r0 : Option Nat} {x1 : Int32} {x2 : Int32} {a3 : Nat} {r4 : Option Nat} {P_1 : Int32 → av_St → Prop} (t_4 : S.1 a3 = some (.inl 8)) (m_5 : cti ext d 53 [.ref a3] S P_1) (k_6 : ∀ v_3 S_2, P_1 v_3 S_2 → aw ext (d + 1) 11 28 [some (va_rf r0), some (.int x1), some (.int x2), some (.ref a3), some (va_rf r4)] [.int v_3] S_2 Q) : aw ext (d + 1) 11 24 [some (va_rf r0), some (.int x1), some (.int x2), some (.ref a3), some (va_rf r4)] [] S Q := by
  refine aw_ald j11_24 rfl rfl ?_
  exact aw_calli (as := [.ref a3]) j11_25 rfl rfl (Nat.le_of_ble_eq_true rfl) cy53.1 cy53.2 (cs_cons rfl cs_nil) (decide_eq_true t_4) m_5 k_6
theorem bk11_28 {r0 : Option Nat} {x1 : Int32} {x2 : Int32} {r3 : Option Nat} {r4 : Option Nat} {xk0 : Int32}  (k_1 : (xk0 = 0) → aw ext d 11 43 [some (va_rf r0), some (.int x1), some (.int x2), some (va_rf r3), some (va_rf r4)] [] S Q) (k_2 : (¬ (xk0 = 0)) → aw ext d 11 31 [some (va_rf r0), some (.int x1), some (.int x2), some (va_rf r3), some (va_rf r4)] [] S Q) : aw ext d 11 28 [some (va_rf r0), some (.int x1), some (.int x2), some (va_rf r3), some (va_rf r4)] [.int xk0] S Q := by
  exact aw_if j11_28 (fun h => k_1 (of_decide_eq_true h)) (fun h => k_2 (of_decide_eq_false h))
theorem bk11_31 {r0 : Option Nat} {x1 : Int32} {x2 : Int32} {a3 : Nat} {a4 : Nat} {y2 : Int32} {y5 : Int32} (t_1 : S.1 a3 = some (.inl 8)) (f_3 : S.2.1 a3 1 = .int y2) (t_4 : S.1 a4 = some (.inl 8)) (f_6 : S.2.1 a4 1 = .int y5) (k_7 : (y2 = y5) → aw ext d 11 46 [some (va_rf r0), some (.int x1), some (.int x2), some (.ref a3), some (.ref a4)] [] S Q) (k_8 : (¬ (y2 = y5)) → aw ext d 11 43 [some (va_rf r0), some (.int x1), some (.int x2), some (.ref a3), some (.ref a4)] [] S Q) : aw ext d 11 31 [some (va_rf r0), some (.int x1), some (.int x2), some (.ref a3), some (.ref a4)] [] S Q := by
  refine aw_ald j11_31 rfl rfl ?_
  refine aw_get j11_32 t_1 f_3 ?_
  refine aw_ald j11_35 rfl rfl ?_
  refine aw_get j11_37 t_4 f_6 ?_
  exact aw_ic j11_40 (fun h => k_7 (of_decide_eq_true h)) (fun h => k_8 (of_decide_eq_false h))
theorem bk11_43 {r0 : Option Nat} {x1 : Int32} {x2 : Int32} {r3 : Option Nat} {r4 : Option Nat}  (k_1 : Q (some (.int (-3 : Int32))) S) : aw ext d 11 43 [some (va_rf r0), some (.int x1), some (.int x2), some (va_rf r3), some (va_rf r4)] [] S Q := by
  refine aw_con j11_43 ?_
  exact aw_ret j11_45 (by rw [rt11]; exact rfl) k_1
theorem bk11_46 {a0 : Nat} {x1 : Int32} {x2 : Int32} {r3 : Option Nat} {r4 : Option Nat} {b2 : Nat} {P_4 : Int32 → av_St → Prop} (t_1 : S.1 a0 = some (.inl 0)) (f_3 : S.2.1 a0 6 = .ref b2) (t_7 : S.1 b2 = some (.inl 1)) (m_8 : cti ext d 25 [.ref b2, va_rf r4, va_rf r3] S P_4) (k_9 : ∀ v_6 S_5, P_4 v_6 S_5 → aw ext (d + 1) 11 56 [some (.ref a0), some (.int x1), some (.int x2), some (va_rf r3), some (va_rf r4)] [.int v_6] S_5 Q) : aw ext (d + 1) 11 46 [some (.ref a0), some (.int x1), some (.int x2), some (va_rf r3), some (va_rf r4)] [] S Q := by
  refine aw_ald j11_46 rfl rfl ?_
  refine aw_get j11_47 t_1 f_3 ?_
  refine aw_ald j11_50 rfl (av_isR_rf r4) ?_
  refine aw_ald j11_52 rfl (av_isR_rf r3) ?_
  exact aw_calli (as := [.ref b2, va_rf r4, va_rf r3]) j11_53 rfl rfl (Nat.le_of_ble_eq_true rfl) cy25.1 cy25.2 (cs_cons rfl (cs_cons (av_cat_rf r4) (cs_cons (av_cat_rf r3) cs_nil))) (decide_eq_true t_7) m_8 k_9
theorem bk11_56 {r0 : Option Nat} {x1 : Int32} {x2 : Int32} {r3 : Option Nat} {r4 : Option Nat} {xk0 : Int32}  (k_1 : (xk0 = 0) → aw ext d 11 62 [some (va_rf r0), some (.int x1), some (.int x2), some (va_rf r3), some (va_rf r4)] [] S Q) (k_2 : (¬ (xk0 = 0)) → aw ext d 11 59 [some (va_rf r0), some (.int x1), some (.int x2), some (va_rf r3), some (va_rf r4)] [] S Q) : aw ext d 11 56 [some (va_rf r0), some (.int x1), some (.int x2), some (va_rf r3), some (va_rf r4)] [.int xk0] S Q := by
  exact aw_if j11_56 (fun h => k_1 (of_decide_eq_true h)) (fun h => k_2 (of_decide_eq_false h))
theorem bk11_59 {r0 : Option Nat} {x1 : Int32} {x2 : Int32} {r3 : Option Nat} {r4 : Option Nat}  (k_1 : Q (some (.int (-3 : Int32))) S) : aw ext d 11 59 [some (va_rf r0), some (.int x1), some (.int x2), some (va_rf r3), some (va_rf r4)] [] S Q := by
  refine aw_con j11_59 ?_
  exact aw_ret j11_61 (by rw [rt11]; exact rfl) k_1
theorem bk11_62 {r0 : Option Nat} {x1 : Int32} {x2 : Int32} {a3 : Nat} {r4 : Option Nat} (t_1 : S.1 a3 = some (.inl 8)) (k_2 : Q (some (.int (1 : Int32))) (av_set S a3 9 (va_rf r4))) : aw ext d 11 62 [some (va_rf r0), some (.int x1), some (.int x2), some (.ref a3), some (va_rf r4)] [] S Q := by
  refine aw_ald j11_62 rfl rfl ?_
  refine aw_ald j11_63 rfl (av_isR_rf r4) ?_
  refine aw_put j11_65 t_1 (av_fo_rf _ r4) ?_
  refine aw_con j11_68 ?_
  exact aw_ret j11_69 (by rw [rt11]; exact rfl) k_2
/-! SM_move -/
theorem bk12_0 {a0 : Nat} {x1 : Int32} {x2 : Int32} {o3 : Option Value} {o4 : Option Value} {o5 : Option Value} {P_1 : Option Nat → av_St → Prop} (t_4 : S.1 a0 = some (.inl 0)) (m_5 : ctr ext d 9 [.ref a0, .int x1] S P_1) (k_6 : ∀ v_3 S_2, P_1 v_3 S_2 → aw ext (d + 1) 12 5 [some (.ref a0), some (.int x1), some (.int x2), o3, o4, o5] [va_rf v_3] S_2 Q) : aw ext (d + 1) 12 0 [some (.ref a0), some (.int x1), some (.int x2), o3, o4, o5] [] S Q := by
  refine aw_ald j12_0 rfl rfl ?_
  refine aw_ild j12_1 rfl ?_
  exact aw_callr (as := [.ref a0, .int x1]) j12_2 rfl rfl (Nat.le_of_ble_eq_true rfl) cy9.1 cy9.2 (cs_cons rfl (cs_cons rfl cs_nil)) (decide_eq_true t_4) m_5 k_6
theorem bk12_5 {r0 : Option Nat} {x1 : Int32} {x2 : Int32} {o3 : Option Value} {o4 : Option Value} {o5 : Option Value} {rk0 : Option Nat}  (k_2 : rk0 = none → aw ext d 12 10 [some (va_rf r0), some (.int x1), some (.int x2), some (va_rf rk0), o4, o5] [] S Q) (k_3 : ∀ c_1, rk0 = some c_1 → aw ext d 12 12 [some (va_rf r0), some (.int x1), some (.int x2), some (va_rf rk0), o4, o5] [] S Q) : aw ext d 12 5 [some (va_rf r0), some (.int x1), some (.int x2), o3, o4, o5] [va_rf rk0] S Q := by
  refine aw_ast j12_5 (av_isR_rf rk0) (Nat.le_of_ble_eq_true rfl) ?_
  refine aw_ald j12_6 rfl (av_isR_rf rk0) ?_
  exact aw_nonn (r := rk0) j12_7 k_2 k_3
theorem bk12_10 {r0 : Option Nat} {x1 : Int32} {x2 : Int32} {r3 : Option Nat} {o4 : Option Value} {o5 : Option Value}  (k_1 : Q (some (.int (-1 : Int32))) S) : aw ext d 12 10 [some (va_rf r0), some (.int x1), some (.int x2), some (va_rf r3), o4, o5] [] S Q := by
  refine aw_con j12_10 ?_
  exact aw_ret j12_11 (by rw [rt12]; exact rfl) k_1
theorem bk12_12 {a0 : Nat} {x1 : Int32} {x2 : Int32} {a3 : Nat} {o4 : Option Value} {o5 : Option Value} {y2 : Int32} {P_4 : Option Nat → av_St → Prop} (t_1 : S.1 a3 = some (.inl 8)) (f_3 : S.2.1 a3 1 = .int y2) (t_7 : S.1 a0 = some (.inl 0)) (m_8 : ctr ext d 7 [.ref a0, .int y2] S P_4) (k_9 : ∀ v_6 S_5, P_4 v_6 S_5 → aw ext (d + 1) 12 20 [some (.ref a0), some (.int x1), some (.int x2), some (.ref a3), o4, o5] [va_rf v_6] S_5 Q) : aw ext (d + 1) 12 12 [some (.ref a0), some (.int x1), some (.int x2), some (.ref a3), o4, o5] [] S Q := by
  refine aw_ald j12_12 rfl rfl ?_
  refine aw_ald j12_13 rfl rfl ?_
  refine aw_get j12_14 t_1 f_3 ?_
  exact aw_callr (as := [.ref a0, .int y2]) j12_17 rfl rfl (Nat.le_of_ble_eq_true rfl) cy7.1 cy7.2 (cs_cons rfl (cs_cons rfl cs_nil)) (decide_eq_true t_7) m_8 k_9
theorem bk12_20 {r0 : Option Nat} {x1 : Int32} {x2 : Int32} {r3 : Option Nat} {o4 : Option Value} {o5 : Option Value} {rk0 : Option Nat}  (k_2 : rk0 = none → aw ext d 12 27 [some (va_rf r0), some (.int x1), some (.int x2), some (va_rf r3), some (va_rf rk0), o5] [] S Q) (k_3 : ∀ c_1, rk0 = some c_1 → aw ext d 12 29 [some (va_rf r0), some (.int x1), some (.int x2), some (va_rf r3), some (va_rf rk0), o5] [] S Q) : aw ext d 12 20 [some (va_rf r0), some (.int x1), some (.int x2), some (va_rf r3), o4, o5] [va_rf rk0] S Q := by
  refine aw_ast j12_20 (av_isR_rf rk0) (Nat.le_of_ble_eq_true rfl) ?_
  refine aw_ald j12_22 rfl (av_isR_rf rk0) ?_
  exact aw_nonn (r := rk0) j12_24 k_2 k_3
theorem bk12_27 {r0 : Option Nat} {x1 : Int32} {x2 : Int32} {r3 : Option Nat} {r4 : Option Nat} {o5 : Option Value}  (k_1 : Q (some (.int (-1 : Int32))) S) : aw ext d 12 27 [some (va_rf r0), some (.int x1), some (.int x2), some (va_rf r3), some (va_rf r4), o5] [] S Q := by
  refine aw_con j12_27 ?_
  exact aw_ret j12_28 (by rw [rt12]; exact rfl) k_1
theorem bk12_29 {a0 : Nat} {x1 : Int32} {x2 : Int32} {r3 : Option Nat} {r4 : Option Nat} {o5 : Option Value} {P_1 : Option Nat → av_St → Prop} (t_4 : S.1 a0 = some (.inl 0)) (m_5 : ctr ext d 8 [.ref a0, va_rf r4, .int x2] S P_1) (k_6 : ∀ v_3 S_2, P_1 v_3 S_2 → aw ext (d + 1) 12 36 [some (.ref a0), some (.int x1), some (.int x2), some (va_rf r3), some (va_rf r4), o5] [va_rf v_3] S_2 Q) : aw ext (d + 1) 12 29 [some (.ref a0), some (.int x1), some (.int x2), some (va_rf r3), some (va_rf r4), o5] [] S Q := by
  refine aw_ald j12_29 rfl rfl ?_
  refine aw_ald j12_30 rfl (av_isR_rf r4) ?_
  refine aw_ild j12_32 rfl ?_
  exact aw_callr (as := [.ref a0, va_rf r4, .int x2]) j12_33 rfl rfl (Nat.le_of_ble_eq_true rfl) cy8.1 cy8.2 (cs_cons rfl (cs_cons (av_cat_rf r4) (cs_cons rfl cs_nil))) (decide_eq_true t_4) m_5 k_6
theorem bk12_36 {r0 : Option Nat} {x1 : Int32} {x2 : Int32} {r3 : Option Nat} {r4 : Option Nat} {o5 : Option Value} {rk0 : Option Nat}  (k_2 : rk0 = none → aw ext d 12 43 [some (va_rf r0), some (.int x1), some (.int x2), some (va_rf r3), some (va_rf r4), some (va_rf rk0)] [] S Q) (k_3 : ∀ c_1, rk0 = some c_1 → aw ext d 12 45 [some (va_rf r0), some (.int x1), some (.int x2), some (va_rf r3), some (va_rf r4), some (va_rf rk0)] [] S Q) : aw ext d 12 36 [some (va_rf r0), some (.int x1), some (.int x2), some (va_rf r3), some (va_rf r4), o5] [va_rf rk0] S Q := by
  refine aw_ast j12_36 (av_isR_rf rk0) (Nat.le_of_ble_eq_true rfl) ?_
  refine aw_ald j12_38 rfl (av_isR_rf rk0) ?_
  exact aw_nonn (r := rk0) j12_40 k_2 k_3
theorem bk12_43 {r0 : Option Nat} {x1 : Int32} {x2 : Int32} {r3 : Option Nat} {r4 : Option Nat} {r5 : Option Nat}  (k_1 : Q (some (.int (-1 : Int32))) S) : aw ext d 12 43 [some (va_rf r0), some (.int x1), some (.int x2), some (va_rf r3), some (va_rf r4), some (va_rf r5)] [] S Q := by
  refine aw_con j12_43 ?_
  exact aw_ret j12_44 (by rw [rt12]; exact rfl) k_1
theorem bk12_45 {r0 : Option Nat} {x1 : Int32} {x2 : Int32} {a3 : Nat} {r4 : Option Nat} {a5 : Nat} {y2 : Int32} {y5 : Int32} (t_1 : S.1 a5 = some (.inl 8)) (f_3 : S.2.1 a5 1 = .int y2) (t_4 : S.1 a3 = some (.inl 8)) (f_6 : S.2.1 a3 1 = .int y5) (k_7 : (¬ y2 = y5) → aw ext d 12 65 [some (va_rf r0), some (.int x1), some (.int x2), some (.ref a3), some (va_rf r4), some (.ref a5)] [] S Q) (k_8 : (y2 = y5) → aw ext d 12 57 [some (va_rf r0), some (.int x1), some (.int x2), some (.ref a3), some (va_rf r4), some (.ref a5)] [] S Q) : aw ext d 12 45 [some (va_rf r0), some (.int x1), some (.int x2), some (.ref a3), some (va_rf r4), some (.ref a5)] [] S Q := by
  refine aw_ald j12_45 rfl rfl ?_
  refine aw_get j12_47 t_1 f_3 ?_
  refine aw_ald j12_50 rfl rfl ?_
  refine aw_get j12_51 t_4 f_6 ?_
  exact aw_ic j12_54 (fun h => k_7 (of_decide_eq_true h)) (fun h => k_8 (Decidable.of_not_not (of_decide_eq_false h)))
theorem bk12_57 {r0 : Option Nat} {x1 : Int32} {x2 : Int32} {r3 : Option Nat} {r4 : Option Nat} {a5 : Nat} {q2 : Option Nat} (t_1 : S.1 a5 = some (.inl 8)) (f_3 : S.2.1 a5 9 = va_rf q2) (k_5 : q2 = none → aw ext d 12 68 [some (va_rf r0), some (.int x1), some (.int x2), some (va_rf r3), some (va_rf r4), some (.ref a5)] [] S Q) (k_6 : ∀ c_4, q2 = some c_4 → aw ext d 12 65 [some (va_rf r0), some (.int x1), some (.int x2), some (va_rf r3), some (va_rf r4), some (.ref a5)] [] S Q) : aw ext d 12 57 [some (va_rf r0), some (.int x1), some (.int x2), some (va_rf r3), some (va_rf r4), some (.ref a5)] [] S Q := by
  refine aw_ald j12_57 rfl rfl ?_
  refine aw_get j12_59 t_1 f_3 ?_
  exact aw_null (r := q2) j12_62 k_5 k_6
theorem bk12_65 {r0 : Option Nat} {x1 : Int32} {x2 : Int32} {r3 : Option Nat} {r4 : Option Nat} {r5 : Option Nat}  (k_1 : Q (some (.int (-3 : Int32))) S) : aw ext d 12 65 [some (va_rf r0), some (.int x1), some (.int x2), some (va_rf r3), some (va_rf r4), some (va_rf r5)] [] S Q := by
  refine aw_con j12_65 ?_
  exact aw_ret j12_67 (by rw [rt12]; exact rfl) k_1
theorem bk12_68 {a0 : Nat} {x1 : Int32} {x2 : Int32} {r3 : Option Nat} {r4 : Option Nat} {r5 : Option Nat} {b2 : Nat} {P_4 : Int32 → av_St → Prop} (t_1 : S.1 a0 = some (.inl 0)) (f_3 : S.2.1 a0 6 = .ref b2) (t_7 : S.1 b2 = some (.inl 1)) (m_8 : cti ext d 25 [.ref b2, va_rf r3, va_rf r5] S P_4) (k_9 : ∀ v_6 S_5, P_4 v_6 S_5 → aw ext (d + 1) 12 78 [some (.ref a0), some (.int x1), some (.int x2), some (va_rf r3), some (va_rf r4), some (va_rf r5)] [.int v_6] S_5 Q) : aw ext (d + 1) 12 68 [some (.ref a0), some (.int x1), some (.int x2), some (va_rf r3), some (va_rf r4), some (va_rf r5)] [] S Q := by
  refine aw_ald j12_68 rfl rfl ?_
  refine aw_get j12_69 t_1 f_3 ?_
  refine aw_ald j12_72 rfl (av_isR_rf r3) ?_
  refine aw_ald j12_73 rfl (av_isR_rf r5) ?_
  exact aw_calli (as := [.ref b2, va_rf r3, va_rf r5]) j12_75 rfl rfl (Nat.le_of_ble_eq_true rfl) cy25.1 cy25.2 (cs_cons rfl (cs_cons (av_cat_rf r3) (cs_cons (av_cat_rf r5) cs_nil))) (decide_eq_true t_7) m_8 k_9
theorem bk12_78 {r0 : Option Nat} {x1 : Int32} {x2 : Int32} {r3 : Option Nat} {r4 : Option Nat} {r5 : Option Nat} {xk0 : Int32}  (k_1 : (xk0 = 0) → aw ext d 12 84 [some (va_rf r0), some (.int x1), some (.int x2), some (va_rf r3), some (va_rf r4), some (va_rf r5)] [] S Q) (k_2 : (¬ (xk0 = 0)) → aw ext d 12 81 [some (va_rf r0), some (.int x1), some (.int x2), some (va_rf r3), some (va_rf r4), some (va_rf r5)] [] S Q) : aw ext d 12 78 [some (va_rf r0), some (.int x1), some (.int x2), some (va_rf r3), some (va_rf r4), some (va_rf r5)] [.int xk0] S Q := by
  exact aw_if j12_78 (fun h => k_1 (of_decide_eq_true h)) (fun h => k_2 (of_decide_eq_false h))
theorem bk12_81 {r0 : Option Nat} {x1 : Int32} {x2 : Int32} {r3 : Option Nat} {r4 : Option Nat} {r5 : Option Nat}  (k_1 : Q (some (.int (-3 : Int32))) S) : aw ext d 12 81 [some (va_rf r0), some (.int x1), some (.int x2), some (va_rf r3), some (va_rf r4), some (va_rf r5)] [] S Q := by
  refine aw_con j12_81 ?_
  exact aw_ret j12_83 (by rw [rt12]; exact rfl) k_1
theorem bk12_84 {r0 : Option Nat} {x1 : Int32} {x2 : Int32} {a3 : Nat} {r4 : Option Nat} {r5 : Option Nat} {q2 : Option Nat} (t_1 : S.1 a3 = some (.inl 8)) (f_3 : S.2.1 a3 6 = va_rf q2) (k_5 : q2 = none → aw ext d 12 99 [some (va_rf r0), some (.int x1), some (.int x2), some (.ref a3), some (va_rf r4), some (va_rf r5)] [] S Q) (k_6 : ∀ c_4, q2 = some c_4 → aw ext d 12 91 [some (va_rf r0), some (.int x1), some (.int x2), some (.ref a3), some (va_rf r4), some (va_rf r5)] [] S Q) : aw ext d 12 84 [some (va_rf r0), some (.int x1), some (.int x2), some (.ref a3), some (va_rf r4), some (va_rf r5)] [] S Q := by
  refine aw_ald j12_84 rfl rfl ?_
  refine aw_get j12_85 t_1 f_3 ?_
  exact aw_null (r := q2) j12_88 k_5 k_6
theorem bk12_91 {r0 : Option Nat} {x1 : Int32} {x2 : Int32} {a3 : Nat} {r4 : Option Nat} {r5 : Option Nat} {b2 : Nat} {P_4 : av_St → Prop} (t_1 : S.1 a3 = some (.inl 8)) (f_3 : S.2.1 a3 6 = .ref b2) (t_7 : S.1 b2 = some (.inl 8)) (m_8 : ctv ext d 54 [.ref b2, .ref a3] S P_4) (k_9 : ∀ S_5, P_4 S_5 → aw ext (d + 1) 12 99 [some (va_rf r0), some (.int x1), some (.int x2), some (.ref a3), some (va_rf r4), some (va_rf r5)] [] S_5 Q) : aw ext (d + 1) 12 91 [some (va_rf r0), some (.int x1), some (.int x2), some (.ref a3), some (va_rf r4), some (va_rf r5)] [] S Q := by
  refine aw_ald j12_91 rfl rfl ?_
  refine aw_get j12_92 t_1 f_3 ?_
  refine aw_ald j12_95 rfl rfl ?_
  exact aw_callv (as := [.ref b2, .ref a3]) j12_96 rfl rfl (Nat.le_of_ble_eq_true rfl) cy54.1 cy54.2 (cs_cons rfl (cs_cons rfl cs_nil)) (decide_eq_true t_7) m_8 k_9
theorem bk12_99 {r0 : Option Nat} {x1 : Int32} {x2 : Int32} {r3 : Option Nat} {r4 : Option Nat} {a5 : Nat} {P_1 : av_St → Prop} (t_4 : S.1 a5 = some (.inl 8)) (m_5 : ctv ext d 51 [.ref a5, va_rf r3] S P_1) (k_6 : ∀ S_2, P_1 S_2 → aw ext (d + 1) 12 105 [some (va_rf r0), some (.int x1), some (.int x2), some (va_rf r3), some (va_rf r4), some (.ref a5)] [] S_2 Q) : aw ext (d + 1) 12 99 [some (va_rf r0), some (.int x1), some (.int x2), some (va_rf r3), some (va_rf r4), some (.ref a5)] [] S Q := by
  refine aw_ald j12_99 rfl rfl ?_
  refine aw_ald j12_101 rfl (av_isR_rf r3) ?_
  exact aw_callv (as := [.ref a5, va_rf r3]) j12_102 rfl rfl (Nat.le_of_ble_eq_true rfl) cy51.1 cy51.2 (cs_cons rfl (cs_cons (av_cat_rf r3) cs_nil)) (decide_eq_true t_4) m_5 k_6
theorem bk12_105 {r0 : Option Nat} {x1 : Int32} {x2 : Int32} {r3 : Option Nat} {r4 : Option Nat} {r5 : Option Nat}  (k_1 : Q (some (.int (1 : Int32))) S) : aw ext d 12 105 [some (va_rf r0), some (.int x1), some (.int x2), some (va_rf r3), some (va_rf r4), some (va_rf r5)] [] S Q := by
  refine aw_con j12_105 ?_
  exact aw_ret j12_106 (by rw [rt12]; exact rfl) k_1
/-! SM_order -/
theorem bk13_0 {a0 : Nat} {x1 : Int32} {x2 : Int32} {o3 : Option Value} {o4 : Option Value} {o5 : Option Value} {P_1 : Option Nat → av_St → Prop} (t_4 : S.1 a0 = some (.inl 0)) (m_5 : ctr ext d 7 [.ref a0, .int x1] S P_1) (k_6 : ∀ v_3 S_2, P_1 v_3 S_2 → aw ext (d + 1) 13 5 [some (.ref a0), some (.int x1), some (.int x2), o3, o4, o5] [va_rf v_3] S_2 Q) : aw ext (d + 1) 13 0 [some (.ref a0), some (.int x1), some (.int x2), o3, o4, o5] [] S Q := by
  refine aw_ald j13_0 rfl rfl ?_
  refine aw_ild j13_1 rfl ?_
  exact aw_callr (as := [.ref a0, .int x1]) j13_2 rfl rfl (Nat.le_of_ble_eq_true rfl) cy7.1 cy7.2 (cs_cons rfl (cs_cons rfl cs_nil)) (decide_eq_true t_4) m_5 k_6
theorem bk13_5 {r0 : Option Nat} {x1 : Int32} {x2 : Int32} {o3 : Option Value} {o4 : Option Value} {o5 : Option Value} {rk0 : Option Nat}  (k_2 : rk0 = none → aw ext d 13 22 [some (va_rf r0), some (.int x1), some (.int x2), some (va_rf rk0), o4, o5] [] S Q) (k_3 : ∀ c_1, rk0 = some c_1 → aw ext d 13 10 [some (va_rf r0), some (.int x1), some (.int x2), some (va_rf rk0), o4, o5] [] S Q) : aw ext d 13 5 [some (va_rf r0), some (.int x1), some (.int x2), o3, o4, o5] [va_rf rk0] S Q := by
  refine aw_ast j13_5 (av_isR_rf rk0) (Nat.le_of_ble_eq_true rfl) ?_
  refine aw_ald j13_6 rfl (av_isR_rf rk0) ?_
  exact aw_null (r := rk0) j13_7 k_2 k_3
theorem bk13_10 {r0 : Option Nat} {x1 : Int32} {x2 : Int32} {r3 : Option Nat} {o4 : Option Value} {o5 : Option Value}  (k_1 : (x2 < 0) → aw ext d 13 22 [some (va_rf r0), some (.int x1), some (.int x2), some (va_rf r3), o4, o5] [] S Q) (k_2 : (¬ (x2 < 0)) → aw ext d 13 14 [some (va_rf r0), some (.int x1), some (.int x2), some (va_rf r3), o4, o5] [] S Q) : aw ext d 13 10 [some (va_rf r0), some (.int x1), some (.int x2), some (va_rf r3), o4, o5] [] S Q := by
  refine aw_ild j13_10 rfl ?_
  exact aw_if j13_11 (fun h => k_1 (of_decide_eq_true h)) (fun h => k_2 (of_decide_eq_false h))
theorem bk13_14 {a0 : Nat} {x1 : Int32} {x2 : Int32} {r3 : Option Nat} {o4 : Option Value} {o5 : Option Value} {y2 : Int32} (t_1 : S.1 a0 = some (.inl 0)) (f_3 : S.2.1 a0 5 = .int y2) (k_4 : (x2 < y2) → aw ext d 13 24 [some (.ref a0), some (.int x1), some (.int x2), some (va_rf r3), o4, o5] [] S Q) (k_5 : (¬ (x2 < y2)) → aw ext d 13 22 [some (.ref a0), some (.int x1), some (.int x2), some (va_rf r3), o4, o5] [] S Q) : aw ext d 13 14 [some (.ref a0), some (.int x1), some (.int x2), some (va_rf r3), o4, o5] [] S Q := by
  refine aw_ild j13_14 rfl ?_
  refine aw_ald j13_15 rfl rfl ?_
  refine aw_get j13_16 t_1 f_3 ?_
  exact aw_ic j13_19 (fun h => k_4 (of_decide_eq_true h)) (fun h => k_5 (of_decide_eq_false h))
theorem bk13_22 {r0 : Option Nat} {x1 : Int32} {x2 : Int32} {r3 : Option Nat} {o4 : Option Value} {o5 : Option Value}  (k_1 : Q (some (.int (-1 : Int32))) S) : aw ext d 13 22 [some (va_rf r0), some (.int x1), some (.int x2), some (va_rf r3), o4, o5] [] S Q := by
  refine aw_con j13_22 ?_
  exact aw_ret j13_23 (by rw [rt13]; exact rfl) k_1
theorem bk13_24 {r0 : Option Nat} {x1 : Int32} {x2 : Int32} {a3 : Nat} {o4 : Option Value} {o5 : Option Value} {b2 : Nat} {P_4 : Option Nat → av_St → Prop} (t_1 : S.1 a3 = some (.inl 7)) (f_3 : S.2.1 a3 1 = .ref b2) (t_7 : S.1 b2 = some (.inl 8)) (m_8 : ctr ext d 55 [.ref b2, .ref b2] S P_4) (k_9 : ∀ v_6 S_5, P_4 v_6 S_5 → aw ext (d + 1) 13 35 [some (va_rf r0), some (.int x1), some (.int x2), some (.ref a3), o4, o5] [va_rf v_6] S_5 Q) : aw ext (d + 1) 13 24 [some (va_rf r0), some (.int x1), some (.int x2), some (.ref a3), o4, o5] [] S Q := by
  refine aw_ald j13_24 rfl rfl ?_
  refine aw_get j13_25 t_1 f_3 ?_
  refine aw_ald j13_28 rfl rfl ?_
  refine aw_get j13_29 t_1 f_3 ?_
  exact aw_callr (as := [.ref b2, .ref b2]) j13_32 rfl rfl (Nat.le_of_ble_eq_true rfl) cy55.1 cy55.2 (cs_cons rfl (cs_cons rfl cs_nil)) (decide_eq_true t_7) m_8 k_9
theorem bk13_35 {r0 : Option Nat} {x1 : Int32} {x2 : Int32} {r3 : Option Nat} {o4 : Option Value} {o5 : Option Value} {rk0 : Option Nat}  (k_1 : aw ext d 13 40 [some (va_rf r0), some (.int x1), some (.int x2), some (va_rf r3), some (va_rf rk0), some (.int (0 : Int32))] [] S Q) : aw ext d 13 35 [some (va_rf r0), some (.int x1), some (.int x2), some (va_rf r3), o4, o5] [va_rf rk0] S Q := by
  refine aw_ast j13_35 (av_isR_rf rk0) (Nat.le_of_ble_eq_true rfl) ?_
  refine aw_con j13_37 ?_
  refine aw_ist j13_38 (Nat.le_of_ble_eq_true rfl) ?_
  exact k_1
theorem bk13_40 {r0 : Option Nat} {x1 : Int32} {x2 : Int32} {r3 : Option Nat} {r4 : Option Nat} {x5 : Int32}  (k_1 : (x2 ≤ x5) → aw ext d 13 68 [some (va_rf r0), some (.int x1), some (.int x2), some (va_rf r3), some (va_rf r4), some (.int x5)] [] S Q) (k_2 : (¬ (x2 ≤ x5)) → aw ext d 13 46 [some (va_rf r0), some (.int x1), some (.int x2), some (va_rf r3), some (va_rf r4), some (.int x5)] [] S Q) : aw ext d 13 40 [some (va_rf r0), some (.int x1), some (.int x2), some (va_rf r3), some (va_rf r4), some (.int x5)] [] S Q := by
  refine aw_ild j13_40 rfl ?_
  refine aw_ild j13_42 rfl ?_
  exact aw_ic j13_43 (fun h => k_1 (of_decide_eq_true h)) (fun h => k_2 (of_decide_eq_false h))
theorem bk13_46 {r0 : Option Nat} {x1 : Int32} {x2 : Int32} {r3 : Option Nat} {r4 : Option Nat} {x5 : Int32}  (k_2 : r4 = none → aw ext d 13 68 [some (va_rf r0), some (.int x1), some (.int x2), some (va_rf r3), some (va_rf r4), some (.int x5)] [] S Q) (k_3 : ∀ c_1, r4 = some c_1 → aw ext d 13 51 [some (va_rf r0), some (.int x1), some (.int x2), some (va_rf r3), some (va_rf r4), some (.int x5)] [] S Q) : aw ext d 13 46 [some (va_rf r0), some (.int x1), some (.int x2), some (va_rf r3), some (va_rf r4), some (.int x5)] [] S Q := by
  refine aw_ald j13_46 rfl (av_isR_rf r4) ?_
  exact aw_null (r := r4) j13_48 k_2 k_3
theorem bk13_51 {r0 : Option Nat} {x1 : Int32} {x2 : Int32} {a3 : Nat} {a4 : Nat} {x5 : Int32} {q2 : Option Nat} {P_4 : Option Nat → av_St → Prop} (t_1 : S.1 a3 = some (.inl 7)) (f_3 : S.2.1 a3 1 = va_rf q2) (t_7 : S.1 a4 = some (.inl 8)) (m_8 : ctr ext d 55 [.ref a4, va_rf q2] S P_4) (k_9 : ∀ v_6 S_5, P_4 v_6 S_5 → aw ext (d + 1) 13 60 [some (va_rf r0), some (.int x1), some (.int x2), some (.ref a3), some (.ref a4), some (.int x5)] [va_rf v_6] S_5 Q) : aw ext (d + 1) 13 51 [some (va_rf r0), some (.int x1), some (.int x2), some (.ref a3), some (.ref a4), some (.int x5)] [] S Q := by
  refine aw_ald j13_51 rfl rfl ?_
  refine aw_ald j13_53 rfl rfl ?_
  refine aw_get j13_54 t_1 f_3 ?_
  exact aw_callr (as := [.ref a4, va_rf q2]) j13_57 rfl rfl (Nat.le_of_ble_eq_true rfl) cy55.1 cy55.2 (cs_cons rfl (cs_cons (av_cat_rf q2) cs_nil)) (decide_eq_true t_7) m_8 k_9
theorem bk13_60 {r0 : Option Nat} {x1 : Int32} {x2 : Int32} {r3 : Option Nat} {r4 : Option Nat} {x5 : Int32} {rk0 : Option Nat}  (k_1 : aw ext d 13 40 [some (va_rf r0), some (.int x1), some (.int x2), some (va_rf r3), some (va_rf rk0), some (.int (x5 + 1))] [] S Q) : aw ext d 13 60 [some (va_rf r0), some (.int x1), some (.int x2), some (va_rf r3), some (va_rf r4), some (.int x5)] [va_rf rk0] S Q := by
  refine aw_ast j13_60 (av_isR_rf rk0) (Nat.le_of_ble_eq_true rfl) ?_
  refine aw_inc j13_62 rfl ?_
  exact aw_goto j13_65 k_1
theorem bk13_68 {r0 : Option Nat} {x1 : Int32} {x2 : Int32} {r3 : Option Nat} {r4 : Option Nat} {x5 : Int32}  (k_2 : r4 = none → aw ext d 13 73 [some (va_rf r0), some (.int x1), some (.int x2), some (va_rf r3), some (va_rf r4), some (.int x5)] [] S Q) (k_3 : ∀ c_1, r4 = some c_1 → aw ext d 13 77 [some (va_rf r0), some (.int x1), some (.int x2), some (va_rf r3), some (va_rf r4), some (.int x5)] [] S Q) : aw ext d 13 68 [some (va_rf r0), some (.int x1), some (.int x2), some (va_rf r3), some (va_rf r4), some (.int x5)] [] S Q := by
  refine aw_ald j13_68 rfl (av_isR_rf r4) ?_
  exact aw_nonn (r := r4) j13_70 k_2 k_3
theorem bk13_73 {r0 : Option Nat} {x1 : Int32} {x2 : Int32} {r3 : Option Nat} {r4 : Option Nat} {x5 : Int32}  (k_1 : aw ext d 13 82 [some (va_rf r0), some (.int x1), some (.int x2), some (va_rf r3), some (va_rf r4), some (.int x5)] [.int (-1 : Int32)] S Q) : aw ext d 13 73 [some (va_rf r0), some (.int x1), some (.int x2), some (va_rf r3), some (va_rf r4), some (.int x5)] [] S Q := by
  refine aw_con j13_73 ?_
  exact aw_goto j13_74 k_1
theorem bk13_77 {r0 : Option Nat} {x1 : Int32} {x2 : Int32} {r3 : Option Nat} {a4 : Nat} {x5 : Int32} {y2 : Int32} (t_1 : S.1 a4 = some (.inl 8)) (f_3 : S.2.1 a4 0 = .int y2) (k_4 : aw ext d 13 82 [some (va_rf r0), some (.int x1), some (.int x2), some (va_rf r3), some (.ref a4), some (.int x5)] [.int y2] S Q) : aw ext d 13 77 [some (va_rf r0), some (.int x1), some (.int x2), some (va_rf r3), some (.ref a4), some (.int x5)] [] S Q := by
  refine aw_ald j13_77 rfl rfl ?_
  refine aw_get j13_79 t_1 f_3 ?_
  exact k_4
theorem bk13_82 {r0 : Option Nat} {x1 : Int32} {x2 : Int32} {r3 : Option Nat} {r4 : Option Nat} {x5 : Int32} {xk0 : Int32}  (k_1 : Q (some (.int xk0)) S) : aw ext d 13 82 [some (va_rf r0), some (.int x1), some (.int x2), some (va_rf r3), some (va_rf r4), some (.int x5)] [.int xk0] S Q := by
  exact aw_ret j13_82 (by rw [rt13]; exact rfl) k_1
/-! SM_read -/
theorem bk14_0 {a0 : Nat} {x1 : Int32} {o2 : Option Value} {P_1 : Option Nat → av_St → Prop} (t_4 : S.1 a0 = some (.inl 0)) (m_5 : ctr ext d 7 [.ref a0, .int x1] S P_1) (k_6 : ∀ v_3 S_2, P_1 v_3 S_2 → aw ext (d + 1) 14 5 [some (.ref a0), some (.int x1), o2] [va_rf v_3] S_2 Q) : aw ext (d + 1) 14 0 [some (.ref a0), some (.int x1), o2] [] S Q := by
  refine aw_ald j14_0 rfl rfl ?_
  refine aw_ild j14_1 rfl ?_
  exact aw_callr (as := [.ref a0, .int x1]) j14_2 rfl rfl (Nat.le_of_ble_eq_true rfl) cy7.1 cy7.2 (cs_cons rfl (cs_cons rfl cs_nil)) (decide_eq_true t_4) m_5 k_6
theorem bk14_5 {r0 : Option Nat} {x1 : Int32} {o2 : Option Value} {rk0 : Option Nat}  (k_2 : rk0 = none → aw ext d 14 10 [some (va_rf r0), some (.int x1), some (va_rf rk0)] [] S Q) (k_3 : ∀ c_1, rk0 = some c_1 → aw ext d 14 12 [some (va_rf r0), some (.int x1), some (va_rf rk0)] [] S Q) : aw ext d 14 5 [some (va_rf r0), some (.int x1), o2] [va_rf rk0] S Q := by
  refine aw_ast j14_5 (av_isR_rf rk0) (Nat.le_of_ble_eq_true rfl) ?_
  refine aw_ald j14_6 rfl (av_isR_rf rk0) ?_
  exact aw_nonn (r := rk0) j14_7 k_2 k_3
theorem bk14_10 {r0 : Option Nat} {x1 : Int32} {r2 : Option Nat}  (k_1 : Q (some (.int (-1 : Int32))) S) : aw ext d 14 10 [some (va_rf r0), some (.int x1), some (va_rf r2)] [] S Q := by
  refine aw_con j14_10 ?_
  exact aw_ret j14_11 (by rw [rt14]; exact rfl) k_1
theorem bk14_12 {a0 : Nat} {x1 : Int32} {a2 : Nat} {b2 : Nat} {q5 : Option Nat} {P_7 : av_St → Prop} (t_1 : S.1 a0 = some (.inl 0)) (f_3 : S.2.1 a0 7 = .ref b2) (t_4 : S.1 a2 = some (.inl 7)) (f_6 : S.2.1 a2 1 = va_rf q5) (t_10 : S.1 b2 = some (.inl 2)) (m_11 : ctv ext d 30 [.ref b2, va_rf q5] S P_7) (k_12 : ∀ S_8, P_7 S_8 → aw ext (d + 1) 14 23 [some (.ref a0), some (.int x1), some (.ref a2)] [] S_8 Q) : aw ext (d + 1) 14 12 [some (.ref a0), some (.int x1), some (.ref a2)] [] S Q := by
  refine aw_ald j14_12 rfl rfl ?_
  refine aw_get j14_13 t_1 f_3 ?_
  refine aw_ald j14_16 rfl rfl ?_
  refine aw_get j14_17 t_4 f_6 ?_
  exact aw_callv (as := [.ref b2, va_rf q5]) j14_20 rfl rfl (Nat.le_of_ble_eq_true rfl) cy30.1 cy30.2 (cs_cons rfl (cs_cons (av_cat_rf q5) cs_nil)) (decide_eq_true t_10) m_11 k_12
theorem bk14_23 {a0 : Nat} {x1 : Int32} {r2 : Option Nat} {b2 : Nat} {q4 : Option Nat} {P_6 : av_St → Prop} (t_1 : S.1 a0 = some (.inl 0)) (f_3 : S.2.1 a0 8 = .ref b2) (f_5 : S.2.1 a0 7 = va_rf q4) (t_9 : S.1 b2 = some (.inl 3)) (m_10 : ctv ext d 36 [.ref b2, va_rf q4] S P_6) (k_11 : ∀ S_7, P_6 S_7 → aw ext (d + 1) 14 34 [some (.ref a0), some (.int x1), some (va_rf r2)] [] S_7 Q) : aw ext (d + 1) 14 23 [some (.ref a0), some (.int x1), some (va_rf r2)] [] S Q := by
  refine aw_ald j14_23 rfl rfl ?_
  refine aw_get j14_24 t_1 f_3 ?_
  refine aw_ald j14_27 rfl rfl ?_
  refine aw_get j14_28 t_1 f_5 ?_
  exact aw_callv (as := [.ref b2, va_rf q4]) j14_31 rfl rfl (Nat.le_of_ble_eq_true rfl) cy36.1 cy36.2 (cs_cons rfl (cs_cons (av_cat_rf q4) cs_nil)) (decide_eq_true t_9) m_10 k_11
theorem bk14_34 {a0 : Nat} {x1 : Int32} {r2 : Option Nat} {b2 : Nat} {y5 : Int32} (t_1 : S.1 a0 = some (.inl 0)) (f_3 : S.2.1 a0 8 = .ref b2) (t_4 : S.1 b2 = some (.inl 3)) (f_6 : S.2.1 b2 2 = .int y5) (k_7 : Q (some (.int y5)) S) : aw ext d 14 34 [some (.ref a0), some (.int x1), some (va_rf r2)] [] S Q := by
  refine aw_ald j14_34 rfl rfl ?_
  refine aw_get j14_35 t_1 f_3 ?_
  refine aw_get j14_38 t_4 f_6 ?_
  exact aw_ret j14_41 (by rw [rt14]; exact rfl) k_7
/-! SM_step -/
theorem bk15_0 {a0 : Nat} {x1 : Int32} {x2 : Int32} {b2 : Nat} {P_4 : Int32 → av_St → Prop} (t_1 : S.1 a0 = some (.inl 0)) (f_3 : S.2.1 a0 8 = .ref b2) (t_7 : S.1 b2 = some (.inl 3)) (m_8 : cti ext d 38 [.ref b2, .int x1, .int x2] S P_4) (k_9 : ∀ v_6 S_5, P_4 v_6 S_5 → aw ext (d + 1) 15 9 [some (.ref a0), some (.int x1), some (.int x2)] [.int v_6] S_5 Q) : aw ext (d + 1) 15 0 [some (.ref a0), some (.int x1), some (.int x2)] [] S Q := by
  refine aw_ald j15_0 rfl rfl ?_
  refine aw_get j15_1 t_1 f_3 ?_
  refine aw_ild j15_4 rfl ?_
  refine aw_ild j15_5 rfl ?_
  exact aw_calli (as := [.ref b2, .int x1, .int x2]) j15_6 rfl rfl (Nat.le_of_ble_eq_true rfl) cy38.1 cy38.2 (cs_cons rfl (cs_cons rfl (cs_cons rfl cs_nil))) (decide_eq_true t_7) m_8 k_9
theorem bk15_9 {r0 : Option Nat} {x1 : Int32} {x2 : Int32} {xk0 : Int32}  (k_1 : Q (some (.int xk0)) S) : aw ext d 15 9 [some (va_rf r0), some (.int x1), some (.int x2)] [.int xk0] S Q := by
  exact aw_ret j15_9 (by rw [rt15]; exact rfl) k_1
/-! SM_check -/
theorem bk16_0 {a0 : Nat} {x1 : Int32} {o2 : Option Value} {o3 : Option Value} {o4 : Option Value} {P_1 : Option Nat → av_St → Prop} (t_4 : S.1 a0 = some (.inl 0)) (m_5 : ctr ext d 7 [.ref a0, .int x1] S P_1) (k_6 : ∀ v_3 S_2, P_1 v_3 S_2 → aw ext (d + 1) 16 5 [some (.ref a0), some (.int x1), o2, o3, o4] [va_rf v_3] S_2 Q) : aw ext (d + 1) 16 0 [some (.ref a0), some (.int x1), o2, o3, o4] [] S Q := by
  refine aw_ald j16_0 rfl rfl ?_
  refine aw_ild j16_1 rfl ?_
  exact aw_callr (as := [.ref a0, .int x1]) j16_2 rfl rfl (Nat.le_of_ble_eq_true rfl) cy7.1 cy7.2 (cs_cons rfl (cs_cons rfl cs_nil)) (decide_eq_true t_4) m_5 k_6
theorem bk16_5 {r0 : Option Nat} {x1 : Int32} {o2 : Option Value} {o3 : Option Value} {o4 : Option Value} {rk0 : Option Nat}  (k_2 : rk0 = none → aw ext d 16 10 [some (va_rf r0), some (.int x1), some (va_rf rk0), o3, o4] [] S Q) (k_3 : ∀ c_1, rk0 = some c_1 → aw ext d 16 12 [some (va_rf r0), some (.int x1), some (va_rf rk0), o3, o4] [] S Q) : aw ext d 16 5 [some (va_rf r0), some (.int x1), o2, o3, o4] [va_rf rk0] S Q := by
  refine aw_ast j16_5 (av_isR_rf rk0) (Nat.le_of_ble_eq_true rfl) ?_
  refine aw_ald j16_6 rfl (av_isR_rf rk0) ?_
  exact aw_nonn (r := rk0) j16_7 k_2 k_3
theorem bk16_10 {r0 : Option Nat} {x1 : Int32} {r2 : Option Nat} {o3 : Option Value} {o4 : Option Value}  (k_1 : Q (some (.int (-1 : Int32))) S) : aw ext d 16 10 [some (va_rf r0), some (.int x1), some (va_rf r2), o3, o4] [] S Q := by
  refine aw_con j16_10 ?_
  exact aw_ret j16_11 (by rw [rt16]; exact rfl) k_1
theorem bk16_12 {a0 : Nat} {x1 : Int32} {r2 : Option Nat} {o3 : Option Value} {o4 : Option Value} {b2 : Nat} (t_1 : S.1 a0 = some (.inl 0)) (f_3 : S.2.1 a0 9 = .ref b2) (t_4 : S.1 b2 = some (.inl 4)) (k_5 : aw ext d 16 22 [some (.ref a0), some (.int x1), some (va_rf r2), some (.int (0 : Int32)), o4] [] (av_set S b2 2 (.int (0 : Int32))) Q) : aw ext d 16 12 [some (.ref a0), some (.int x1), some (va_rf r2), o3, o4] [] S Q := by
  refine aw_ald j16_12 rfl rfl ?_
  refine aw_get j16_13 t_1 f_3 ?_
  refine aw_con j16_16 ?_
  refine aw_put j16_17 t_4 rfl ?_
  refine aw_con j16_20 ?_
  refine aw_ist j16_21 (Nat.le_of_ble_eq_true rfl) ?_
  exact k_5
theorem bk16_22 {a0 : Nat} {x1 : Int32} {r2 : Option Nat} {x3 : Int32} {o4 : Option Value} {y2 : Int32} (t_1 : S.1 a0 = some (.inl 0)) (f_3 : S.2.1 a0 5 = .int y2) (k_4 : (y2 ≤ x3) → aw ext d 16 64 [some (.ref a0), some (.int x1), some (va_rf r2), some (.int x3), o4] [] S Q) (k_5 : (¬ (y2 ≤ x3)) → aw ext d 16 30 [some (.ref a0), some (.int x1), some (va_rf r2), some (.int x3), o4] [] S Q) : aw ext d 16 22 [some (.ref a0), some (.int x1), some (va_rf r2), some (.int x3), o4] [] S Q := by
  refine aw_ild j16_22 rfl ?_
  refine aw_ald j16_23 rfl rfl ?_
  refine aw_get j16_24 t_1 f_3 ?_
  exact aw_ic j16_27 (fun h => k_4 (of_decide_eq_true h)) (fun h => k_5 (of_decide_eq_false h))
theorem bk16_30 {a0 : Nat} {x1 : Int32} {r2 : Option Nat} {x3 : Int32} {o4 : Option Value} {b2 : Nat} {n_4 : Nat} {i_7 : Nat} {q10 : Option Nat} (t_1 : S.1 a0 = some (.inl 0)) (f_3 : S.2.1 a0 4 = .ref b2) (t_5 : S.1 b2 = some (.inr (7, n_4))) (b_6 : n_4 < 2147483648) (e_8 : x3 = nI i_7) (c_9 : i_7 < n_4) (f_11 : S.2.1 b2 i_7 = va_rf q10) (k_13 : q10 = none → aw ext d 16 58 [some (.ref a0), some (.int x1), some (va_rf r2), some (.int x3), some (va_rf q10)] [] S Q) (k_14 : ∀ c_12, q10 = some c_12 → aw ext d 16 43 [some (.ref a0), some (.int x1), some (va_rf r2), some (.int x3), some (va_rf q10)] [] S Q) : aw ext d 16 30 [some (.ref a0), some (.int x1), some (va_rf r2), some (.int x3), o4] [] S Q := by
  refine aw_ald j16_30 rfl rfl ?_
  refine aw_get j16_31 t_1 f_3 ?_
  refine aw_ild j16_34 rfl ?_
  refine aw_xld j16_35 t_5 e_8 c_9 b_6 f_11 ?_
  refine aw_ast j16_36 (av_isR_rf q10) (Nat.le_of_ble_eq_true rfl) ?_
  refine aw_ald j16_38 rfl (av_isR_rf q10) ?_
  exact aw_null (r := q10) j16_40 k_13 k_14
theorem bk16_43 {r0 : Option Nat} {x1 : Int32} {r2 : Option Nat} {x3 : Int32} {a4 : Nat} {y2 : Int32} (t_1 : S.1 a4 = some (.inl 8)) (f_3 : S.2.1 a4 1 = .int y2) (k_4 : (¬ y2 = x1) → aw ext d 16 58 [some (va_rf r0), some (.int x1), some (va_rf r2), some (.int x3), some (.ref a4)] [] S Q) (k_5 : (y2 = x1) → aw ext d 16 52 [some (va_rf r0), some (.int x1), some (va_rf r2), some (.int x3), some (.ref a4)] [] S Q) : aw ext d 16 43 [some (va_rf r0), some (.int x1), some (va_rf r2), some (.int x3), some (.ref a4)] [] S Q := by
  refine aw_ald j16_43 rfl rfl ?_
  refine aw_get j16_45 t_1 f_3 ?_
  refine aw_ild j16_48 rfl ?_
  exact aw_ic j16_49 (fun h => k_4 (of_decide_eq_true h)) (fun h => k_5 (Decidable.of_not_not (of_decide_eq_false h)))
theorem bk16_52 {a0 : Nat} {x1 : Int32} {r2 : Option Nat} {x3 : Int32} {r4 : Option Nat} {P_1 : av_St → Prop} (t_4 : S.1 a0 = some (.inl 0)) (m_5 : ctv ext d 17 [.ref a0, va_rf r4] S P_1) (k_6 : ∀ S_2, P_1 S_2 → aw ext (d + 1) 16 58 [some (.ref a0), some (.int x1), some (va_rf r2), some (.int x3), some (va_rf r4)] [] S_2 Q) : aw ext (d + 1) 16 52 [some (.ref a0), some (.int x1), some (va_rf r2), some (.int x3), some (va_rf r4)] [] S Q := by
  refine aw_ald j16_52 rfl rfl ?_
  refine aw_ald j16_53 rfl (av_isR_rf r4) ?_
  exact aw_callv (as := [.ref a0, va_rf r4]) j16_55 rfl rfl (Nat.le_of_ble_eq_true rfl) cy17.1 cy17.2 (cs_cons rfl (cs_cons (av_cat_rf r4) cs_nil)) (decide_eq_true t_4) m_5 k_6
theorem bk16_58 {r0 : Option Nat} {x1 : Int32} {r2 : Option Nat} {x3 : Int32} {r4 : Option Nat}  (k_1 : aw ext d 16 22 [some (va_rf r0), some (.int x1), some (va_rf r2), some (.int (x3 + 1)), some (va_rf r4)] [] S Q) : aw ext d 16 58 [some (va_rf r0), some (.int x1), some (va_rf r2), some (.int x3), some (va_rf r4)] [] S Q := by
  refine aw_inc j16_58 rfl ?_
  exact aw_goto j16_61 k_1
theorem bk16_64 {r0 : Option Nat} {x1 : Int32} {a2 : Nat} {x3 : Int32} {o4 : Option Value} {y2 : Int32} (t_1 : S.1 a2 = some (.inl 7)) (f_3 : S.2.1 a2 0 = .int y2) (k_4 : (¬ y2 = 0) → aw ext d 16 108 [some (va_rf r0), some (.int x1), some (.ref a2), some (.int x3), o4] [] S Q) (k_5 : (y2 = 0) → aw ext d 16 71 [some (va_rf r0), some (.int x1), some (.ref a2), some (.int x3), o4] [] S Q) : aw ext d 16 64 [some (va_rf r0), some (.int x1), some (.ref a2), some (.int x3), o4] [] S Q := by
  refine aw_ald j16_64 rfl rfl ?_
  refine aw_get j16_65 t_1 f_3 ?_
  exact aw_if j16_68 (fun h => k_4 (of_decide_eq_true h)) (fun h => k_5 (Decidable.of_not_not (of_decide_eq_false h)))
theorem bk16_71 {a0 : Nat} {x1 : Int32} {a2 : Nat} {x3 : Int32} {o4 : Option Value} {b2 : Nat} {q5 : Option Nat} {P_7 : av_St → Prop} (t_1 : S.1 a0 = some (.inl 0)) (f_3 : S.2.1 a0 7 = .ref b2) (t_4 : S.1 a2 = some (.inl 7)) (f_6 : S.2.1 a2 1 = va_rf q5) (t_10 : S.1 b2 = some (.inl 2)) (m_11 : ctv ext d 30 [.ref b2, va_rf q5] S P_7) (k_12 : ∀ S_8, P_7 S_8 → aw ext (d + 1) 16 82 [some (.ref a0), some (.int x1), some (.ref a2), some (.int x3), o4] [] S_8 Q) : aw ext (d + 1) 16 71 [some (.ref a0), some (.int x1), some (.ref a2), some (.int x3), o4] [] S Q := by
  refine aw_ald j16_71 rfl rfl ?_
  refine aw_get j16_72 t_1 f_3 ?_
  refine aw_ald j16_75 rfl rfl ?_
  refine aw_get j16_76 t_4 f_6 ?_
  exact aw_callv (as := [.ref b2, va_rf q5]) j16_79 rfl rfl (Nat.le_of_ble_eq_true rfl) cy30.1 cy30.2 (cs_cons rfl (cs_cons (av_cat_rf q5) cs_nil)) (decide_eq_true t_10) m_11 k_12
theorem bk16_82 {r0 : Option Nat} {x1 : Int32} {r2 : Option Nat} {x3 : Int32} {o4 : Option Value}  (k_1 : aw ext d 16 84 [some (va_rf r0), some (.int x1), some (va_rf r2), some (.int (0 : Int32)), o4] [] S Q) : aw ext d 16 82 [some (va_rf r0), some (.int x1), some (va_rf r2), some (.int x3), o4] [] S Q := by
  refine aw_con j16_82 ?_
  refine aw_ist j16_83 (Nat.le_of_ble_eq_true rfl) ?_
  exact k_1
theorem bk16_84 {a0 : Nat} {x1 : Int32} {r2 : Option Nat} {x3 : Int32} {o4 : Option Value} {y2 : Int32} (t_1 : S.1 a0 = some (.inl 0)) (f_3 : S.2.1 a0 1 = .int y2) (k_4 : (y2 ≤ x3) → aw ext d 16 108 [some (.ref a0), some (.int x1), some (va_rf r2), some (.int x3), o4] [] S Q) (k_5 : (¬ (y2 ≤ x3)) → aw ext d 16 92 [some (.ref a0), some (.int x1), some (va_rf r2), some (.int x3), o4] [] S Q) : aw ext d 16 84 [some (.ref a0), some (.int x1), some (va_rf r2), some (.int x3), o4] [] S Q := by
  refine aw_ild j16_84 rfl ?_
  refine aw_ald j16_85 rfl rfl ?_
  refine aw_get j16_86 t_1 f_3 ?_
  exact aw_ic j16_89 (fun h => k_4 (of_decide_eq_true h)) (fun h => k_5 (of_decide_eq_false h))
theorem bk16_92 {a0 : Nat} {x1 : Int32} {r2 : Option Nat} {x3 : Int32} {o4 : Option Value} {b2 : Nat} {n_4 : Nat} {i_7 : Nat} {q10 : Option Nat} {P_12 : av_St → Prop} (t_1 : S.1 a0 = some (.inl 0)) (f_3 : S.2.1 a0 0 = .ref b2) (t_5 : S.1 b2 = some (.inr (5, n_4))) (b_6 : n_4 < 2147483648) (e_8 : x3 = nI i_7) (c_9 : i_7 < n_4) (f_11 : S.2.1 b2 i_7 = va_rf q10) (m_15 : ctv ext d 18 [.ref a0, va_rf q10] S P_12) (k_16 : ∀ S_13, P_12 S_13 → aw ext (d + 1) 16 102 [some (.ref a0), some (.int x1), some (va_rf r2), some (.int x3), o4] [] S_13 Q) : aw ext (d + 1) 16 92 [some (.ref a0), some (.int x1), some (va_rf r2), some (.int x3), o4] [] S Q := by
  refine aw_ald j16_92 rfl rfl ?_
  refine aw_ald j16_93 rfl rfl ?_
  refine aw_get j16_94 t_1 f_3 ?_
  refine aw_ild j16_97 rfl ?_
  refine aw_xld j16_98 t_5 e_8 c_9 b_6 f_11 ?_
  exact aw_callv (as := [.ref a0, va_rf q10]) j16_99 rfl rfl (Nat.le_of_ble_eq_true rfl) cy18.1 cy18.2 (cs_cons rfl (cs_cons (av_cat_rf q10) cs_nil)) (decide_eq_true t_1) m_15 k_16
theorem bk16_102 {r0 : Option Nat} {x1 : Int32} {r2 : Option Nat} {x3 : Int32} {o4 : Option Value}  (k_1 : aw ext d 16 84 [some (va_rf r0), some (.int x1), some (va_rf r2), some (.int (x3 + 1)), o4] [] S Q) : aw ext d 16 102 [some (va_rf r0), some (.int x1), some (va_rf r2), some (.int x3), o4] [] S Q := by
  refine aw_inc j16_102 rfl ?_
  exact aw_goto j16_105 k_1
theorem bk16_108 {a0 : Nat} {x1 : Int32} {r2 : Option Nat} {x3 : Int32} {o4 : Option Value} {b2 : Nat} {y5 : Int32} (t_1 : S.1 a0 = some (.inl 0)) (f_3 : S.2.1 a0 9 = .ref b2) (t_4 : S.1 b2 = some (.inl 4)) (f_6 : S.2.1 b2 2 = .int y5) (k_7 : Q (some (.int y5)) S) : aw ext d 16 108 [some (.ref a0), some (.int x1), some (va_rf r2), some (.int x3), o4] [] S Q := by
  refine aw_ald j16_108 rfl rfl ?_
  refine aw_get j16_109 t_1 f_3 ?_
  refine aw_get j16_112 t_4 f_6 ?_
  exact aw_ret j16_115 (by rw [rt16]; exact rfl) k_7
/-! SM_addFaultsOfDivision -/
theorem bk17_0 {r0 : Option Nat} {a1 : Nat} {P_1 : Int32 → av_St → Prop} (t_4 : S.1 a1 = some (.inl 8)) (m_5 : cti ext d 53 [.ref a1] S P_1) (k_6 : ∀ v_3 S_2, P_1 v_3 S_2 → aw ext (d + 1) 17 4 [some (va_rf r0), some (.ref a1)] [.int v_3] S_2 Q) : aw ext (d + 1) 17 0 [some (va_rf r0), some (.ref a1)] [] S Q := by
  refine aw_ald j17_0 rfl rfl ?_
  exact aw_calli (as := [.ref a1]) j17_1 rfl rfl (Nat.le_of_ble_eq_true rfl) cy53.1 cy53.2 (cs_cons rfl cs_nil) (decide_eq_true t_4) m_5 k_6
theorem bk17_4 {r0 : Option Nat} {r1 : Option Nat} {xk0 : Int32}  (k_1 : (xk0 = 0) → aw ext d 17 19 [some (va_rf r0), some (va_rf r1)] [] S Q) (k_2 : (¬ (xk0 = 0)) → aw ext d 17 7 [some (va_rf r0), some (va_rf r1)] [] S Q) : aw ext d 17 4 [some (va_rf r0), some (va_rf r1)] [.int xk0] S Q := by
  exact aw_if j17_4 (fun h => k_1 (of_decide_eq_true h)) (fun h => k_2 (of_decide_eq_false h))
theorem bk17_7 {a0 : Nat} {a1 : Nat} {b2 : Nat} {y5 : Int32} {P_7 : av_St → Prop} (t_1 : S.1 a0 = some (.inl 0)) (f_3 : S.2.1 a0 9 = .ref b2) (t_4 : S.1 a1 = some (.inl 8)) (f_6 : S.2.1 a1 0 = .int y5) (t_10 : S.1 b2 = some (.inl 4)) (m_11 : ctv ext d 40 [.ref b2, .int (1 : Int32), .int y5] S P_7) (k_12 : ∀ S_8, P_7 S_8 → aw ext (d + 1) 17 19 [some (.ref a0), some (.ref a1)] [] S_8 Q) : aw ext (d + 1) 17 7 [some (.ref a0), some (.ref a1)] [] S Q := by
  refine aw_ald j17_7 rfl rfl ?_
  refine aw_get j17_8 t_1 f_3 ?_
  refine aw_con j17_11 ?_
  refine aw_ald j17_12 rfl rfl ?_
  refine aw_get j17_13 t_4 f_6 ?_
  exact aw_callv (as := [.ref b2, .int (1 : Int32), .int y5]) j17_16 rfl rfl (Nat.le_of_ble_eq_true rfl) cy40.1 cy40.2 (cs_cons rfl (cs_cons rfl (cs_cons rfl cs_nil))) (decide_eq_true t_10) m_11 k_12
theorem bk17_19 {r0 : Option Nat} {a1 : Nat} {P_1 : Int32 → av_St → Prop} (t_4 : S.1 a1 = some (.inl 8)) (m_5 : cti ext d 56 [.ref a1] S P_1) (k_6 : ∀ v_3 S_2, P_1 v_3 S_2 → aw ext (d + 1) 17 23 [some (va_rf r0), some (.ref a1)] [.int v_3] S_2 Q) : aw ext (d + 1) 17 19 [some (va_rf r0), some (.ref a1)] [] S Q := by
  refine aw_ald j17_19 rfl rfl ?_
  exact aw_calli (as := [.ref a1]) j17_20 rfl rfl (Nat.le_of_ble_eq_true rfl) cy56.1 cy56.2 (cs_cons rfl cs_nil) (decide_eq_true t_4) m_5 k_6
theorem bk17_23 {r0 : Option Nat} {r1 : Option Nat} {xk0 : Int32}  (k_1 : (xk0 = 0) → aw ext d 17 38 [some (va_rf r0), some (va_rf r1)] [] S Q) (k_2 : (¬ (xk0 = 0)) → aw ext d 17 26 [some (va_rf r0), some (va_rf r1)] [] S Q) : aw ext d 17 23 [some (va_rf r0), some (va_rf r1)] [.int xk0] S Q := by
  exact aw_if j17_23 (fun h => k_1 (of_decide_eq_true h)) (fun h => k_2 (of_decide_eq_false h))
theorem bk17_26 {a0 : Nat} {a1 : Nat} {b2 : Nat} {y5 : Int32} {P_7 : av_St → Prop} (t_1 : S.1 a0 = some (.inl 0)) (f_3 : S.2.1 a0 9 = .ref b2) (t_4 : S.1 a1 = some (.inl 8)) (f_6 : S.2.1 a1 0 = .int y5) (t_10 : S.1 b2 = some (.inl 4)) (m_11 : ctv ext d 40 [.ref b2, .int (2 : Int32), .int y5] S P_7) (k_12 : ∀ S_8, P_7 S_8 → aw ext (d + 1) 17 38 [some (.ref a0), some (.ref a1)] [] S_8 Q) : aw ext (d + 1) 17 26 [some (.ref a0), some (.ref a1)] [] S Q := by
  refine aw_ald j17_26 rfl rfl ?_
  refine aw_get j17_27 t_1 f_3 ?_
  refine aw_con j17_30 ?_
  refine aw_ald j17_31 rfl rfl ?_
  refine aw_get j17_32 t_4 f_6 ?_
  exact aw_callv (as := [.ref b2, .int (2 : Int32), .int y5]) j17_35 rfl rfl (Nat.le_of_ble_eq_true rfl) cy40.1 cy40.2 (cs_cons rfl (cs_cons rfl (cs_cons rfl cs_nil))) (decide_eq_true t_10) m_11 k_12
theorem bk17_38 {r0 : Option Nat} {a1 : Nat} {P_1 : Int32 → av_St → Prop} (t_4 : S.1 a1 = some (.inl 8)) (m_5 : cti ext d 57 [.ref a1] S P_1) (k_6 : ∀ v_3 S_2, P_1 v_3 S_2 → aw ext (d + 1) 17 42 [some (va_rf r0), some (.ref a1)] [.int v_3] S_2 Q) : aw ext (d + 1) 17 38 [some (va_rf r0), some (.ref a1)] [] S Q := by
  refine aw_ald j17_38 rfl rfl ?_
  exact aw_calli (as := [.ref a1]) j17_39 rfl rfl (Nat.le_of_ble_eq_true rfl) cy57.1 cy57.2 (cs_cons rfl cs_nil) (decide_eq_true t_4) m_5 k_6
theorem bk17_42 {r0 : Option Nat} {r1 : Option Nat} {xk0 : Int32}  (k_1 : (xk0 = 0) → aw ext d 17 57 [some (va_rf r0), some (va_rf r1)] [] S Q) (k_2 : (¬ (xk0 = 0)) → aw ext d 17 45 [some (va_rf r0), some (va_rf r1)] [] S Q) : aw ext d 17 42 [some (va_rf r0), some (va_rf r1)] [.int xk0] S Q := by
  exact aw_if j17_42 (fun h => k_1 (of_decide_eq_true h)) (fun h => k_2 (of_decide_eq_false h))
theorem bk17_45 {a0 : Nat} {a1 : Nat} {b2 : Nat} {y5 : Int32} {P_7 : av_St → Prop} (t_1 : S.1 a0 = some (.inl 0)) (f_3 : S.2.1 a0 9 = .ref b2) (t_4 : S.1 a1 = some (.inl 8)) (f_6 : S.2.1 a1 0 = .int y5) (t_10 : S.1 b2 = some (.inl 4)) (m_11 : ctv ext d 40 [.ref b2, .int (3 : Int32), .int y5] S P_7) (k_12 : ∀ S_8, P_7 S_8 → aw ext (d + 1) 17 57 [some (.ref a0), some (.ref a1)] [] S_8 Q) : aw ext (d + 1) 17 45 [some (.ref a0), some (.ref a1)] [] S Q := by
  refine aw_ald j17_45 rfl rfl ?_
  refine aw_get j17_46 t_1 f_3 ?_
  refine aw_con j17_49 ?_
  refine aw_ald j17_50 rfl rfl ?_
  refine aw_get j17_51 t_4 f_6 ?_
  exact aw_callv (as := [.ref b2, .int (3 : Int32), .int y5]) j17_54 rfl rfl (Nat.le_of_ble_eq_true rfl) cy40.1 cy40.2 (cs_cons rfl (cs_cons rfl (cs_cons rfl cs_nil))) (decide_eq_true t_10) m_11 k_12
theorem bk17_57 {r0 : Option Nat} {r1 : Option Nat}  (k_1 : Q none S) : aw ext d 17 57 [some (va_rf r0), some (va_rf r1)] [] S Q := by
  exact aw_vret j17_57 rt17 k_1
/-! SM_addFaultsOfFile -/
theorem bk18_0 {r0 : Option Nat} {r1 : Option Nat}  (k_2 : r1 = none → aw ext d 18 4 [some (va_rf r0), some (va_rf r1)] [] S Q) (k_3 : ∀ c_1, r1 = some c_1 → aw ext d 18 5 [some (va_rf r0), some (va_rf r1)] [] S Q) : aw ext d 18 0 [some (va_rf r0), some (va_rf r1)] [] S Q := by
  refine aw_ald j18_0 rfl (av_isR_rf r1) ?_
  exact aw_nonn (r := r1) j18_1 k_2 k_3
theorem bk18_4 {r0 : Option Nat} {r1 : Option Nat}  (k_1 : Q none S) : aw ext d 18 4 [some (va_rf r0), some (va_rf r1)] [] S Q := by
  exact aw_vret j18_4 rt18 k_1
theorem bk18_5 {a0 : Nat} {a1 : Nat} {b2 : Nat} {q5 : Option Nat} {P_7 : Int32 → av_St → Prop} (t_1 : S.1 a0 = some (.inl 0)) (f_3 : S.2.1 a0 7 = .ref b2) (t_4 : S.1 b2 = some (.inl 2)) (f_6 : S.2.1 b2 3 = va_rf q5) (t_10 : S.1 a1 = some (.inl 6)) (m_11 : cti ext d 47 [.ref a1, va_rf q5] S P_7) (k_12 : ∀ v_9 S_8, P_7 v_9 S_8 → aw ext (d + 1) 18 16 [some (.ref a0), some (.ref a1)] [.int v_9] S_8 Q) : aw ext (d + 1) 18 5 [some (.ref a0), some (.ref a1)] [] S Q := by
  refine aw_ald j18_5 rfl rfl ?_
  refine aw_ald j18_6 rfl rfl ?_
  refine aw_get j18_7 t_1 f_3 ?_
  refine aw_get j18_10 t_4 f_6 ?_
  exact aw_calli (as := [.ref a1, va_rf q5]) j18_13 rfl rfl (Nat.le_of_ble_eq_true rfl) cy47.1 cy47.2 (cs_cons rfl (cs_cons (av_cat_rf q5) cs_nil)) (decide_eq_true t_10) m_11 k_12
theorem bk18_16 {r0 : Option Nat} {r1 : Option Nat} {xk0 : Int32}  (k_1 : (xk0 = 0) → aw ext d 18 31 [some (va_rf r0), some (va_rf r1)] [] S Q) (k_2 : (¬ (xk0 = 0)) → aw ext d 18 19 [some (va_rf r0), some (va_rf r1)] [] S Q) : aw ext d 18 16 [some (va_rf r0), some (va_rf r1)] [.int xk0] S Q := by
  exact aw_if j18_16 (fun h => k_1 (of_decide_eq_true h)) (fun h => k_2 (of_decide_eq_false h))
theorem bk18_19 {a0 : Nat} {a1 : Nat} {b2 : Nat} {y5 : Int32} {P_7 : av_St → Prop} (t_1 : S.1 a0 = some (.inl 0)) (f_3 : S.2.1 a0 9 = .ref b2) (t_4 : S.1 a1 = some (.inl 6)) (f_6 : S.2.1 a1 0 = .int y5) (t_10 : S.1 b2 = some (.inl 4)) (m_11 : ctv ext d 40 [.ref b2, .int (4 : Int32), .int y5] S P_7) (k_12 : ∀ S_8, P_7 S_8 → aw ext (d + 1) 18 31 [some (.ref a0), some (.ref a1)] [] S_8 Q) : aw ext (d + 1) 18 19 [some (.ref a0), some (.ref a1)] [] S Q := by
  refine aw_ald j18_19 rfl rfl ?_
  refine aw_get j18_20 t_1 f_3 ?_
  refine aw_con j18_23 ?_
  refine aw_ald j18_24 rfl rfl ?_
  refine aw_get j18_25 t_4 f_6 ?_
  exact aw_callv (as := [.ref b2, .int (4 : Int32), .int y5]) j18_28 rfl rfl (Nat.le_of_ble_eq_true rfl) cy40.1 cy40.2 (cs_cons rfl (cs_cons rfl (cs_cons rfl cs_nil))) (decide_eq_true t_10) m_11 k_12
theorem bk18_31 {a0 : Nat} {a1 : Nat} {b2 : Nat} {q5 : Option Nat} {P_7 : Int32 → av_St → Prop} (t_1 : S.1 a0 = some (.inl 0)) (f_3 : S.2.1 a0 7 = .ref b2) (t_4 : S.1 b2 = some (.inl 2)) (f_6 : S.2.1 b2 3 = va_rf q5) (t_10 : S.1 a1 = some (.inl 6)) (m_11 : cti ext d 48 [.ref a1, va_rf q5] S P_7) (k_12 : ∀ v_9 S_8, P_7 v_9 S_8 → aw ext (d + 1) 18 42 [some (.ref a0), some (.ref a1)] [.int v_9] S_8 Q) : aw ext (d + 1) 18 31 [some (.ref a0), some (.ref a1)] [] S Q := by
  refine aw_ald j18_31 rfl rfl ?_
  refine aw_ald j18_32 rfl rfl ?_
  refine aw_get j18_33 t_1 f_3 ?_
  refine aw_get j18_36 t_4 f_6 ?_
  exact aw_calli (as := [.ref a1, va_rf q5]) j18_39 rfl rfl (Nat.le_of_ble_eq_true rfl) cy48.1 cy48.2 (cs_cons rfl (cs_cons (av_cat_rf q5) cs_nil)) (decide_eq_true t_10) m_11 k_12
theorem bk18_42 {r0 : Option Nat} {r1 : Option Nat} {xk0 : Int32}  (k_1 : (xk0 = 0) → aw ext d 18 57 [some (va_rf r0), some (va_rf r1)] [] S Q) (k_2 : (¬ (xk0 = 0)) → aw ext d 18 45 [some (va_rf r0), some (va_rf r1)] [] S Q) : aw ext d 18 42 [some (va_rf r0), some (va_rf r1)] [.int xk0] S Q := by
  exact aw_if j18_42 (fun h => k_1 (of_decide_eq_true h)) (fun h => k_2 (of_decide_eq_false h))
theorem bk18_45 {a0 : Nat} {a1 : Nat} {b2 : Nat} {y5 : Int32} {P_7 : av_St → Prop} (t_1 : S.1 a0 = some (.inl 0)) (f_3 : S.2.1 a0 9 = .ref b2) (t_4 : S.1 a1 = some (.inl 6)) (f_6 : S.2.1 a1 0 = .int y5) (t_10 : S.1 b2 = some (.inl 4)) (m_11 : ctv ext d 40 [.ref b2, .int (5 : Int32), .int y5] S P_7) (k_12 : ∀ S_8, P_7 S_8 → aw ext (d + 1) 18 57 [some (.ref a0), some (.ref a1)] [] S_8 Q) : aw ext (d + 1) 18 45 [some (.ref a0), some (.ref a1)] [] S Q := by
  refine aw_ald j18_45 rfl rfl ?_
  refine aw_get j18_46 t_1 f_3 ?_
  refine aw_con j18_49 ?_
  refine aw_ald j18_50 rfl rfl ?_
  refine aw_get j18_51 t_4 f_6 ?_
  exact aw_callv (as := [.ref b2, .int (5 : Int32), .int y5]) j18_54 rfl rfl (Nat.le_of_ble_eq_true rfl) cy40.1 cy40.2 (cs_cons rfl (cs_cons rfl (cs_cons rfl cs_nil))) (decide_eq_true t_10) m_11 k_12
theorem bk18_57 {r0 : Option Nat} {r1 : Option Nat}  (k_1 : Q none S) : aw ext d 18 57 [some (va_rf r0), some (va_rf r1)] [] S Q := by
  exact aw_vret j18_57 rt18 k_1
/-! SM_print -/
theorem bk19_0 {a0 : Nat} {x1 : Int32} {o2 : Option Value} {o3 : Option Value} {o4 : Option Value} {P_1 : Option Nat → av_St → Prop} (t_4 : S.1 a0 = some (.inl 0)) (m_5 : ctr ext d 7 [.ref a0, .int x1] S P_1) (k_6 : ∀ v_3 S_2, P_1 v_3 S_2 → aw ext (d + 1) 19 5 [some (.ref a0), some (.int x1), o2, o3, o4] [va_rf v_3] S_2 Q) : aw ext (d + 1) 19 0 [some (.ref a0), some (.int x1), o2, o3, o4] [] S Q := by
  refine aw_ald j19_0 rfl rfl ?_
  refine aw_ild j19_1 rfl ?_
  exact aw_callr (as := [.ref a0, .int x1]) j19_2 rfl rfl (Nat.le_of_ble_eq_true rfl) cy7.1 cy7.2 (cs_cons rfl (cs_cons rfl cs_nil)) (decide_eq_true t_4) m_5 k_6
theorem bk19_5 {r0 : Option Nat} {x1 : Int32} {o2 : Option Value} {o3 : Option Value} {o4 : Option Value} {rk0 : Option Nat}  (k_2 : rk0 = none → aw ext d 19 10 [some (va_rf r0), some (.int x1), some (va_rf rk0), o3, o4] [] S Q) (k_3 : ∀ c_1, rk0 = some c_1 → aw ext d 19 12 [some (va_rf r0), some (.int x1), some (va_rf rk0), o3, o4] [] S Q) : aw ext d 19 5 [some (va_rf r0), some (.int x1), o2, o3, o4] [va_rf rk0] S Q := by
  refine aw_ast j19_5 (av_isR_rf rk0) (Nat.le_of_ble_eq_true rfl) ?_
  refine aw_ald j19_6 rfl (av_isR_rf rk0) ?_
  exact aw_nonn (r := rk0) j19_7 k_2 k_3
theorem bk19_10 {r0 : Option Nat} {x1 : Int32} {r2 : Option Nat} {o3 : Option Value} {o4 : Option Value}  (k_1 : Q (some (.int (-1 : Int32))) S) : aw ext d 19 10 [some (va_rf r0), some (.int x1), some (va_rf r2), o3, o4] [] S Q := by
  refine aw_con j19_10 ?_
  exact aw_ret j19_11 (by rw [rt19]; exact rfl) k_1
theorem bk19_12 {a0 : Nat} {x1 : Int32} {a2 : Nat} {o3 : Option Value} {o4 : Option Value} {b2 : Nat} {b6 : Nat} {P_8 : Option Nat → av_St → Prop} (t_1 : S.1 a0 = some (.inl 0)) (f_3 : S.2.1 a0 10 = .ref b2) (t_4 : S.1 b2 = some (.inl 5)) (t_5 : (av_set S b2 1 (.int (0 : Int32))).1 a2 = some (.inl 7)) (f_7 : (av_set S b2 1 (.int (0 : Int32))).2.1 a2 1 = .ref b6) (t_11 : (av_set S b2 1 (.int (0 : Int32))).1 b6 = some (.inl 8)) (m_12 : ctr ext d 55 [.ref b6, .ref b6] (av_set S b2 1 (.int (0 : Int32))) P_8) (k_13 : ∀ v_10 S_9, P_8 v_10 S_9 → aw ext (d + 1) 19 31 [some (.ref a0), some (.int x1), some (.ref a2), o3, o4] [va_rf v_10] S_9 Q) : aw ext (d + 1) 19 12 [some (.ref a0), some (.int x1), some (.ref a2), o3, o4] [] S Q := by
  refine aw_ald j19_12 rfl rfl ?_
  refine aw_get j19_13 t_1 f_3 ?_
  refine aw_con j19_16 ?_
  refine aw_put j19_17 t_4 rfl ?_
  refine aw_ald j19_20 rfl rfl ?_
  refine aw_get j19_21 t_5 f_7 ?_
  refine aw_ald j19_24 rfl rfl ?_
  refine aw_get j19_25 t_5 f_7 ?_
  exact aw_callr (as := [.ref b6, .ref b6]) j19_28 rfl rfl (Nat.le_of_ble_eq_true rfl) cy55.1 cy55.2 (cs_cons rfl (cs_cons rfl cs_nil)) (decide_eq_true t_11) m_12 k_13
theorem bk19_31 {r0 : Option Nat} {x1 : Int32} {r2 : Option Nat} {o3 : Option Value} {o4 : Option Value} {rk0 : Option Nat}  (k_1 : aw ext d 19 35 [some (va_rf r0), some (.int x1), some (va_rf r2), some (va_rf rk0), some (.int (0 : Int32))] [] S Q) : aw ext d 19 31 [some (va_rf r0), some (.int x1), some (va_rf r2), o3, o4] [va_rf rk0] S Q := by
  refine aw_ast j19_31 (av_isR_rf rk0) (Nat.le_of_ble_eq_true rfl) ?_
  refine aw_con j19_32 ?_
  refine aw_ist j19_33 (Nat.le_of_ble_eq_true rfl) ?_
  exact k_1
theorem bk19_35 {r0 : Option Nat} {x1 : Int32} {r2 : Option Nat} {r3 : Option Nat} {x4 : Int32}  (k_1 : ((120 : Int32) ≤ x4) → aw ext d 19 69 [some (va_rf r0), some (.int x1), some (va_rf r2), some (va_rf r3), some (.int x4)] [] S Q) (k_2 : (¬ ((120 : Int32) ≤ x4)) → aw ext d 19 42 [some (va_rf r0), some (.int x1), some (va_rf r2), some (va_rf r3), some (.int x4)] [] S Q) : aw ext d 19 35 [some (va_rf r0), some (.int x1), some (va_rf r2), some (va_rf r3), some (.int x4)] [] S Q := by
  refine aw_ild j19_35 rfl ?_
  refine aw_con j19_37 ?_
  exact aw_ic j19_39 (fun h => k_1 (of_decide_eq_true h)) (fun h => k_2 (of_decide_eq_false h))
theorem bk19_42 {r0 : Option Nat} {x1 : Int32} {r2 : Option Nat} {r3 : Option Nat} {x4 : Int32}  (k_2 : r3 = none → aw ext d 19 69 [some (va_rf r0), some (.int x1), some (va_rf r2), some (va_rf r3), some (.int x4)] [] S Q) (k_3 : ∀ c_1, r3 = some c_1 → aw ext d 19 46 [some (va_rf r0), some (.int x1), some (va_rf r2), some (va_rf r3), some (.int x4)] [] S Q) : aw ext d 19 42 [some (va_rf r0), some (.int x1), some (va_rf r2), some (va_rf r3), some (.int x4)] [] S Q := by
  refine aw_ald j19_42 rfl (av_isR_rf r3) ?_
  exact aw_null (r := r3) j19_43 k_2 k_3
theorem bk19_46 {a0 : Nat} {x1 : Int32} {r2 : Option Nat} {r3 : Option Nat} {x4 : Int32} {b2 : Nat} {P_4 : av_St → Prop} (t_1 : S.1 a0 = some (.inl 0)) (f_3 : S.2.1 a0 10 = .ref b2) (t_7 : S.1 b2 = some (.inl 5)) (m_8 : ctv ext d 42 [.ref b2, va_rf r3] S P_4) (k_9 : ∀ S_5, P_4 S_5 → aw ext (d + 1) 19 54 [some (.ref a0), some (.int x1), some (va_rf r2), some (va_rf r3), some (.int x4)] [] S_5 Q) : aw ext (d + 1) 19 46 [some (.ref a0), some (.int x1), some (va_rf r2), some (va_rf r3), some (.int x4)] [] S Q := by
  refine aw_ald j19_46 rfl rfl ?_
  refine aw_get j19_47 t_1 f_3 ?_
  refine aw_ald j19_50 rfl (av_isR_rf r3) ?_
  exact aw_callv (as := [.ref b2, va_rf r3]) j19_51 rfl rfl (Nat.le_of_ble_eq_true rfl) cy42.1 cy42.2 (cs_cons rfl (cs_cons (av_cat_rf r3) cs_nil)) (decide_eq_true t_7) m_8 k_9
theorem bk19_54 {r0 : Option Nat} {x1 : Int32} {a2 : Nat} {a3 : Nat} {x4 : Int32} {q2 : Option Nat} {P_4 : Option Nat → av_St → Prop} (t_1 : S.1 a2 = some (.inl 7)) (f_3 : S.2.1 a2 1 = va_rf q2) (t_7 : S.1 a3 = some (.inl 8)) (m_8 : ctr ext d 55 [.ref a3, va_rf q2] S P_4) (k_9 : ∀ v_6 S_5, P_4 v_6 S_5 → aw ext (d + 1) 19 62 [some (va_rf r0), some (.int x1), some (.ref a2), some (.ref a3), some (.int x4)] [va_rf v_6] S_5 Q) : aw ext (d + 1) 19 54 [some (va_rf r0), some (.int x1), some (.ref a2), some (.ref a3), some (.int x4)] [] S Q := by
  refine aw_ald j19_54 rfl rfl ?_
  refine aw_ald j19_55 rfl rfl ?_
  refine aw_get j19_56 t_1 f_3 ?_
  exact aw_callr (as := [.ref a3, va_rf q2]) j19_59 rfl rfl (Nat.le_of_ble_eq_true rfl) cy55.1 cy55.2 (cs_cons rfl (cs_cons (av_cat_rf q2) cs_nil)) (decide_eq_true t_7) m_8 k_9
theorem bk19_62 {r0 : Option Nat} {x1 : Int32} {r2 : Option Nat} {r3 : Option Nat} {x4 : Int32} {rk0 : Option Nat}  (k_1 : aw ext d 19 35 [some (va_rf r0), some (.int x1), some (va_rf r2), some (va_rf rk0), some (.int (x4 + 1))] [] S Q) : aw ext d 19 62 [some (va_rf r0), some (.int x1), some (va_rf r2), some (va_rf r3), some (.int x4)] [va_rf rk0] S Q := by
  refine aw_ast j19_62 (av_isR_rf rk0) (Nat.le_of_ble_eq_true rfl) ?_
  refine aw_inc j19_63 rfl ?_
  exact aw_goto j19_66 k_1
theorem bk19_69 {a0 : Nat} {x1 : Int32} {r2 : Option Nat} {r3 : Option Nat} {x4 : Int32} {b2 : Nat} {y5 : Int32} (t_1 : S.1 a0 = some (.inl 0)) (f_3 : S.2.1 a0 10 = .ref b2) (t_4 : S.1 b2 = some (.inl 5)) (f_6 : S.2.1 b2 1 = .int y5) (k_7 : Q (some (.int y5)) S) : aw ext d 19 69 [some (.ref a0), some (.int x1), some (va_rf r2), some (va_rf r3), some (.int x4)] [] S Q := by
  refine aw_ald j19_69 rfl rfl ?_
  refine aw_get j19_70 t_1 f_3 ?_
  refine aw_get j19_73 t_4 f_6 ?_
  exact aw_ret j19_76 (by rw [rt19]; exact rfl) k_7
/-! SM_at -/
theorem bk20_0 {r0 : Option Nat} {x1 : Int32}  (k_1 : (x1 < 0) → aw ext d 20 15 [some (va_rf r0), some (.int x1)] [] S Q) (k_2 : (¬ (x1 < 0)) → aw ext d 20 4 [some (va_rf r0), some (.int x1)] [] S Q) : aw ext d 20 0 [some (va_rf r0), some (.int x1)] [] S Q := by
  refine aw_ild j20_0 rfl ?_
  exact aw_if j20_1 (fun h => k_1 (of_decide_eq_true h)) (fun h => k_2 (of_decide_eq_false h))
theorem bk20_4 {a0 : Nat} {x1 : Int32} {b2 : Nat} {y5 : Int32} (t_1 : S.1 a0 = some (.inl 0)) (f_3 : S.2.1 a0 10 = .ref b2) (t_4 : S.1 b2 = some (.inl 5)) (f_6 : S.2.1 b2 1 = .int y5) (k_7 : (x1 < y5) → aw ext d 20 17 [some (.ref a0), some (.int x1)] [] S Q) (k_8 : (¬ (x1 < y5)) → aw ext d 20 15 [some (.ref a0), some (.int x1)] [] S Q) : aw ext d 20 4 [some (.ref a0), some (.int x1)] [] S Q := by
  refine aw_ild j20_4 rfl ?_
  refine aw_ald j20_5 rfl rfl ?_
  refine aw_get j20_6 t_1 f_3 ?_
  refine aw_get j20_9 t_4 f_6 ?_
  exact aw_ic j20_12 (fun h => k_7 (of_decide_eq_true h)) (fun h => k_8 (of_decide_eq_false h))
theorem bk20_15 {r0 : Option Nat} {x1 : Int32}  (k_1 : Q (some (.int (-1 : Int32))) S) : aw ext d 20 15 [some (va_rf r0), some (.int x1)] [] S Q := by
  refine aw_con j20_15 ?_
  exact aw_ret j20_16 (by rw [rt20]; exact rfl) k_1
theorem bk20_17 {a0 : Nat} {x1 : Int32} {b2 : Nat} {b5 : Nat} {n_7 : Nat} {i_10 : Nat} {y13 : Int32} (t_1 : S.1 a0 = some (.inl 0)) (f_3 : S.2.1 a0 10 = .ref b2) (t_4 : S.1 b2 = some (.inl 5)) (f_6 : S.2.1 b2 0 = .ref b5) (t_8 : S.1 b5 = some (.inr (1, n_7))) (b_9 : n_7 < 2147483648) (e_11 : x1 = nI i_10) (c_12 : i_10 < n_7) (f_14 : S.2.1 b5 i_10 = .int y13) (k_15 : Q (some (.int y13)) S) : aw ext d 20 17 [some (.ref a0), some (.int x1)] [] S Q := by
  refine aw_ald j20_17 rfl rfl ?_
  refine aw_get j20_18 t_1 f_3 ?_
  refine aw_get j20_21 t_4 f_6 ?_
  refine aw_ild j20_24 rfl ?_
  refine aw_xld j20_25 t_8 e_11 c_12 b_9 f_14 ?_
  exact aw_ret j20_26 (by rw [rt20]; exact rfl) k_15
/-! SM_differ -/
theorem bk21_0 {a0 : Nat} {x1 : Int32} {x2 : Int32} {o3 : Option Value} {o4 : Option Value} {o5 : Option Value} {o6 : Option Value} {o7 : Option Value} {o8 : Option Value} {P_1 : Option Nat → av_St → Prop} (t_4 : S.1 a0 = some (.inl 0)) (m_5 : ctr ext d 7 [.ref a0, .int x1] S P_1) (k_6 : ∀ v_3 S_2, P_1 v_3 S_2 → aw ext (d + 1) 21 5 [some (.ref a0), some (.int x1), some (.int x2), o3, o4, o5, o6, o7, o8] [va_rf v_3] S_2 Q) : aw ext (d + 1) 21 0 [some (.ref a0), some (.int x1), some (.int x2), o3, o4, o5, o6, o7, o8] [] S Q := by
  refine aw_ald j21_0 rfl rfl ?_
  refine aw_ild j21_1 rfl ?_
  exact aw_callr (as := [.ref a0, .int x1]) j21_2 rfl rfl (Nat.le_of_ble_eq_true rfl) cy7.1 cy7.2 (cs_cons rfl (cs_cons rfl cs_nil)) (decide_eq_true t_4) m_5 k_6
theorem bk21_5 {a0 : Nat} {x1 : Int32} {x2 : Int32} {o3 : Option Value} {o4 : Option Value} {o5 : Option Value} {o6 : Option Value} {o7 : Option Value} {o8 : Option Value} {rk0 : Option Nat} {P_1 : Option Nat → av_St → Prop} (t_4 : S.1 a0 = some (.inl 0)) (m_5 : ctr ext d 7 [.ref a0, .int x2] S P_1) (k_6 : ∀ v_3 S_2, P_1 v_3 S_2 → aw ext (d + 1) 21 11 [some (.ref a0), some (.int x1), some (.int x2), some (va_rf rk0), o4, o5, o6, o7, o8] [va_rf v_3] S_2 Q) : aw ext (d + 1) 21 5 [some (.ref a0), some (.int x1), some (.int x2), o3, o4, o5, o6, o7, o8] [va_rf rk0] S Q := by
  refine aw_ast j21_5 (av_isR_rf rk0) (Nat.le_of_ble_eq_true rfl) ?_
  refine aw_ald j21_6 rfl rfl ?_
  refine aw_ild j21_7 rfl ?_
  exact aw_callr (as := [.ref a0, .int x2]) j21_8 rfl rfl (Nat.le_of_ble_eq_true rfl) cy7.1 cy7.2 (cs_cons rfl (cs_cons rfl cs_nil)) (decide_eq_true t_4) m_5 k_6
theorem bk21_11 {r0 : Option Nat} {x1 : Int32} {x2 : Int32} {r3 : Option Nat} {o4 : Option Value} {o5 : Option Value} {o6 : Option Value} {o7 : Option Value} {o8 : Option Value} {rk0 : Option Nat}  (k_2 : r3 = none → aw ext d 21 22 [some (va_rf r0), some (.int x1), some (.int x2), some (va_rf r3), some (va_rf rk0), o5, o6, o7, o8] [] S Q) (k_3 : ∀ c_1, r3 = some c_1 → aw ext d 21 17 [some (va_rf r0), some (.int x1), some (.int x2), some (va_rf r3), some (va_rf rk0), o5, o6, o7, o8] [] S Q) : aw ext d 21 11 [some (va_rf r0), some (.int x1), some (.int x2), some (va_rf r3), o4, o5, o6, o7, o8] [va_rf rk0] S Q := by
  refine aw_ast j21_11 (av_isR_rf rk0) (Nat.le_of_ble_eq_true rfl) ?_
  refine aw_ald j21_13 rfl (av_isR_rf r3) ?_
  exact aw_null (r := r3) j21_14 k_2 k_3
theorem bk21_17 {r0 : Option Nat} {x1 : Int32} {x2 : Int32} {r3 : Option Nat} {r4 : Option Nat} {o5 : Option Value} {o6 : Option Value} {o7 : Option Value} {o8 : Option Value}  (k_2 : r4 = none → aw ext d 21 22 [some (va_rf r0), some (.int x1), some (.int x2), some (va_rf r3), some (va_rf r4), o5, o6, o7, o8] [] S Q) (k_3 : ∀ c_1, r4 = some c_1 → aw ext d 21 24 [some (va_rf r0), some (.int x1), some (.int x2), some (va_rf r3), some (va_rf r4), o5, o6, o7, o8] [] S Q) : aw ext d 21 17 [some (va_rf r0), some (.int x1), some (.int x2), some (va_rf r3), some (va_rf r4), o5, o6, o7, o8] [] S Q := by
  refine aw_ald j21_17 rfl (av_isR_rf r4) ?_
  exact aw_nonn (r := r4) j21_19 k_2 k_3
theorem bk21_22 {r0 : Option Nat} {x1 : Int32} {x2 : Int32} {r3 : Option Nat} {r4 : Option Nat} {o5 : Option Value} {o6 : Option Value} {o7 : Option Value} {o8 : Option Value}  (k_1 : Q (some (.int (-1 : Int32))) S) : aw ext d 21 22 [some (va_rf r0), some (.int x1), some (.int x2), some (va_rf r3), some (va_rf r4), o5, o6, o7, o8] [] S Q := by
  refine aw_con j21_22 ?_
  exact aw_ret j21_23 (by rw [rt21]; exact rfl) k_1
theorem bk21_24 {r0 : Option Nat} {x1 : Int32} {x2 : Int32} {a3 : Nat} {r4 : Option Nat} {o5 : Option Value} {o6 : Option Value} {o7 : Option Value} {o8 : Option Value} {b2 : Nat} {P_4 : Option Nat → av_St → Prop} (t_1 : S.1 a3 = some (.inl 7)) (f_3 : S.2.1 a3 1 = .ref b2) (t_7 : S.1 b2 = some (.inl 8)) (m_8 : ctr ext d 55 [.ref b2, .ref b2] S P_4) (k_9 : ∀ v_6 S_5, P_4 v_6 S_5 → aw ext (d + 1) 21 35 [some (va_rf r0), some (.int x1), some (.int x2), some (.ref a3), some (va_rf r4), o5, o6, o7, o8] [va_rf v_6] S_5 Q) : aw ext (d + 1) 21 24 [some (va_rf r0), some (.int x1), some (.int x2), some (.ref a3), some (va_rf r4), o5, o6, o7, o8] [] S Q := by
  refine aw_ald j21_24 rfl rfl ?_
  refine aw_get j21_25 t_1 f_3 ?_
  refine aw_ald j21_28 rfl rfl ?_
  refine aw_get j21_29 t_1 f_3 ?_
  exact aw_callr (as := [.ref b2, .ref b2]) j21_32 rfl rfl (Nat.le_of_ble_eq_true rfl) cy55.1 cy55.2 (cs_cons rfl (cs_cons rfl cs_nil)) (decide_eq_true t_7) m_8 k_9
theorem bk21_35 {r0 : Option Nat} {x1 : Int32} {x2 : Int32} {r3 : Option Nat} {a4 : Nat} {o5 : Option Value} {o6 : Option Value} {o7 : Option Value} {o8 : Option Value} {rk0 : Option Nat} {b2 : Nat} {P_4 : Option Nat → av_St → Prop} (t_1 : S.1 a4 = some (.inl 7)) (f_3 : S.2.1 a4 1 = .ref b2) (t_7 : S.1 b2 = some (.inl 8)) (m_8 : ctr ext d 55 [.ref b2, .ref b2] S P_4) (k_9 : ∀ v_6 S_5, P_4 v_6 S_5 → aw ext (d + 1) 21 50 [some (va_rf r0), some (.int x1), some (.int x2), some (va_rf r3), some (.ref a4), some (va_rf rk0), o6, o7, o8] [va_rf v_6] S_5 Q) : aw ext (d + 1) 21 35 [some (va_rf r0), some (.int x1), some (.int x2), some (va_rf r3), some (.ref a4), o5, o6, o7, o8] [va_rf rk0] S Q := by
  refine aw_ast j21_35 (av_isR_rf rk0) (Nat.le_of_ble_eq_true rfl) ?_
  refine aw_ald j21_37 rfl rfl ?_
  refine aw_get j21_39 t_1 f_3 ?_
  refine aw_ald j21_42 rfl rfl ?_
  refine aw_get j21_44 t_1 f_3 ?_
  exact aw_callr (as := [.ref b2, .ref b2]) j21_47 rfl rfl (Nat.le_of_ble_eq_true rfl) cy55.1 cy55.2 (cs_cons rfl (cs_cons rfl cs_nil)) (decide_eq_true t_7) m_8 k_9
theorem bk21_50 {r0 : Option Nat} {x1 : Int32} {x2 : Int32} {r3 : Option Nat} {r4 : Option Nat} {r5 : Option Nat} {o6 : Option Value} {o7 : Option Value} {o8 : Option Value} {rk0 : Option Nat}  (k_1 : aw ext d 21 58 [some (va_rf r0), some (.int x1), some (.int x2), some (va_rf r3), some (va_rf r4), some (va_rf r5), some (va_rf rk0), some (.int (0 : Int32)), some (.int (0 : Int32))] [] S Q) : aw ext d 21 50 [some (va_rf r0), some (.int x1), some (.int x2), some (va_rf r3), some (va_rf r4), some (va_rf r5), o6, o7, o8] [va_rf rk0] S Q := by
  refine aw_ast j21_50 (av_isR_rf rk0) (Nat.le_of_ble_eq_true rfl) ?_
  refine aw_con j21_52 ?_
  refine aw_ist j21_53 (Nat.le_of_ble_eq_true rfl) ?_
  refine aw_con j21_55 ?_
  refine aw_ist j21_56 (Nat.le_of_ble_eq_true rfl) ?_
  exact k_1
theorem bk21_58 {r0 : Option Nat} {x1 : Int32} {x2 : Int32} {r3 : Option Nat} {r4 : Option Nat} {r5 : Option Nat} {r6 : Option Nat} {x7 : Int32} {x8 : Int32}  (k_1 : ((120 : Int32) ≤ x8) → aw ext d 21 135 [some (va_rf r0), some (.int x1), some (.int x2), some (va_rf r3), some (va_rf r4), some (va_rf r5), some (va_rf r6), some (.int x7), some (.int x8)] [] S Q) (k_2 : (¬ ((120 : Int32) ≤ x8)) → aw ext d 21 65 [some (va_rf r0), some (.int x1), some (.int x2), some (va_rf r3), some (va_rf r4), some (va_rf r5), some (va_rf r6), some (.int x7), some (.int x8)] [] S Q) : aw ext d 21 58 [some (va_rf r0), some (.int x1), some (.int x2), some (va_rf r3), some (va_rf r4), some (va_rf r5), some (va_rf r6), some (.int x7), some (.int x8)] [] S Q := by
  refine aw_ild j21_58 rfl ?_
  refine aw_con j21_60 ?_
  exact aw_ic j21_62 (fun h => k_1 (of_decide_eq_true h)) (fun h => k_2 (of_decide_eq_false h))
theorem bk21_65 {r0 : Option Nat} {x1 : Int32} {x2 : Int32} {r3 : Option Nat} {r4 : Option Nat} {r5 : Option Nat} {r6 : Option Nat} {x7 : Int32} {x8 : Int32}  (k_2 : r5 = none → aw ext d 21 70 [some (va_rf r0), some (.int x1), some (.int x2), some (va_rf r3), some (va_rf r4), some (va_rf r5), some (va_rf r6), some (.int x7), some (.int x8)] [] S Q) (k_3 : ∀ c_1, r5 = some c_1 → aw ext d 21 75 [some (va_rf r0), some (.int x1), some (.int x2), some (va_rf r3), some (va_rf r4), some (va_rf r5), some (va_rf r6), some (.int x7), some (.int x8)] [] S Q) : aw ext d 21 65 [some (va_rf r0), some (.int x1), some (.int x2), some (va_rf r3), some (va_rf r4), some (va_rf r5), some (va_rf r6), some (.int x7), some (.int x8)] [] S Q := by
  refine aw_ald j21_65 rfl (av_isR_rf r5) ?_
  exact aw_nonn (r := r5) j21_67 k_2 k_3
theorem bk21_70 {r0 : Option Nat} {x1 : Int32} {x2 : Int32} {r3 : Option Nat} {r4 : Option Nat} {r5 : Option Nat} {r6 : Option Nat} {x7 : Int32} {x8 : Int32}  (k_2 : r6 = none → aw ext d 21 135 [some (va_rf r0), some (.int x1), some (.int x2), some (va_rf r3), some (va_rf r4), some (va_rf r5), some (va_rf r6), some (.int x7), some (.int x8)] [] S Q) (k_3 : ∀ c_1, r6 = some c_1 → aw ext d 21 75 [some (va_rf r0), some (.int x1), some (.int x2), some (va_rf r3), some (va_rf r4), some (va_rf r5), some (va_rf r6), some (.int x7), some (.int x8)] [] S Q) : aw ext d 21 70 [some (va_rf r0), some (.int x1), some (.int x2), some (va_rf r3), some (va_rf r4), some (va_rf r5), some (va_rf r6), some (.int x7), some (.int x8)] [] S Q := by
  refine aw_ald j21_70 rfl (av_isR_rf r6) ?_
  exact aw_null (r := r6) j21_72 k_2 k_3
theorem bk21_75 {r0 : Option Nat} {x1 : Int32} {x2 : Int32} {r3 : Option Nat} {r4 : Option Nat} {r5 : Option Nat} {r6 : Option Nat} {x7 : Int32} {x8 : Int32} {P_1 : Int32 → av_St → Prop} (m_4 : cti ext d 22 [va_rf r5, va_rf r6] S P_1) (k_5 : ∀ v_3 S_2, P_1 v_3 S_2 → aw ext (d + 1) 21 82 [some (va_rf r0), some (.int x1), some (.int x2), some (va_rf r3), some (va_rf r4), some (va_rf r5), some (va_rf r6), some (.int x7), some (.int x8)] [.int v_3] S_2 Q) : aw ext (d + 1) 21 75 [some (va_rf r0), some (.int x1), some (.int x2), some (va_rf r3), some (va_rf r4), some (va_rf r5), some (va_rf r6), some (.int x7), some (.int x8)] [] S Q := by
  refine aw_ald j21_75 rfl (av_isR_rf r5) ?_
  refine aw_ald j21_77 rfl (av_isR_rf r6) ?_
  exact aw_calli (as := [va_rf r5, va_rf r6]) j21_79 rfl rfl (Nat.le_of_ble_eq_true rfl) cy22.1 cy22.2 (cs_cons (av_cat_rf r5) (cs_cons (av_cat_rf r6) cs_nil)) rfl m_4 k_5
theorem bk21_82 {r0 : Option Nat} {x1 : Int32} {x2 : Int32} {r3 : Option Nat} {r4 : Option Nat} {r5 : Option Nat} {r6 : Option Nat} {x7 : Int32} {x8 : Int32} {xk0 : Int32}  (k_1 : (xk0 = 0) → aw ext d 21 88 [some (va_rf r0), some (.int x1), some (.int x2), some (va_rf r3), some (va_rf r4), some (va_rf r5), some (va_rf r6), some (.int x7), some (.int x8)] [] S Q) (k_2 : (¬ (xk0 = 0)) → aw ext d 21 85 [some (va_rf r0), some (.int x1), some (.int x2), some (va_rf r3), some (va_rf r4), some (va_rf r5), some (va_rf r6), some (.int x7), some (.int x8)] [] S Q) : aw ext d 21 82 [some (va_rf r0), some (.int x1), some (.int x2), some (va_rf r3), some (va_rf r4), some (va_rf r5), some (va_rf r6), some (.int x7), some (.int x8)] [.int xk0] S Q := by
  exact aw_if j21_82 (fun h => k_1 (of_decide_eq_true h)) (fun h => k_2 (of_decide_eq_false h))
theorem bk21_85 {r0 : Option Nat} {x1 : Int32} {x2 : Int32} {r3 : Option Nat} {r4 : Option Nat} {r5 : Option Nat} {r6 : Option Nat} {x7 : Int32} {x8 : Int32}  (k_1 : aw ext d 21 88 [some (va_rf r0), some (.int x1), some (.int x2), some (va_rf r3), some (va_rf r4), some (va_rf r5), some (va_rf r6), some (.int (x7 + 1)), some (.int x8)] [] S Q) : aw ext d 21 85 [some (va_rf r0), some (.int x1), some (.int x2), some (va_rf r3), some (va_rf r4), some (va_rf r5), some (va_rf r6), some (.int x7), some (.int x8)] [] S Q := by
  refine aw_inc j21_85 rfl ?_
  exact k_1
theorem bk21_88 {r0 : Option Nat} {x1 : Int32} {x2 : Int32} {r3 : Option Nat} {r4 : Option Nat} {r5 : Option Nat} {r6 : Option Nat} {x7 : Int32} {x8 : Int32}  (k_2 : r5 = none → aw ext d 21 93 [some (va_rf r0), some (.int x1), some (.int x2), some (va_rf r3), some (va_rf r4), some (va_rf r5), some (va_rf r6), some (.int x7), some (.int x8)] [] S Q) (k_3 : ∀ c_1, r5 = some c_1 → aw ext d 21 97 [some (va_rf r0), some (.int x1), some (.int x2), some (va_rf r3), some (va_rf r4), some (va_rf r5), some (va_rf r6), some (.int x7), some (.int x8)] [] S Q) : aw ext d 21 88 [some (va_rf r0), some (.int x1), some (.int x2), some (va_rf r3), some (va_rf r4), some (va_rf r5), some (va_rf r6), some (.int x7), some (.int x8)] [] S Q := by
  refine aw_ald j21_88 rfl (av_isR_rf r5) ?_
  exact aw_nonn (r := r5) j21_90 k_2 k_3
theorem bk21_93 {r0 : Option Nat} {x1 : Int32} {x2 : Int32} {r3 : Option Nat} {r4 : Option Nat} {r5 : Option Nat} {r6 : Option Nat} {x7 : Int32} {x8 : Int32}  (k_1 : aw ext d 21 106 [some (va_rf r0), some (.int x1), some (.int x2), some (va_rf r3), some (va_rf r4), some (va_rf r5), some (va_rf r6), some (.int x7), some (.int x8)] [.null] S Q) : aw ext d 21 93 [some (va_rf r0), some (.int x1), some (.int x2), some (va_rf r3), some (va_rf r4), some (va_rf r5), some (va_rf r6), some (.int x7), some (.int x8)] [] S Q := by
  refine aw_nul j21_93 ?_
  exact aw_goto j21_94 k_1
theorem bk21_97 {r0 : Option Nat} {x1 : Int32} {x2 : Int32} {a3 : Nat} {r4 : Option Nat} {a5 : Nat} {r6 : Option Nat} {x7 : Int32} {x8 : Int32} {q2 : Option Nat} {P_4 : Option Nat → av_St → Prop} (t_1 : S.1 a3 = some (.inl 7)) (f_3 : S.2.1 a3 1 = va_rf q2) (t_7 : S.1 a5 = some (.inl 8)) (m_8 : ctr ext d 55 [.ref a5, va_rf q2] S P_4) (k_9 : ∀ v_6 S_5, P_4 v_6 S_5 → aw ext (d + 1) 21 106 [some (va_rf r0), some (.int x1), some (.int x2), some (.ref a3), some (va_rf r4), some (.ref a5), some (va_rf r6), some (.int x7), some (.int x8)] [va_rf v_6] S_5 Q) : aw ext (d + 1) 21 97 [some (va_rf r0), some (.int x1), some (.int x2), some (.ref a3), some (va_rf r4), some (.ref a5), some (va_rf r6), some (.int x7), some (.int x8)] [] S Q := by
  refine aw_ald j21_97 rfl rfl ?_
  refine aw_ald j21_99 rfl rfl ?_
  refine aw_get j21_100 t_1 f_3 ?_
  exact aw_callr (as := [.ref a5, va_rf q2]) j21_103 rfl rfl (Nat.le_of_ble_eq_true rfl) cy55.1 cy55.2 (cs_cons rfl (cs_cons (av_cat_rf q2) cs_nil)) (decide_eq_true t_7) m_8 k_9
theorem bk21_106 {r0 : Option Nat} {x1 : Int32} {x2 : Int32} {r3 : Option Nat} {r4 : Option Nat} {r5 : Option Nat} {r6 : Option Nat} {x7 : Int32} {x8 : Int32} {rk0 : Option Nat}  (k_2 : r6 = none → aw ext d 21 113 [some (va_rf r0), some (.int x1), some (.int x2), some (va_rf r3), some (va_rf r4), some (va_rf rk0), some (va_rf r6), some (.int x7), some (.int x8)] [] S Q) (k_3 : ∀ c_1, r6 = some c_1 → aw ext d 21 117 [some (va_rf r0), some (.int x1), some (.int x2), some (va_rf r3), some (va_rf r4), some (va_rf rk0), some (va_rf r6), some (.int x7), some (.int x8)] [] S Q) : aw ext d 21 106 [some (va_rf r0), some (.int x1), some (.int x2), some (va_rf r3), some (va_rf r4), some (va_rf r5), some (va_rf r6), some (.int x7), some (.int x8)] [va_rf rk0] S Q := by
  refine aw_ast j21_106 (av_isR_rf rk0) (Nat.le_of_ble_eq_true rfl) ?_
  refine aw_ald j21_108 rfl (av_isR_rf r6) ?_
  exact aw_nonn (r := r6) j21_110 k_2 k_3
theorem bk21_113 {r0 : Option Nat} {x1 : Int32} {x2 : Int32} {r3 : Option Nat} {r4 : Option Nat} {r5 : Option Nat} {r6 : Option Nat} {x7 : Int32} {x8 : Int32}  (k_1 : aw ext d 21 127 [some (va_rf r0), some (.int x1), some (.int x2), some (va_rf r3), some (va_rf r4), some (va_rf r5), some (va_rf r6), some (.int x7), some (.int x8)] [.null] S Q) : aw ext d 21 113 [some (va_rf r0), some (.int x1), some (.int x2), some (va_rf r3), some (va_rf r4), some (va_rf r5), some (va_rf r6), some (.int x7), some (.int x8)] [] S Q := by
  refine aw_nul j21_113 ?_
  exact aw_goto j21_114 k_1
theorem bk21_117 {r0 : Option Nat} {x1 : Int32} {x2 : Int32} {r3 : Option Nat} {a4 : Nat} {r5 : Option Nat} {a6 : Nat} {x7 : Int32} {x8 : Int32} {q2 : Option Nat} {P_4 : Option Nat → av_St → Prop} (t_1 : S.1 a4 = some (.inl 7)) (f_3 : S.2.1 a4 1 = va_rf q2) (t_7 : S.1 a6 = some (.inl 8)) (m_8 : ctr ext d 55 [.ref a6, va_rf q2] S P_4) (k_9 : ∀ v_6 S_5, P_4 v_6 S_5 → aw ext (d + 1) 21 127 [some (va_rf r0), some (.int x1), some (.int x2), some (va_rf r3), some (.ref a4), some (va_rf r5), some (.ref a6), some (.int x7), some (.int x8)] [va_rf v_6] S_5 Q) : aw ext (d + 1) 21 117 [some (va_rf r0), some (.int x1), some (.int x2), some (va_rf r3), some (.ref a4), some (va_rf r5), some (.ref a6), some (.int x7), some (.int x8)] [] S Q := by
  refine aw_ald j21_117 rfl rfl ?_
  refine aw_ald j21_119 rfl rfl ?_
  refine aw_get j21_121 t_1 f_3 ?_
  exact aw_callr (as := [.ref a6, va_rf q2]) j21_124 rfl rfl (Nat.le_of_ble_eq_true rfl) cy55.1 cy55.2 (cs_cons rfl (cs_cons (av_cat_rf q2) cs_nil)) (decide_eq_true t_7) m_8 k_9
theorem bk21_127 {r0 : Option Nat} {x1 : Int32} {x2 : Int32} {r3 : Option Nat} {r4 : Option Nat} {r5 : Option Nat} {r6 : Option Nat} {x7 : Int32} {x8 : Int32} {rk0 : Option Nat}  (k_1 : aw ext d 21 58 [some (va_rf r0), some (.int x1), some (.int x2), some (va_rf r3), some (va_rf r4), some (va_rf r5), some (va_rf rk0), some (.int x7), some (.int (x8 + 1))] [] S Q) : aw ext d 21 127 [some (va_rf r0), some (.int x1), some (.int x2), some (va_rf r3), some (va_rf r4), some (va_rf r5), some (va_rf r6), some (.int x7), some (.int x8)] [va_rf rk0] S Q := by
  refine aw_ast j21_127 (av_isR_rf rk0) (Nat.le_of_ble_eq_true rfl) ?_
  refine aw_inc j21_129 rfl ?_
  exact aw_goto j21_132 k_1
theorem bk21_135 {r0 : Option Nat} {x1 : Int32} {x2 : Int32} {r3 : Option Nat} {r4 : Option Nat} {r5 : Option Nat} {r6 : Option Nat} {x7 : Int32} {x8 : Int32}  (k_1 : Q (some (.int x7)) S) : aw ext d 21 135 [some (va_rf r0), some (.int x1), some (.int x2), some (va_rf r3), some (va_rf r4), some (va_rf r5), some (va_rf r6), some (.int x7), some (.int x8)] [] S Q := by
  refine aw_ild j21_135 rfl ?_
  exact aw_ret j21_137 (by rw [rt21]; exact rfl) k_1
/-! SM_areUnlike -/
theorem bk22_0 {r0 : Option Nat} {r1 : Option Nat}  (k_2 : r0 = none → aw ext d 22 8 [some (va_rf r0), some (va_rf r1)] [] S Q) (k_3 : ∀ c_1, r0 = some c_1 → aw ext d 22 4 [some (va_rf r0), some (va_rf r1)] [] S Q) : aw ext d 22 0 [some (va_rf r0), some (va_rf r1)] [] S Q := by
  refine aw_ald j22_0 rfl (av_isR_rf r0) ?_
  exact aw_null (r := r0) j22_1 k_2 k_3
theorem bk22_4 {r0 : Option Nat} {r1 : Option Nat}  (k_2 : r1 = none → aw ext d 22 8 [some (va_rf r0), some (va_rf r1)] [] S Q) (k_3 : ∀ c_1, r1 = some c_1 → aw ext d 22 10 [some (va_rf r0), some (va_rf r1)] [] S Q) : aw ext d 22 4 [some (va_rf r0), some (va_rf r1)] [] S Q := by
  refine aw_ald j22_4 rfl (av_isR_rf r1) ?_
  exact aw_nonn (r := r1) j22_5 k_2 k_3
theorem bk22_8 {r0 : Option Nat} {r1 : Option Nat}  (k_1 : Q (some (.int (1 : Int32))) S) : aw ext d 22 8 [some (va_rf r0), some (va_rf r1)] [] S Q := by
  refine aw_con j22_8 ?_
  exact aw_ret j22_9 (by rw [rt22]; exact rfl) k_1
theorem bk22_10 {a0 : Nat} {a1 : Nat} {y2 : Int32} {y5 : Int32} (t_1 : S.1 a0 = some (.inl 8)) (f_3 : S.2.1 a0 3 = .int y2) (t_4 : S.1 a1 = some (.inl 8)) (f_6 : S.2.1 a1 3 = .int y5) (k_7 : (¬ y2 = y5) → aw ext d 22 32 [some (.ref a0), some (.ref a1)] [] S Q) (k_8 : (y2 = y5) → aw ext d 22 21 [some (.ref a0), some (.ref a1)] [] S Q) : aw ext d 22 10 [some (.ref a0), some (.ref a1)] [] S Q := by
  refine aw_ald j22_10 rfl rfl ?_
  refine aw_get j22_11 t_1 f_3 ?_
  refine aw_ald j22_14 rfl rfl ?_
  refine aw_get j22_15 t_4 f_6 ?_
  exact aw_ic j22_18 (fun h => k_7 (of_decide_eq_true h)) (fun h => k_8 (Decidable.of_not_not (of_decide_eq_false h)))
theorem bk22_21 {a0 : Nat} {r1 : Option Nat} {P_1 : Int32 → av_St → Prop} (t_4 : S.1 a0 = some (.inl 8)) (m_5 : cti ext d 58 [.ref a0] S P_1) (k_6 : ∀ v_3 S_2, P_1 v_3 S_2 → aw ext (d + 1) 22 25 [some (.ref a0), some (va_rf r1)] [.int v_3] S_2 Q) : aw ext (d + 1) 22 21 [some (.ref a0), some (va_rf r1)] [] S Q := by
  refine aw_ald j22_21 rfl rfl ?_
  exact aw_calli (as := [.ref a0]) j22_22 rfl rfl (Nat.le_of_ble_eq_true rfl) cy58.1 cy58.2 (cs_cons rfl cs_nil) (decide_eq_true t_4) m_5 k_6
theorem bk22_25 {r0 : Option Nat} {a1 : Nat} {xk0 : Int32} {P_1 : Int32 → av_St → Prop} (t_4 : S.1 a1 = some (.inl 8)) (m_5 : cti ext d 58 [.ref a1] S P_1) (k_6 : ∀ v_3 S_2, P_1 v_3 S_2 → aw ext (d + 1) 22 29 [some (va_rf r0), some (.ref a1)] [.int v_3, .int xk0] S_2 Q) : aw ext (d + 1) 22 25 [some (va_rf r0), some (.ref a1)] [.int xk0] S Q := by
  refine aw_ald j22_25 rfl rfl ?_
  exact aw_calli (as := [.ref a1]) j22_26 rfl rfl (Nat.le_of_ble_eq_true rfl) cy58.1 cy58.2 (cs_cons rfl cs_nil) (decide_eq_true t_4) m_5 k_6
theorem bk22_29 {r0 : Option Nat} {r1 : Option Nat} {xk0 : Int32} {xk1 : Int32}  (k_1 : (xk0 = xk1) → aw ext d 22 36 [some (va_rf r0), some (va_rf r1)] [] S Q) (k_2 : (¬ (xk0 = xk1)) → aw ext d 22 32 [some (va_rf r0), some (va_rf r1)] [] S Q) : aw ext d 22 29 [some (va_rf r0), some (va_rf r1)] [.int xk1, .int xk0] S Q := by
  exact aw_ic j22_29 (fun h => k_1 (of_decide_eq_true h)) (fun h => k_2 (of_decide_eq_false h))
theorem bk22_32 {r0 : Option Nat} {r1 : Option Nat}  (k_1 : aw ext d 22 37 [some (va_rf r0), some (va_rf r1)] [.int (1 : Int32)] S Q) : aw ext d 22 32 [some (va_rf r0), some (va_rf r1)] [] S Q := by
  refine aw_con j22_32 ?_
  exact aw_goto j22_33 k_1
theorem bk22_36 {r0 : Option Nat} {r1 : Option Nat}  (k_1 : aw ext d 22 37 [some (va_rf r0), some (va_rf r1)] [.int (0 : Int32)] S Q) : aw ext d 22 36 [some (va_rf r0), some (va_rf r1)] [] S Q := by
  refine aw_con j22_36 ?_
  exact k_1
theorem bk22_37 {r0 : Option Nat} {r1 : Option Nat} {xk0 : Int32} (o_2 : xk0 = 0 ∨ xk0 = 1) (k_1 : Q (some (.int xk0)) S) : aw ext d 22 37 [some (va_rf r0), some (va_rf r1)] [.int xk0] S Q := by
  exact aw_ret j22_37 (by rw [rt22]; exact (decide_eq_true o_2)) k_1
/-! SM_about -/
theorem bk23_0 {a0 : Nat} {x1 : Int32} {x2 : Int32} {o3 : Option Value} {P_1 : Option Nat → av_St → Prop} (t_4 : S.1 a0 = some (.inl 0)) (m_5 : ctr ext d 9 [.ref a0, .int x1] S P_1) (k_6 : ∀ v_3 S_2, P_1 v_3 S_2 → aw ext (d + 1) 23 5 [some (.ref a0), some (.int x1), some (.int x2), o3] [va_rf v_3] S_2 Q) : aw ext (d + 1) 23 0 [some (.ref a0), some (.int x1), some (.int x2), o3] [] S Q := by
  refine aw_ald j23_0 rfl rfl ?_
  refine aw_ild j23_1 rfl ?_
  exact aw_callr (as := [.ref a0, .int x1]) j23_2 rfl rfl (Nat.le_of_ble_eq_true rfl) cy9.1 cy9.2 (cs_cons rfl (cs_cons rfl cs_nil)) (decide_eq_true t_4) m_5 k_6
theorem bk23_5 {r0 : Option Nat} {x1 : Int32} {x2 : Int32} {o3 : Option Value} {rk0 : Option Nat}  (k_2 : rk0 = none → aw ext d 23 10 [some (va_rf r0), some (.int x1), some (.int x2), some (va_rf rk0)] [] S Q) (k_3 : ∀ c_1, rk0 = some c_1 → aw ext d 23 12 [some (va_rf r0), some (.int x1), some (.int x2), some (va_rf rk0)] [] S Q) : aw ext d 23 5 [some (va_rf r0), some (.int x1), some (.int x2), o3] [va_rf rk0] S Q := by
  refine aw_ast j23_5 (av_isR_rf rk0) (Nat.le_of_ble_eq_true rfl) ?_
  refine aw_ald j23_6 rfl (av_isR_rf rk0) ?_
  exact aw_nonn (r := rk0) j23_7 k_2 k_3
theorem bk23_10 {r0 : Option Nat} {x1 : Int32} {x2 : Int32} {r3 : Option Nat}  (k_1 : Q (some (.int (-1 : Int32))) S) : aw ext d 23 10 [some (va_rf r0), some (.int x1), some (.int x2), some (va_rf r3)] [] S Q := by
  refine aw_con j23_10 ?_
  exact aw_ret j23_11 (by rw [rt23]; exact rfl) k_1
theorem bk23_12 {r0 : Option Nat} {x1 : Int32} {x2 : Int32} {r3 : Option Nat}  (k_1 : aw ext d 23 (if x2.toInt < (0 : Int32).toInt then 119 else List.getD [56, 61, 80, 85, 90, 95, 114] (x2.toInt - (0 : Int32).toInt).toNat 119) [some (va_rf r0), some (.int x1), some (.int x2), some (va_rf r3)] [] S Q) : aw ext d 23 12 [some (va_rf r0), some (.int x1), some (.int x2), some (va_rf r3)] [] S Q := by
  refine aw_ild j23_12 rfl ?_
  exact aw_tsw j23_13 k_1
theorem bk23_56 {r0 : Option Nat} {x1 : Int32} {x2 : Int32} {a3 : Nat} {y2 : Int32} (t_1 : S.1 a3 = some (.inl 8)) (f_3 : S.2.1 a3 1 = .int y2) (k_4 : Q (some (.int y2)) S) : aw ext d 23 56 [some (va_rf r0), some (.int x1), some (.int x2), some (.ref a3)] [] S Q := by
  refine aw_ald j23_56 rfl rfl ?_
  refine aw_get j23_57 t_1 f_3 ?_
  exact aw_ret j23_60 (by rw [rt23]; exact rfl) k_4
theorem bk23_61 {r0 : Option Nat} {x1 : Int32} {x2 : Int32} {a3 : Nat} {q2 : Option Nat} (t_1 : S.1 a3 = some (.inl 8)) (f_3 : S.2.1 a3 6 = va_rf q2) (k_5 : q2 = none → aw ext d 23 68 [some (va_rf r0), some (.int x1), some (.int x2), some (.ref a3)] [] S Q) (k_6 : ∀ c_4, q2 = some c_4 → aw ext d 23 72 [some (va_rf r0), some (.int x1), some (.int x2), some (.ref a3)] [] S Q) : aw ext d 23 61 [some (va_rf r0), some (.int x1), some (.int x2), some (.ref a3)] [] S Q := by
  refine aw_ald j23_61 rfl rfl ?_
  refine aw_get j23_62 t_1 f_3 ?_
  exact aw_nonn (r := q2) j23_65 k_5 k_6
theorem bk23_68 {r0 : Option Nat} {x1 : Int32} {x2 : Int32} {r3 : Option Nat}  (k_1 : aw ext d 23 79 [some (va_rf r0), some (.int x1), some (.int x2), some (va_rf r3)] [.int (-1 : Int32)] S Q) : aw ext d 23 68 [some (va_rf r0), some (.int x1), some (.int x2), some (va_rf r3)] [] S Q := by
  refine aw_con j23_68 ?_
  exact aw_goto j23_69 k_1
theorem bk23_72 {r0 : Option Nat} {x1 : Int32} {x2 : Int32} {a3 : Nat} {b2 : Nat} {y5 : Int32} (t_1 : S.1 a3 = some (.inl 8)) (f_3 : S.2.1 a3 6 = .ref b2) (t_4 : S.1 b2 = some (.inl 8)) (f_6 : S.2.1 b2 0 = .int y5) (k_7 : aw ext d 23 79 [some (va_rf r0), some (.int x1), some (.int x2), some (.ref a3)] [.int y5] S Q) : aw ext d 23 72 [some (va_rf r0), some (.int x1), some (.int x2), some (.ref a3)] [] S Q := by
  refine aw_ald j23_72 rfl rfl ?_
  refine aw_get j23_73 t_1 f_3 ?_
  refine aw_get j23_76 t_4 f_6 ?_
  exact k_7
theorem bk23_79 {r0 : Option Nat} {x1 : Int32} {x2 : Int32} {r3 : Option Nat} {xk0 : Int32}  (k_1 : Q (some (.int xk0)) S) : aw ext d 23 79 [some (va_rf r0), some (.int x1), some (.int x2), some (va_rf r3)] [.int xk0] S Q := by
  exact aw_ret j23_79 (by rw [rt23]; exact rfl) k_1
theorem bk23_80 {r0 : Option Nat} {x1 : Int32} {x2 : Int32} {a3 : Nat} {y2 : Int32} (t_1 : S.1 a3 = some (.inl 8)) (f_3 : S.2.1 a3 2 = .int y2) (k_4 : Q (some (.int y2)) S) : aw ext d 23 80 [some (va_rf r0), some (.int x1), some (.int x2), some (.ref a3)] [] S Q := by
  refine aw_ald j23_80 rfl rfl ?_
  refine aw_get j23_81 t_1 f_3 ?_
  exact aw_ret j23_84 (by rw [rt23]; exact rfl) k_4
theorem bk23_85 {r0 : Option Nat} {x1 : Int32} {x2 : Int32} {a3 : Nat} {y2 : Int32} (t_1 : S.1 a3 = some (.inl 8)) (f_3 : S.2.1 a3 3 = .int y2) (k_4 : Q (some (.int y2)) S) : aw ext d 23 85 [some (va_rf r0), some (.int x1), some (.int x2), some (.ref a3)] [] S Q := by
  refine aw_ald j23_85 rfl rfl ?_
  refine aw_get j23_86 t_1 f_3 ?_
  exact aw_ret j23_89 (by rw [rt23]; exact rfl) k_4
theorem bk23_90 {r0 : Option Nat} {x1 : Int32} {x2 : Int32} {a3 : Nat} {y2 : Int32} (t_1 : S.1 a3 = some (.inl 8)) (f_3 : S.2.1 a3 5 = .int y2) (k_4 : Q (some (.int y2)) S) : aw ext d 23 90 [some (va_rf r0), some (.int x1), some (.int x2), some (.ref a3)] [] S Q := by
  refine aw_ald j23_90 rfl rfl ?_
  refine aw_get j23_91 t_1 f_3 ?_
  exact aw_ret j23_94 (by rw [rt23]; exact rfl) k_4
theorem bk23_95 {r0 : Option Nat} {x1 : Int32} {x2 : Int32} {a3 : Nat} {q2 : Option Nat} (t_1 : S.1 a3 = some (.inl 8)) (f_3 : S.2.1 a3 9 = va_rf q2) (k_5 : q2 = none → aw ext d 23 102 [some (va_rf r0), some (.int x1), some (.int x2), some (.ref a3)] [] S Q) (k_6 : ∀ c_4, q2 = some c_4 → aw ext d 23 106 [some (va_rf r0), some (.int x1), some (.int x2), some (.ref a3)] [] S Q) : aw ext d 23 95 [some (va_rf r0), some (.int x1), some (.int x2), some (.ref a3)] [] S Q := by
  refine aw_ald j23_95 rfl rfl ?_
  refine aw_get j23_96 t_1 f_3 ?_
  exact aw_nonn (r := q2) j23_99 k_5 k_6
theorem bk23_102 {r0 : Option Nat} {x1 : Int32} {x2 : Int32} {r3 : Option Nat}  (k_1 : aw ext d 23 113 [some (va_rf r0), some (.int x1), some (.int x2), some (va_rf r3)] [.int (-1 : Int32)] S Q) : aw ext d 23 102 [some (va_rf r0), some (.int x1), some (.int x2), some (va_rf r3)] [] S Q := by
  refine aw_con j23_102 ?_
  exact aw_goto j23_103 k_1
theorem bk23_106 {r0 : Option Nat} {x1 : Int32} {x2 : Int32} {a3 : Nat} {b2 : Nat} {y5 : Int32} (t_1 : S.1 a3 = some (.inl 8)) (f_3 : S.2.1 a3 9 = .ref b2) (t_4 : S.1 b2 = some (.inl 8)) (f_6 : S.2.1 b2 0 = .int y5) (k_7 : aw ext d 23 113 [some (va_rf r0), some (.int x1), some (.int x2), some (.ref a3)] [.int y5] S Q) : aw ext d 23 106 [some (va_rf r0), some (.int x1), some (.int x2), some (.ref a3)] [] S Q := by
  refine aw_ald j23_106 rfl rfl ?_
  refine aw_get j23_107 t_1 f_3 ?_
  refine aw_get j23_110 t_4 f_6 ?_
  exact k_7
theorem bk23_113 {r0 : Option Nat} {x1 : Int32} {x2 : Int32} {r3 : Option Nat} {xk0 : Int32}  (k_1 : Q (some (.int xk0)) S) : aw ext d 23 113 [some (va_rf r0), some (.int x1), some (.int x2), some (va_rf r3)] [.int xk0] S Q := by
  exact aw_ret j23_113 (by rw [rt23]; exact rfl) k_1
theorem bk23_114 {r0 : Option Nat} {x1 : Int32} {x2 : Int32} {a3 : Nat} {P_1 : Int32 → av_St → Prop} (t_4 : S.1 a3 = some (.inl 8)) (m_5 : cti ext d 59 [.ref a3] S P_1) (k_6 : ∀ v_3 S_2, P_1 v_3 S_2 → aw ext (d + 1) 23 118 [some (va_rf r0), some (.int x1), some (.int x2), some (.ref a3)] [.int v_3] S_2 Q) : aw ext (d + 1) 23 114 [some (va_rf r0), some (.int x1), some (.int x2), some (.ref a3)] [] S Q := by
  refine aw_ald j23_114 rfl rfl ?_
  exact aw_calli (as := [.ref a3]) j23_115 rfl rfl (Nat.le_of_ble_eq_true rfl) cy59.1 cy59.2 (cs_cons rfl cs_nil) (decide_eq_true t_4) m_5 k_6
theorem bk23_118 {r0 : Option Nat} {x1 : Int32} {x2 : Int32} {r3 : Option Nat} {xk0 : Int32}  (k_1 : Q (some (.int xk0)) S) : aw ext d 23 118 [some (va_rf r0), some (.int x1), some (.int x2), some (va_rf r3)] [.int xk0] S Q := by
  exact aw_ret j23_118 (by rw [rt23]; exact rfl) k_1
theorem bk23_119 {r0 : Option Nat} {x1 : Int32} {x2 : Int32} {r3 : Option Nat}  (k_1 : Q (some (.int (-1 : Int32))) S) : aw ext d 23 119 [some (va_rf r0), some (.int x1), some (.int x2), some (va_rf r3)] [] S Q := by
  refine aw_con j23_119 ?_
  exact aw_ret j23_120 (by rw [rt23]; exact rfl) k_1
end
