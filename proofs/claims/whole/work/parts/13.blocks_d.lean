section
variable {ext : av_X} {d : Nat} {S : av_St} {Q : Option Value → av_St → Prop}
/-! Ref_goes -/
theorem bk84_0 {a0 : Nat} {x1 : Int32} {r2 : Option Nat} {o3 : Option Value} {o4 : Option Value} {o5 : Option Value} {o6 : Option Value} {o7 : Option Value} {P_2 : av_St → Prop} (t_1 : S.1 a0 = some (.inl 10)) (m_5 : ctv ext d 81 [.ref a0, .int ((-1 : Int32) - x1), .int (-1 : Int32)] (av_set S a0 17 (.int (0 : Int32))) P_2) (k_6 : ∀ S_3, P_2 S_3 → aw ext (d + 1) 84 18 [some (.ref a0), some (.int x1), some (va_rf r2), some (.int (0 : Int32)), some (.int (0 : Int32)), o5, o6, o7] [] S_3 Q) : aw ext (d + 1) 84 0 [some (.ref a0), some (.int x1), some (va_rf r2), o3, o4, o5, o6, o7] [] S Q := by
  refine aw_con j84_0 ?_
  refine aw_ist j84_1 (Nat.le_of_ble_eq_true rfl) ?_
  refine aw_con j84_2 ?_
  refine aw_ist j84_3 (Nat.le_of_ble_eq_true rfl) ?_
  refine aw_ald j84_5 rfl rfl ?_
  refine aw_con j84_6 ?_
  refine aw_put j84_7 t_1 rfl ?_
  refine aw_ald j84_10 rfl rfl ?_
  refine aw_con j84_11 ?_
  refine aw_ild j84_12 rfl ?_
  refine aw_bin (z := ((-1 : Int32) - x1)) j84_13 rfl ?_
  refine aw_con j84_14 ?_
  exact aw_callv (as := [.ref a0, .int ((-1 : Int32) - x1), .int (-1 : Int32)]) j84_15 rfl rfl (Nat.le_of_ble_eq_true rfl) cy81.1 cy81.2 (cs_cons rfl (cs_cons rfl (cs_cons rfl cs_nil))) (decide_eq_true t_1) m_5 k_6
theorem bk84_18 {a0 : Nat} {x1 : Int32} {r2 : Option Nat} {x3 : Int32} {x4 : Int32} {o5 : Option Value} {o6 : Option Value} {o7 : Option Value} {y2 : Int32} (t_1 : S.1 a0 = some (.inl 10)) (f_3 : S.2.1 a0 17 = .int y2) (k_4 : (y2 ≤ 0) → aw ext d 84 243 [some (.ref a0), some (.int x1), some (va_rf r2), some (.int x3), some (.int x4), o5, o6, o7] [] S Q) (k_5 : (¬ (y2 ≤ 0)) → aw ext d 84 25 [some (.ref a0), some (.int x1), some (va_rf r2), some (.int x3), some (.int x4), o5, o6, o7] [] S Q) : aw ext d 84 18 [some (.ref a0), some (.int x1), some (va_rf r2), some (.int x3), some (.int x4), o5, o6, o7] [] S Q := by
  refine aw_ald j84_18 rfl rfl ?_
  refine aw_get j84_19 t_1 f_3 ?_
  exact aw_if j84_22 (fun h => k_4 (of_decide_eq_true h)) (fun h => k_5 (of_decide_eq_false h))
theorem bk84_25 {r0 : Option Nat} {x1 : Int32} {r2 : Option Nat} {x3 : Int32} {x4 : Int32} {o5 : Option Value} {o6 : Option Value} {o7 : Option Value}  (k_1 : ((1000 : Int32) ≤ x4) → aw ext d 84 243 [some (va_rf r0), some (.int x1), some (va_rf r2), some (.int x3), some (.int x4), o5, o6, o7] [] S Q) (k_2 : (¬ ((1000 : Int32) ≤ x4)) → aw ext d 84 33 [some (va_rf r0), some (.int x1), some (va_rf r2), some (.int x3), some (.int x4), o5, o6, o7] [] S Q) : aw ext d 84 25 [some (va_rf r0), some (.int x1), some (va_rf r2), some (.int x3), some (.int x4), o5, o6, o7] [] S Q := by
  refine aw_ild j84_25 rfl ?_
  refine aw_con j84_27 ?_
  exact aw_ic j84_30 (fun h => k_1 (of_decide_eq_true h)) (fun h => k_2 (of_decide_eq_false h))
theorem bk84_33 {a0 : Nat} {x1 : Int32} {r2 : Option Nat} {x3 : Int32} {x4 : Int32} {o5 : Option Value} {o6 : Option Value} {o7 : Option Value} {y2 : Int32} {b4 : Nat} {y6 : Int32} {n_8 : Nat} {i_11 : Nat} {y14 : Int32} {b16 : Nat} {n_18 : Nat} {i_21 : Nat} {y24 : Int32} (t_1 : S.1 a0 = some (.inl 10)) (f_3 : S.2.1 a0 17 = .int y2) (f_5 : (av_set S a0 17 (.int (y2 - (1 : Int32)))).2.1 a0 15 = .ref b4) (f_7 : (av_set S a0 17 (.int (y2 - (1 : Int32)))).2.1 a0 17 = .int y6) (t_9 : (av_set S a0 17 (.int (y2 - (1 : Int32)))).1 b4 = some (.inr (0, n_8))) (b_10 : n_8 < 2147483648) (e_12 : y6 = nI i_11) (c_13 : i_11 < n_8) (f_15 : (av_set S a0 17 (.int (y2 - (1 : Int32)))).2.1 b4 i_11 = .int y14) (f_17 : (av_set S a0 17 (.int (y2 - (1 : Int32)))).2.1 a0 16 = .ref b16) (t_19 : (av_set S a0 17 (.int (y2 - (1 : Int32)))).1 b16 = some (.inr (0, n_18))) (b_20 : n_18 < 2147483648) (e_22 : y6 = nI i_21) (c_23 : i_21 < n_18) (f_25 : (av_set S a0 17 (.int (y2 - (1 : Int32)))).2.1 b16 i_21 = .int y24) (k_26 : (y24 < 0) → aw ext d 84 81 [some (.ref a0), some (.int x1), some (va_rf r2), some (.int x3), some (.int (x4 + 1)), some (.int y14), o6, o7] [] (av_set S a0 17 (.int (y2 - (1 : Int32)))) Q) (k_27 : (¬ (y24 < 0)) → aw ext d 84 69 [some (.ref a0), some (.int x1), some (va_rf r2), some (.int x3), some (.int (x4 + 1)), some (.int y14), o6, o7] [] (av_set S a0 17 (.int (y2 - (1 : Int32)))) Q) : aw ext d 84 33 [some (.ref a0), some (.int x1), some (va_rf r2), some (.int x3), some (.int x4), o5, o6, o7] [] S Q := by
  refine aw_ald j84_33 rfl rfl ?_
  refine aw_dup j84_34 rfl ?_
  refine aw_get j84_35 t_1 f_3 ?_
  refine aw_con j84_38 ?_
  refine aw_bin (z := (y2 - (1 : Int32))) j84_39 rfl ?_
  refine aw_put j84_40 t_1 rfl ?_
  refine aw_inc j84_43 rfl ?_
  refine aw_ald j84_46 rfl rfl ?_
  refine aw_get j84_47 t_1 f_5 ?_
  refine aw_ald j84_50 rfl rfl ?_
  refine aw_get j84_51 t_1 f_7 ?_
  refine aw_xld j84_54 t_9 e_12 c_13 b_10 f_15 ?_
  refine aw_ist j84_55 (Nat.le_of_ble_eq_true rfl) ?_
  refine aw_ald j84_57 rfl rfl ?_
  refine aw_get j84_58 t_1 f_17 ?_
  refine aw_ald j84_61 rfl rfl ?_
  refine aw_get j84_62 t_1 f_7 ?_
  refine aw_xld j84_65 t_19 e_22 c_23 b_20 f_25 ?_
  exact aw_if j84_66 (fun h => k_26 (of_decide_eq_true h)) (fun h => k_27 (of_decide_eq_false h))
theorem bk84_69 {a0 : Nat} {x1 : Int32} {r2 : Option Nat} {x3 : Int32} {x4 : Int32} {x5 : Int32} {o6 : Option Value} {o7 : Option Value} {b2 : Nat} {y4 : Int32} {n_6 : Nat} {i_9 : Nat} {y12 : Int32} (t_1 : S.1 a0 = some (.inl 10)) (f_3 : S.2.1 a0 16 = .ref b2) (f_5 : S.2.1 a0 17 = .int y4) (t_7 : S.1 b2 = some (.inr (0, n_6))) (b_8 : n_6 < 2147483648) (e_10 : y4 = nI i_9) (c_11 : i_9 < n_6) (f_13 : S.2.1 b2 i_9 = .int y12) (k_14 : aw ext d 84 83 [some (.ref a0), some (.int x1), some (va_rf r2), some (.int x3), some (.int x4), some (.int x5), o6, o7] [.int y12] S Q) : aw ext d 84 69 [some (.ref a0), some (.int x1), some (va_rf r2), some (.int x3), some (.int x4), some (.int x5), o6, o7] [] S Q := by
  refine aw_ald j84_69 rfl rfl ?_
  refine aw_get j84_70 t_1 f_3 ?_
  refine aw_ald j84_73 rfl rfl ?_
  refine aw_get j84_74 t_1 f_5 ?_
  refine aw_xld j84_77 t_7 e_10 c_11 b_8 f_13 ?_
  exact aw_goto j84_78 k_14
theorem bk84_81 {r0 : Option Nat} {x1 : Int32} {r2 : Option Nat} {x3 : Int32} {x4 : Int32} {x5 : Int32} {o6 : Option Value} {o7 : Option Value}  (k_1 : aw ext d 84 83 [some (va_rf r0), some (.int x1), some (va_rf r2), some (.int x3), some (.int x4), some (.int x5), o6, o7] [.int x5] S Q) : aw ext d 84 81 [some (va_rf r0), some (.int x1), some (va_rf r2), some (.int x3), some (.int x4), some (.int x5), o6, o7] [] S Q := by
  refine aw_ild j84_81 rfl ?_
  exact k_1
theorem bk84_83 {r0 : Option Nat} {x1 : Int32} {r2 : Option Nat} {x3 : Int32} {x4 : Int32} {x5 : Int32} {o6 : Option Value} {o7 : Option Value} {xk0 : Int32}  (k_1 : aw ext d 84 91 [some (va_rf r0), some (.int x1), some (va_rf r2), some (.int x3), some (.int x4), some (.int x5), some (.int xk0), some (.int ((5 : Int32) * x5))] [] S Q) : aw ext d 84 83 [some (va_rf r0), some (.int x1), some (va_rf r2), some (.int x3), some (.int x4), some (.int x5), o6, o7] [.int xk0] S Q := by
  refine aw_ist j84_83 (Nat.le_of_ble_eq_true rfl) ?_
  refine aw_con j84_85 ?_
  refine aw_ild j84_86 rfl ?_
  refine aw_bin (z := ((5 : Int32) * x5)) j84_88 rfl ?_
  refine aw_ist j84_89 (Nat.le_of_ble_eq_true rfl) ?_
  exact k_1
theorem bk84_91 {a0 : Nat} {x1 : Int32} {r2 : Option Nat} {x3 : Int32} {x4 : Int32} {x5 : Int32} {x6 : Int32} {x7 : Int32} {b2 : Nat} {n_4 : Nat} {i_7 : Nat} {y10 : Int32} (t_1 : S.1 a0 = some (.inl 10)) (f_3 : S.2.1 a0 11 = .ref b2) (t_5 : S.1 b2 = some (.inr (0, n_4))) (b_6 : n_4 < 2147483648) (e_8 : x5 = nI i_7) (c_9 : i_7 < n_4) (f_11 : S.2.1 b2 i_7 = .int y10) (k_12 : ((((5 : Int32) * x5) + y10) ≤ x7) → aw ext d 84 175 [some (.ref a0), some (.int x1), some (va_rf r2), some (.int x3), some (.int x4), some (.int x5), some (.int x6), some (.int x7)] [] S Q) (k_13 : (¬ ((((5 : Int32) * x5) + y10) ≤ x7)) → aw ext d 84 108 [some (.ref a0), some (.int x1), some (va_rf r2), some (.int x3), some (.int x4), some (.int x5), some (.int x6), some (.int x7)] [] S Q) : aw ext d 84 91 [some (.ref a0), some (.int x1), some (va_rf r2), some (.int x3), some (.int x4), some (.int x5), some (.int x6), some (.int x7)] [] S Q := by
  refine aw_ild j84_91 rfl ?_
  refine aw_con j84_93 ?_
  refine aw_ild j84_94 rfl ?_
  refine aw_bin (z := ((5 : Int32) * x5)) j84_96 rfl ?_
  refine aw_ald j84_97 rfl rfl ?_
  refine aw_get j84_98 t_1 f_3 ?_
  refine aw_ild j84_101 rfl ?_
  refine aw_xld j84_103 t_5 e_8 c_9 b_6 f_11 ?_
  refine aw_bin (z := (((5 : Int32) * x5) + y10)) j84_104 rfl ?_
  exact aw_ic j84_105 (fun h => k_12 (of_decide_eq_true h)) (fun h => k_13 (of_decide_eq_false h))
theorem bk84_108 {a0 : Nat} {x1 : Int32} {a2 : Nat} {x3 : Int32} {x4 : Int32} {x5 : Int32} {x6 : Int32} {x7 : Int32} {n_1 : Nat} {i_4 : Nat} {b8 : Nat} {n_10 : Nat} {i_13 : Nat} {y16 : Int32} {i_18 : Nat} {b21 : Nat} {n_23 : Nat} {i_26 : Nat} {y29 : Int32} {i_31 : Nat} {b34 : Nat} {n_36 : Nat} {i_39 : Nat} {y42 : Int32} {i_44 : Nat} {i_47 : Nat} (t_2 : S.1 a2 = some (.inr (0, n_1))) (b_3 : n_1 < 2147483648) (e_5 : ((5 : Int32) * x3) = nI i_4) (c_6 : i_4 < n_1) (t_7 : (av_set S a2 i_4 (.int x5)).1 a0 = some (.inl 10)) (f_9 : (av_set S a2 i_4 (.int x5)).2.1 a0 12 = .ref b8) (t_11 : (av_set S a2 i_4 (.int x5)).1 b8 = some (.inr (0, n_10))) (b_12 : n_10 < 2147483648) (e_14 : x7 = nI i_13) (c_15 : i_13 < n_10) (f_17 : (av_set S a2 i_4 (.int x5)).2.1 b8 i_13 = .int y16) (e_19 : (((5 : Int32) * x3) + (1 : Int32)) = nI i_18) (c_20 : i_18 < n_1) (f_22 : (av_set (av_set S a2 i_4 (.int x5)) a2 i_18 (.int y16)).2.1 a0 13 = .ref b21) (t_24 : (av_set (av_set S a2 i_4 (.int x5)) a2 i_18 (.int y16)).1 b21 = some (.inr (0, n_23))) (b_25 : n_23 < 2147483648) (e_27 : x7 = nI i_26) (c_28 : i_26 < n_23) (f_30 : (av_set (av_set S a2 i_4 (.int x5)) a2 i_18 (.int y16)).2.1 b21 i_26 = .int y29) (e_32 : (((5 : Int32) * x3) + (2 : Int32)) = nI i_31) (c_33 : i_31 < n_1) (f_35 : (av_set (av_set (av_set S a2 i_4 (.int x5)) a2 i_18 (.int y16)) a2 i_31 (.int y29)).2.1 a0 14 = .ref b34) (t_37 : (av_set (av_set (av_set S a2 i_4 (.int x5)) a2 i_18 (.int y16)) a2 i_31 (.int y29)).1 b34 = some (.inr (0, n_36))) (b_38 : n_36 < 2147483648) (e_40 : x7 = nI i_39) (c_41 : i_39 < n_36) (f_43 : (av_set (av_set (av_set S a2 i_4 (.int x5)) a2 i_18 (.int y16)) a2 i_31 (.int y29)).2.1 b34 i_39 = .int y42) (e_45 : (((5 : Int32) * x3) + (3 : Int32)) = nI i_44) (c_46 : i_44 < n_1) (e_48 : (((5 : Int32) * x3) + (4 : Int32)) = nI i_47) (c_49 : i_47 < n_1) (k_50 : aw ext d 84 91 [some (.ref a0), some (.int x1), some (.ref a2), some (.int (x3 + 1)), some (.int x4), some (.int x5), some (.int x6), some (.int (x7 + 1))] [] (av_set (av_set (av_set (av_set (av_set S a2 i_4 (.int x5)) a2 i_18 (.int y16)) a2 i_31 (.int y29)) a2 i_44 (.int y42)) a2 i_47 (.int x6)) Q) : aw ext d 84 108 [some (.ref a0), some (.int x1), some (.ref a2), some (.int x3), some (.int x4), some (.int x5), some (.int x6), some (.int x7)] [] S Q := by
  refine aw_ald j84_108 rfl rfl ?_
  refine aw_con j84_109 ?_
  refine aw_ild j84_110 rfl ?_
  refine aw_bin (z := ((5 : Int32) * x3)) j84_111 rfl ?_
  refine aw_ild j84_112 rfl ?_
  refine aw_xst j84_114 t_2 e_5 c_6 b_3 ?_
  refine aw_ald j84_115 rfl rfl ?_
  refine aw_con j84_116 ?_
  refine aw_ild j84_117 rfl ?_
  refine aw_bin (z := ((5 : Int32) * x3)) j84_118 rfl ?_
  refine aw_con j84_119 ?_
  refine aw_bin (z := (((5 : Int32) * x3) + (1 : Int32))) j84_120 rfl ?_
  refine aw_ald j84_121 rfl rfl ?_
  refine aw_get j84_122 t_7 f_9 ?_
  refine aw_ild j84_125 rfl ?_
  refine aw_xld j84_127 t_11 e_14 c_15 b_12 f_17 ?_
  refine aw_xst j84_128 t_2 e_19 c_20 b_3 ?_
  refine aw_ald j84_129 rfl rfl ?_
  refine aw_con j84_130 ?_
  refine aw_ild j84_131 rfl ?_
  refine aw_bin (z := ((5 : Int32) * x3)) j84_132 rfl ?_
  refine aw_con j84_133 ?_
  refine aw_bin (z := (((5 : Int32) * x3) + (2 : Int32))) j84_134 rfl ?_
  refine aw_ald j84_135 rfl rfl ?_
  refine aw_get j84_136 t_7 f_22 ?_
  refine aw_ild j84_139 rfl ?_
  refine aw_xld j84_141 t_24 e_27 c_28 b_25 f_30 ?_
  refine aw_xst j84_142 t_2 e_32 c_33 b_3 ?_
  refine aw_ald j84_143 rfl rfl ?_
  refine aw_con j84_144 ?_
  refine aw_ild j84_145 rfl ?_
  refine aw_bin (z := ((5 : Int32) * x3)) j84_146 rfl ?_
  refine aw_con j84_147 ?_
  refine aw_bin (z := (((5 : Int32) * x3) + (3 : Int32))) j84_148 rfl ?_
  refine aw_ald j84_149 rfl rfl ?_
  refine aw_get j84_150 t_7 f_35 ?_
  refine aw_ild j84_153 rfl ?_
  refine aw_xld j84_155 t_37 e_40 c_41 b_38 f_43 ?_
  refine aw_xst j84_156 t_2 e_45 c_46 b_3 ?_
  refine aw_ald j84_157 rfl rfl ?_
  refine aw_con j84_158 ?_
  refine aw_ild j84_159 rfl ?_
  refine aw_bin (z := ((5 : Int32) * x3)) j84_160 rfl ?_
  refine aw_con j84_161 ?_
  refine aw_bin (z := (((5 : Int32) * x3) + (4 : Int32))) j84_162 rfl ?_
  refine aw_ild j84_163 rfl ?_
  refine aw_xst j84_165 t_2 e_48 c_49 b_3 ?_
  refine aw_inc j84_166 rfl ?_
  refine aw_inc j84_169 rfl ?_
  exact aw_goto j84_172 k_50
theorem bk84_175 {a0 : Nat} {x1 : Int32} {r2 : Option Nat} {x3 : Int32} {x4 : Int32} {x5 : Int32} {x6 : Int32} {x7 : Int32} {b2 : Nat} {n_4 : Nat} {i_7 : Nat} {y10 : Int32} (t_1 : S.1 a0 = some (.inl 10)) (f_3 : S.2.1 a0 10 = .ref b2) (t_5 : S.1 b2 = some (.inr (0, n_4))) (b_6 : n_4 < 2147483648) (e_8 : x5 = nI i_7) (c_9 : i_7 < n_4) (f_11 : S.2.1 b2 i_7 = .int y10) (k_12 : (y10 < 0) → aw ext d 84 225 [some (.ref a0), some (.int x1), some (va_rf r2), some (.int x3), some (.int x4), some (.int x5), some (.int x6), some (.int x7)] [] S Q) (k_13 : (¬ (y10 < 0)) → aw ext d 84 185 [some (.ref a0), some (.int x1), some (va_rf r2), some (.int x3), some (.int x4), some (.int x5), some (.int x6), some (.int x7)] [] S Q) : aw ext d 84 175 [some (.ref a0), some (.int x1), some (va_rf r2), some (.int x3), some (.int x4), some (.int x5), some (.int x6), some (.int x7)] [] S Q := by
  refine aw_ald j84_175 rfl rfl ?_
  refine aw_get j84_176 t_1 f_3 ?_
  refine aw_ild j84_179 rfl ?_
  refine aw_xld j84_181 t_5 e_8 c_9 b_6 f_11 ?_
  exact aw_if j84_182 (fun h => k_12 (of_decide_eq_true h)) (fun h => k_13 (of_decide_eq_false h))
theorem bk84_185 {a0 : Nat} {x1 : Int32} {r2 : Option Nat} {x3 : Int32} {x4 : Int32} {x5 : Int32} {x6 : Int32} {x7 : Int32} {b2 : Nat} {y4 : Int32} {b6 : Nat} {n_8 : Nat} {i_11 : Nat} {y14 : Int32} {n_16 : Nat} {i_19 : Nat} {b22 : Nat} {y24 : Int32} {n_26 : Nat} {i_29 : Nat} {y32 : Int32} (t_1 : S.1 a0 = some (.inl 10)) (f_3 : S.2.1 a0 15 = .ref b2) (f_5 : S.2.1 a0 17 = .int y4) (f_7 : S.2.1 a0 10 = .ref b6) (t_9 : S.1 b6 = some (.inr (0, n_8))) (b_10 : n_8 < 2147483648) (e_12 : x5 = nI i_11) (c_13 : i_11 < n_8) (f_15 : S.2.1 b6 i_11 = .int y14) (t_17 : S.1 b2 = some (.inr (0, n_16))) (b_18 : n_16 < 2147483648) (e_20 : y4 = nI i_19) (c_21 : i_19 < n_16) (f_23 : (av_set S b2 i_19 (.int y14)).2.1 a0 16 = .ref b22) (f_25 : (av_set S b2 i_19 (.int y14)).2.1 a0 17 = .int y24) (t_27 : (av_set S b2 i_19 (.int y14)).1 b22 = some (.inr (0, n_26))) (b_28 : n_26 < 2147483648) (e_30 : y24 = nI i_29) (c_31 : i_29 < n_26) (f_33 : (av_set (av_set S b2 i_19 (.int y14)) b22 i_29 (.int x6)).2.1 a0 17 = .int y32) (k_34 : aw ext d 84 240 [some (.ref a0), some (.int x1), some (va_rf r2), some (.int x3), some (.int x4), some (.int x5), some (.int x6), some (.int x7)] [] (av_set (av_set (av_set S b2 i_19 (.int y14)) b22 i_29 (.int x6)) a0 17 (.int (y32 + (1 : Int32)))) Q) : aw ext d 84 185 [some (.ref a0), some (.int x1), some (va_rf r2), some (.int x3), some (.int x4), some (.int x5), some (.int x6), some (.int x7)] [] S Q := by
  refine aw_ald j84_185 rfl rfl ?_
  refine aw_get j84_186 t_1 f_3 ?_
  refine aw_ald j84_189 rfl rfl ?_
  refine aw_get j84_190 t_1 f_5 ?_
  refine aw_ald j84_193 rfl rfl ?_
  refine aw_get j84_194 t_1 f_7 ?_
  refine aw_ild j84_197 rfl ?_
  refine aw_xld j84_199 t_9 e_12 c_13 b_10 f_15 ?_
  refine aw_xst j84_200 t_17 e_20 c_21 b_18 ?_
  refine aw_ald j84_201 rfl rfl ?_
  refine aw_get j84_202 t_1 f_23 ?_
  refine aw_ald j84_205 rfl rfl ?_
  refine aw_get j84_206 t_1 f_25 ?_
  refine aw_ild j84_209 rfl ?_
  refine aw_xst j84_211 t_27 e_30 c_31 b_28 ?_
  refine aw_ald j84_212 rfl rfl ?_
  refine aw_dup j84_213 rfl ?_
  refine aw_get j84_214 t_1 f_33 ?_
  refine aw_con j84_217 ?_
  refine aw_bin (z := (y32 + (1 : Int32))) j84_218 rfl ?_
  refine aw_put j84_219 t_1 rfl ?_
  exact aw_goto j84_222 k_34
theorem bk84_225 {a0 : Nat} {x1 : Int32} {r2 : Option Nat} {x3 : Int32} {x4 : Int32} {x5 : Int32} {x6 : Int32} {x7 : Int32} {b2 : Nat} {y4 : Int32} {n_6 : Nat} {i_9 : Nat} {y12 : Int32} {P_14 : av_St → Prop} (t_1 : S.1 a0 = some (.inl 10)) (f_3 : S.2.1 a0 16 = .ref b2) (f_5 : S.2.1 a0 17 = .int y4) (t_7 : S.1 b2 = some (.inr (0, n_6))) (b_8 : n_6 < 2147483648) (e_10 : y4 = nI i_9) (c_11 : i_9 < n_6) (f_13 : S.2.1 b2 i_9 = .int y12) (m_17 : ctv ext d 81 [.ref a0, .int x5, .int y12] S P_14) (k_18 : ∀ S_15, P_14 S_15 → aw ext (d + 1) 84 240 [some (.ref a0), some (.int x1), some (va_rf r2), some (.int x3), some (.int x4), some (.int x5), some (.int x6), some (.int x7)] [] S_15 Q) : aw ext (d + 1) 84 225 [some (.ref a0), some (.int x1), some (va_rf r2), some (.int x3), some (.int x4), some (.int x5), some (.int x6), some (.int x7)] [] S Q := by
  refine aw_ald j84_225 rfl rfl ?_
  refine aw_ild j84_226 rfl ?_
  refine aw_ald j84_228 rfl rfl ?_
  refine aw_get j84_229 t_1 f_3 ?_
  refine aw_ald j84_232 rfl rfl ?_
  refine aw_get j84_233 t_1 f_5 ?_
  refine aw_xld j84_236 t_7 e_10 c_11 b_8 f_13 ?_
  exact aw_callv (as := [.ref a0, .int x5, .int y12]) j84_237 rfl rfl (Nat.le_of_ble_eq_true rfl) cy81.1 cy81.2 (cs_cons rfl (cs_cons rfl (cs_cons rfl cs_nil))) (decide_eq_true t_1) m_17 k_18
theorem bk84_240 {r0 : Option Nat} {x1 : Int32} {r2 : Option Nat} {x3 : Int32} {x4 : Int32} {x5 : Int32} {x6 : Int32} {x7 : Int32}  (k_1 : aw ext d 84 18 [some (va_rf r0), some (.int x1), some (va_rf r2), some (.int x3), some (.int x4), some (.int x5), some (.int x6), some (.int x7)] [] S Q) : aw ext d 84 240 [some (va_rf r0), some (.int x1), some (va_rf r2), some (.int x3), some (.int x4), some (.int x5), some (.int x6), some (.int x7)] [] S Q := by
  exact aw_goto j84_240 k_1
theorem bk84_243 {r0 : Option Nat} {x1 : Int32} {r2 : Option Nat} {x3 : Int32} {x4 : Int32} {o5 : Option Value} {o6 : Option Value} {o7 : Option Value}  (k_1 : Q (some (.int x3)) S) : aw ext d 84 243 [some (va_rf r0), some (.int x1), some (va_rf r2), some (.int x3), some (.int x4), o5, o6, o7] [] S Q := by
  refine aw_ild j84_243 rfl ?_
  exact aw_ret j84_244 (by rw [rt84]; exact rfl) k_1
/-! Ref_step -/
theorem bk85_0 {a0 : Nat} {x1 : Int32} {x2 : Int32} {y2 : Int32} {P_4 : Int32 → av_St → Prop} (t_1 : S.1 a0 = some (.inl 10)) (f_3 : (av_set S a0 0 (.int (0 : Int32))).2.1 a0 25 = .int y2) (m_7 : cti ext d 65 [.int x1, .int (0 : Int32), .int (y2 - (1 : Int32))] (av_set S a0 0 (.int (0 : Int32))) P_4) (k_8 : ∀ v_6 S_5, P_4 v_6 S_5 → aw ext (d + 1) 85 16 [some (.ref a0), some (.int x1), some (.int x2)] [.int v_6] S_5 Q) : aw ext (d + 1) 85 0 [some (.ref a0), some (.int x1), some (.int x2)] [] S Q := by
  refine aw_ald j85_0 rfl rfl ?_
  refine aw_con j85_1 ?_
  refine aw_put j85_2 t_1 rfl ?_
  refine aw_ild j85_5 rfl ?_
  refine aw_con j85_6 ?_
  refine aw_ald j85_7 rfl rfl ?_
  refine aw_get j85_8 t_1 f_3 ?_
  refine aw_con j85_11 ?_
  refine aw_bin (z := (y2 - (1 : Int32))) j85_12 rfl ?_
  exact aw_calli (as := [.int x1, .int (0 : Int32), .int (y2 - (1 : Int32))]) j85_13 rfl rfl (Nat.le_of_ble_eq_true rfl) cy65.1 cy65.2 (cs_cons rfl (cs_cons rfl (cs_cons rfl cs_nil))) rfl m_7 k_8
theorem bk85_16 {r0 : Option Nat} {x1 : Int32} {x2 : Int32} {xk0 : Int32}  (k_1 : (xk0 = 0) → aw ext d 85 41 [some (va_rf r0), some (.int x1), some (.int x2)] [] S Q) (k_2 : (¬ (xk0 = 0)) → aw ext d 85 19 [some (va_rf r0), some (.int x1), some (.int x2)] [] S Q) : aw ext d 85 16 [some (va_rf r0), some (.int x1), some (.int x2)] [.int xk0] S Q := by
  exact aw_if j85_16 (fun h => k_1 (of_decide_eq_true h)) (fun h => k_2 (of_decide_eq_false h))
theorem bk85_19 {r0 : Option Nat} {x1 : Int32} {x2 : Int32} {P_1 : Int32 → av_St → Prop} (m_4 : cti ext d 65 [.int x2, .int (0 : Int32), .int (4 : Int32)] S P_1) (k_5 : ∀ v_3 S_2, P_1 v_3 S_2 → aw ext (d + 1) 85 25 [some (va_rf r0), some (.int x1), some (.int x2)] [.int v_3] S_2 Q) : aw ext (d + 1) 85 19 [some (va_rf r0), some (.int x1), some (.int x2)] [] S Q := by
  refine aw_ild j85_19 rfl ?_
  refine aw_con j85_20 ?_
  refine aw_con j85_21 ?_
  exact aw_calli (as := [.int x2, .int (0 : Int32), .int (4 : Int32)]) j85_22 rfl rfl (Nat.le_of_ble_eq_true rfl) cy65.1 cy65.2 (cs_cons rfl (cs_cons rfl (cs_cons rfl cs_nil))) rfl m_4 k_5
theorem bk85_25 {r0 : Option Nat} {x1 : Int32} {x2 : Int32} {xk0 : Int32}  (k_1 : (xk0 = 0) → aw ext d 85 41 [some (va_rf r0), some (.int x1), some (.int x2)] [] S Q) (k_2 : (¬ (xk0 = 0)) → aw ext d 85 28 [some (va_rf r0), some (.int x1), some (.int x2)] [] S Q) : aw ext d 85 25 [some (va_rf r0), some (.int x1), some (.int x2)] [.int xk0] S Q := by
  exact aw_if j85_25 (fun h => k_1 (of_decide_eq_true h)) (fun h => k_2 (of_decide_eq_false h))
theorem bk85_28 {a0 : Nat} {x1 : Int32} {x2 : Int32} {b2 : Nat} {n_4 : Nat} {i_7 : Nat} {y10 : Int32} (t_1 : S.1 a0 = some (.inl 10)) (f_3 : S.2.1 a0 26 = .ref b2) (t_5 : S.1 b2 = some (.inr (0, n_4))) (b_6 : n_4 < 2147483648) (e_8 : (((5 : Int32) * x1) + x2) = nI i_7) (c_9 : i_7 < n_4) (f_11 : S.2.1 b2 i_7 = .int y10) (k_12 : aw ext d 85 42 [some (.ref a0), some (.int x1), some (.int x2)] [.int y10] S Q) : aw ext d 85 28 [some (.ref a0), some (.int x1), some (.int x2)] [] S Q := by
  refine aw_ald j85_28 rfl rfl ?_
  refine aw_get j85_29 t_1 f_3 ?_
  refine aw_con j85_32 ?_
  refine aw_ild j85_33 rfl ?_
  refine aw_bin (z := ((5 : Int32) * x1)) j85_34 rfl ?_
  refine aw_ild j85_35 rfl ?_
  refine aw_bin (z := (((5 : Int32) * x1) + x2)) j85_36 rfl ?_
  refine aw_xld j85_37 t_5 e_8 c_9 b_6 f_11 ?_
  exact aw_goto j85_38 k_12
theorem bk85_41 {r0 : Option Nat} {x1 : Int32} {x2 : Int32}  (k_1 : aw ext d 85 42 [some (va_rf r0), some (.int x1), some (.int x2)] [.int (-1 : Int32)] S Q) : aw ext d 85 41 [some (va_rf r0), some (.int x1), some (.int x2)] [] S Q := by
  refine aw_con j85_41 ?_
  exact k_1
theorem bk85_42 {r0 : Option Nat} {x1 : Int32} {x2 : Int32} {xk0 : Int32}  (k_1 : Q (some (.int xk0)) S) : aw ext d 85 42 [some (va_rf r0), some (.int x1), some (.int x2)] [.int xk0] S Q := by
  exact aw_ret j85_42 (by rw [rt85]; exact rfl) k_1
/-! Ref_check -/
theorem bk86_0 {a0 : Nat} {x1 : Int32} {o2 : Option Value} {P_2 : Int32 → av_St → Prop} (t_1 : S.1 a0 = some (.inl 10)) (m_5 : cti ext d 70 [.ref a0, .int x1] (av_set S a0 0 (.int (0 : Int32))) P_2) (k_6 : ∀ v_4 S_3, P_2 v_4 S_3 → aw ext (d + 1) 86 10 [some (.ref a0), some (.int x1), o2] [.int v_4] S_3 Q) : aw ext (d + 1) 86 0 [some (.ref a0), some (.int x1), o2] [] S Q := by
  refine aw_ald j86_0 rfl rfl ?_
  refine aw_con j86_1 ?_
  refine aw_put j86_2 t_1 rfl ?_
  refine aw_ald j86_5 rfl rfl ?_
  refine aw_ild j86_6 rfl ?_
  exact aw_calli (as := [.ref a0, .int x1]) j86_7 rfl rfl (Nat.le_of_ble_eq_true rfl) cy70.1 cy70.2 (cs_cons rfl (cs_cons rfl cs_nil)) (decide_eq_true t_1) m_5 k_6
theorem bk86_10 {r0 : Option Nat} {x1 : Int32} {o2 : Option Value} {xk0 : Int32}  (k_1 : (¬ xk0 = 0) → aw ext d 86 15 [some (va_rf r0), some (.int x1), o2] [] S Q) (k_2 : (xk0 = 0) → aw ext d 86 13 [some (va_rf r0), some (.int x1), o2] [] S Q) : aw ext d 86 10 [some (va_rf r0), some (.int x1), o2] [.int xk0] S Q := by
  exact aw_if j86_10 (fun h => k_1 (of_decide_eq_true h)) (fun h => k_2 (Decidable.of_not_not (of_decide_eq_false h)))
theorem bk86_13 {r0 : Option Nat} {x1 : Int32} {o2 : Option Value}  (k_1 : Q (some (.int (-1 : Int32))) S) : aw ext d 86 13 [some (va_rf r0), some (.int x1), o2] [] S Q := by
  refine aw_con j86_13 ?_
  exact aw_ret j86_14 (by rw [rt86]; exact rfl) k_1
theorem bk86_15 {a0 : Nat} {x1 : Int32} {o2 : Option Value} (t_1 : S.1 a0 = some (.inl 10)) (k_2 : aw ext d 86 22 [some (.ref a0), some (.int x1), some (.int (0 : Int32))] [] (av_set S a0 29 (.int (0 : Int32))) Q) : aw ext d 86 15 [some (.ref a0), some (.int x1), o2] [] S Q := by
  refine aw_ald j86_15 rfl rfl ?_
  refine aw_con j86_16 ?_
  refine aw_put j86_17 t_1 rfl ?_
  refine aw_con j86_20 ?_
  refine aw_ist j86_21 (Nat.le_of_ble_eq_true rfl) ?_
  exact k_2
theorem bk86_22 {a0 : Nat} {x1 : Int32} {x2 : Int32} {y2 : Int32} (t_1 : S.1 a0 = some (.inl 10)) (f_3 : S.2.1 a0 5 = .int y2) (k_4 : (y2 ≤ x2) → aw ext d 86 51 [some (.ref a0), some (.int x1), some (.int x2)] [] S Q) (k_5 : (¬ (y2 ≤ x2)) → aw ext d 86 30 [some (.ref a0), some (.int x1), some (.int x2)] [] S Q) : aw ext d 86 22 [some (.ref a0), some (.int x1), some (.int x2)] [] S Q := by
  refine aw_ild j86_22 rfl ?_
  refine aw_ald j86_23 rfl rfl ?_
  refine aw_get j86_24 t_1 f_3 ?_
  exact aw_ic j86_27 (fun h => k_4 (of_decide_eq_true h)) (fun h => k_5 (of_decide_eq_false h))
theorem bk86_30 {a0 : Nat} {x1 : Int32} {x2 : Int32} {b2 : Nat} {n_4 : Nat} {i_7 : Nat} {y10 : Int32} (t_1 : S.1 a0 = some (.inl 10)) (f_3 : S.2.1 a0 6 = .ref b2) (t_5 : S.1 b2 = some (.inr (0, n_4))) (b_6 : n_4 < 2147483648) (e_8 : x2 = nI i_7) (c_9 : i_7 < n_4) (f_11 : S.2.1 b2 i_7 = .int y10) (k_12 : (¬ y10 = x1) → aw ext d 86 45 [some (.ref a0), some (.int x1), some (.int x2)] [] S Q) (k_13 : (y10 = x1) → aw ext d 86 40 [some (.ref a0), some (.int x1), some (.int x2)] [] S Q) : aw ext d 86 30 [some (.ref a0), some (.int x1), some (.int x2)] [] S Q := by
  refine aw_ald j86_30 rfl rfl ?_
  refine aw_get j86_31 t_1 f_3 ?_
  refine aw_ild j86_34 rfl ?_
  refine aw_xld j86_35 t_5 e_8 c_9 b_6 f_11 ?_
  refine aw_ild j86_36 rfl ?_
  exact aw_ic j86_37 (fun h => k_12 (of_decide_eq_true h)) (fun h => k_13 (Decidable.of_not_not (of_decide_eq_false h)))
theorem bk86_40 {a0 : Nat} {x1 : Int32} {x2 : Int32} {P_1 : av_St → Prop} (t_4 : S.1 a0 = some (.inl 10)) (m_5 : ctv ext d 87 [.ref a0, .int x2] S P_1) (k_6 : ∀ S_2, P_1 S_2 → aw ext (d + 1) 86 45 [some (.ref a0), some (.int x1), some (.int x2)] [] S_2 Q) : aw ext (d + 1) 86 40 [some (.ref a0), some (.int x1), some (.int x2)] [] S Q := by
  refine aw_ald j86_40 rfl rfl ?_
  refine aw_ild j86_41 rfl ?_
  exact aw_callv (as := [.ref a0, .int x2]) j86_42 rfl rfl (Nat.le_of_ble_eq_true rfl) cy87.1 cy87.2 (cs_cons rfl (cs_cons rfl cs_nil)) (decide_eq_true t_4) m_5 k_6
theorem bk86_45 {r0 : Option Nat} {x1 : Int32} {x2 : Int32}  (k_1 : aw ext d 86 22 [some (va_rf r0), some (.int x1), some (.int (x2 + 1))] [] S Q) : aw ext d 86 45 [some (va_rf r0), some (.int x1), some (.int x2)] [] S Q := by
  refine aw_inc j86_45 rfl ?_
  exact aw_goto j86_48 k_1
theorem bk86_51 {a0 : Nat} {x1 : Int32} {x2 : Int32} {b2 : Nat} {n_4 : Nat} {i_7 : Nat} {y10 : Int32} (t_1 : S.1 a0 = some (.inl 10)) (f_3 : S.2.1 a0 4 = .ref b2) (t_5 : S.1 b2 = some (.inr (0, n_4))) (b_6 : n_4 < 2147483648) (e_8 : x1 = nI i_7) (c_9 : i_7 < n_4) (f_11 : S.2.1 b2 i_7 = .int y10) (k_12 : (¬ y10 = 0) → aw ext d 86 94 [some (.ref a0), some (.int x1), some (.int x2)] [] S Q) (k_13 : (y10 = 0) → aw ext d 86 60 [some (.ref a0), some (.int x1), some (.int x2)] [] S Q) : aw ext d 86 51 [some (.ref a0), some (.int x1), some (.int x2)] [] S Q := by
  refine aw_ald j86_51 rfl rfl ?_
  refine aw_get j86_52 t_1 f_3 ?_
  refine aw_ild j86_55 rfl ?_
  refine aw_xld j86_56 t_5 e_8 c_9 b_6 f_11 ?_
  exact aw_if j86_57 (fun h => k_12 (of_decide_eq_true h)) (fun h => k_13 (Decidable.of_not_not (of_decide_eq_false h)))
theorem bk86_60 {a0 : Nat} {x1 : Int32} {x2 : Int32} {q2 : Option Nat} {P_4 : Int32 → av_St → Prop} (t_1 : S.1 a0 = some (.inl 10)) (f_3 : S.2.1 a0 28 = va_rf q2) (m_7 : cti ext d 84 [.ref a0, .int x1, va_rf q2] S P_4) (k_8 : ∀ v_6 S_5, P_4 v_6 S_5 → aw ext (d + 1) 86 70 [some (.ref a0), some (.int x1), some (.int x2)] [.int v_6, .ref a0] S_5 Q) : aw ext (d + 1) 86 60 [some (.ref a0), some (.int x1), some (.int x2)] [] S Q := by
  refine aw_ald j86_60 rfl rfl ?_
  refine aw_ald j86_61 rfl rfl ?_
  refine aw_ild j86_62 rfl ?_
  refine aw_ald j86_63 rfl rfl ?_
  refine aw_get j86_64 t_1 f_3 ?_
  exact aw_calli (as := [.ref a0, .int x1, va_rf q2]) j86_67 rfl rfl (Nat.le_of_ble_eq_true rfl) cy84.1 cy84.2 (cs_cons rfl (cs_cons rfl (cs_cons (av_cat_rf q2) cs_nil))) (decide_eq_true t_1) m_7 k_8
theorem bk86_70 {r0 : Option Nat} {x1 : Int32} {x2 : Int32} {ak0 : Nat} {xk1 : Int32} (t_1 : S.1 ak0 = some (.inl 10)) (k_2 : aw ext d 86 75 [some (va_rf r0), some (.int x1), some (.int (0 : Int32))] [] (av_set S ak0 27 (.int xk1)) Q) : aw ext d 86 70 [some (va_rf r0), some (.int x1), some (.int x2)] [.int xk1, .ref ak0] S Q := by
  refine aw_put j86_70 t_1 rfl ?_
  refine aw_con j86_73 ?_
  refine aw_ist j86_74 (Nat.le_of_ble_eq_true rfl) ?_
  exact k_2
theorem bk86_75 {a0 : Nat} {x1 : Int32} {x2 : Int32} {y2 : Int32} (t_1 : S.1 a0 = some (.inl 10)) (f_3 : S.2.1 a0 1 = .int y2) (k_4 : (y2 ≤ x2) → aw ext d 86 94 [some (.ref a0), some (.int x1), some (.int x2)] [] S Q) (k_5 : (¬ (y2 ≤ x2)) → aw ext d 86 83 [some (.ref a0), some (.int x1), some (.int x2)] [] S Q) : aw ext d 86 75 [some (.ref a0), some (.int x1), some (.int x2)] [] S Q := by
  refine aw_ild j86_75 rfl ?_
  refine aw_ald j86_76 rfl rfl ?_
  refine aw_get j86_77 t_1 f_3 ?_
  exact aw_ic j86_80 (fun h => k_4 (of_decide_eq_true h)) (fun h => k_5 (of_decide_eq_false h))
theorem bk86_83 {a0 : Nat} {x1 : Int32} {x2 : Int32} {P_1 : av_St → Prop} (t_4 : S.1 a0 = some (.inl 10)) (m_5 : ctv ext d 89 [.ref a0, .int x2] S P_1) (k_6 : ∀ S_2, P_1 S_2 → aw ext (d + 1) 86 88 [some (.ref a0), some (.int x1), some (.int x2)] [] S_2 Q) : aw ext (d + 1) 86 83 [some (.ref a0), some (.int x1), some (.int x2)] [] S Q := by
  refine aw_ald j86_83 rfl rfl ?_
  refine aw_ild j86_84 rfl ?_
  exact aw_callv (as := [.ref a0, .int x2]) j86_85 rfl rfl (Nat.le_of_ble_eq_true rfl) cy89.1 cy89.2 (cs_cons rfl (cs_cons rfl cs_nil)) (decide_eq_true t_4) m_5 k_6
theorem bk86_88 {r0 : Option Nat} {x1 : Int32} {x2 : Int32}  (k_1 : aw ext d 86 75 [some (va_rf r0), some (.int x1), some (.int (x2 + 1))] [] S Q) : aw ext d 86 88 [some (va_rf r0), some (.int x1), some (.int x2)] [] S Q := by
  refine aw_inc j86_88 rfl ?_
  exact aw_goto j86_91 k_1
theorem bk86_94 {a0 : Nat} {x1 : Int32} {x2 : Int32} {y2 : Int32} (t_1 : S.1 a0 = some (.inl 10)) (f_3 : S.2.1 a0 29 = .int y2) (k_4 : Q (some (.int y2)) S) : aw ext d 86 94 [some (.ref a0), some (.int x1), some (.int x2)] [] S Q := by
  refine aw_ald j86_94 rfl rfl ?_
  refine aw_get j86_95 t_1 f_3 ?_
  exact aw_ret j86_98 (by rw [rt86]; exact rfl) k_4
/-! Ref_checkDivision -/
theorem bk87_0 {a0 : Nat} {x1 : Int32} {o2 : Option Value} {o3 : Option Value} {o4 : Option Value} {b2 : Nat} {n_4 : Nat} {i_7 : Nat} {y10 : Int32} (t_1 : S.1 a0 = some (.inl 10)) (f_3 : S.2.1 a0 11 = .ref b2) (t_5 : S.1 b2 = some (.inr (0, n_4))) (b_6 : n_4 < 2147483648) (e_8 : x1 = nI i_7) (c_9 : i_7 < n_4) (f_11 : S.2.1 b2 i_7 = .int y10) (k_12 : (¬ y10 = 0) → aw ext d 87 32 [some (.ref a0), some (.int x1), o2, o3, o4] [] S Q) (k_13 : (y10 = 0) → aw ext d 87 9 [some (.ref a0), some (.int x1), o2, o3, o4] [] S Q) : aw ext d 87 0 [some (.ref a0), some (.int x1), o2, o3, o4] [] S Q := by
  refine aw_ald j87_0 rfl rfl ?_
  refine aw_get j87_1 t_1 f_3 ?_
  refine aw_ild j87_4 rfl ?_
  refine aw_xld j87_5 t_5 e_8 c_9 b_6 f_11 ?_
  exact aw_if j87_6 (fun h => k_12 (of_decide_eq_true h)) (fun h => k_13 (Decidable.of_not_not (of_decide_eq_false h)))
theorem bk87_9 {a0 : Nat} {x1 : Int32} {o2 : Option Value} {o3 : Option Value} {o4 : Option Value} {P_1 : Int32 → av_St → Prop} (t_4 : S.1 a0 = some (.inl 10)) (m_5 : cti ext d 74 [.ref a0, .int x1] S P_1) (k_6 : ∀ v_3 S_2, P_1 v_3 S_2 → aw ext (d + 1) 87 14 [some (.ref a0), some (.int x1), o2, o3, o4] [.int v_3] S_2 Q) : aw ext (d + 1) 87 9 [some (.ref a0), some (.int x1), o2, o3, o4] [] S Q := by
  refine aw_ald j87_9 rfl rfl ?_
  refine aw_ild j87_10 rfl ?_
  exact aw_calli (as := [.ref a0, .int x1]) j87_11 rfl rfl (Nat.le_of_ble_eq_true rfl) cy74.1 cy74.2 (cs_cons rfl (cs_cons rfl cs_nil)) (decide_eq_true t_4) m_5 k_6
theorem bk87_14 {r0 : Option Nat} {x1 : Int32} {o2 : Option Value} {o3 : Option Value} {o4 : Option Value} {xk0 : Int32}  (k_1 : (¬ xk0 = 0) → aw ext d 87 32 [some (va_rf r0), some (.int x1), o2, o3, o4] [] S Q) (k_2 : (xk0 = 0) → aw ext d 87 17 [some (va_rf r0), some (.int x1), o2, o3, o4] [] S Q) : aw ext d 87 14 [some (va_rf r0), some (.int x1), o2, o3, o4] [.int xk0] S Q := by
  exact aw_if j87_14 (fun h => k_1 (of_decide_eq_true h)) (fun h => k_2 (Decidable.of_not_not (of_decide_eq_false h)))
theorem bk87_17 {a0 : Nat} {x1 : Int32} {o2 : Option Value} {o3 : Option Value} {o4 : Option Value} {b2 : Nat} {n_4 : Nat} {i_7 : Nat} {y10 : Int32} (t_1 : S.1 a0 = some (.inl 10)) (f_3 : S.2.1 a0 10 = .ref b2) (t_5 : S.1 b2 = some (.inr (0, n_4))) (b_6 : n_4 < 2147483648) (e_8 : x1 = nI i_7) (c_9 : i_7 < n_4) (f_11 : S.2.1 b2 i_7 = .int y10) (k_12 : (0 ≤ y10) → aw ext d 87 32 [some (.ref a0), some (.int x1), o2, o3, o4] [] S Q) (k_13 : (¬ (0 ≤ y10)) → aw ext d 87 26 [some (.ref a0), some (.int x1), o2, o3, o4] [] S Q) : aw ext d 87 17 [some (.ref a0), some (.int x1), o2, o3, o4] [] S Q := by
  refine aw_ald j87_17 rfl rfl ?_
  refine aw_get j87_18 t_1 f_3 ?_
  refine aw_ild j87_21 rfl ?_
  refine aw_xld j87_22 t_5 e_8 c_9 b_6 f_11 ?_
  exact aw_if j87_23 (fun h => k_12 (of_decide_eq_true h)) (fun h => k_13 (of_decide_eq_false h))
theorem bk87_26 {a0 : Nat} {x1 : Int32} {o2 : Option Value} {o3 : Option Value} {o4 : Option Value} {P_1 : av_St → Prop} (t_4 : S.1 a0 = some (.inl 10)) (m_5 : ctv ext d 88 [.ref a0, .int (1 : Int32), .int x1] S P_1) (k_6 : ∀ S_2, P_1 S_2 → aw ext (d + 1) 87 32 [some (.ref a0), some (.int x1), o2, o3, o4] [] S_2 Q) : aw ext (d + 1) 87 26 [some (.ref a0), some (.int x1), o2, o3, o4] [] S Q := by
  refine aw_ald j87_26 rfl rfl ?_
  refine aw_con j87_27 ?_
  refine aw_ild j87_28 rfl ?_
  exact aw_callv (as := [.ref a0, .int (1 : Int32), .int x1]) j87_29 rfl rfl (Nat.le_of_ble_eq_true rfl) cy88.1 cy88.2 (cs_cons rfl (cs_cons rfl (cs_cons rfl cs_nil))) (decide_eq_true t_4) m_5 k_6
theorem bk87_32 {r0 : Option Nat} {x1 : Int32} {o2 : Option Value} {o3 : Option Value} {o4 : Option Value}  (k_1 : aw ext d 87 36 [some (va_rf r0), some (.int x1), some (.int (0 : Int32)), some (.int (0 : Int32)), o4] [] S Q) : aw ext d 87 32 [some (va_rf r0), some (.int x1), o2, o3, o4] [] S Q := by
  refine aw_con j87_32 ?_
  refine aw_ist j87_33 (Nat.le_of_ble_eq_true rfl) ?_
  refine aw_con j87_34 ?_
  refine aw_ist j87_35 (Nat.le_of_ble_eq_true rfl) ?_
  exact k_1
theorem bk87_36 {r0 : Option Nat} {x1 : Int32} {x2 : Int32} {x3 : Int32} {o4 : Option Value}  (k_1 : (x1 ≤ x3) → aw ext d 87 102 [some (va_rf r0), some (.int x1), some (.int x2), some (.int x3), o4] [] S Q) (k_2 : (¬ (x1 ≤ x3)) → aw ext d 87 41 [some (va_rf r0), some (.int x1), some (.int x2), some (.int x3), o4] [] S Q) : aw ext d 87 36 [some (va_rf r0), some (.int x1), some (.int x2), some (.int x3), o4] [] S Q := by
  refine aw_ild j87_36 rfl ?_
  refine aw_ild j87_37 rfl ?_
  exact aw_ic j87_38 (fun h => k_1 (of_decide_eq_true h)) (fun h => k_2 (of_decide_eq_false h))
theorem bk87_41 {r0 : Option Nat} {x1 : Int32} {x2 : Int32} {x3 : Int32} {o4 : Option Value}  (k_1 : (¬ x2 = 0) → aw ext d 87 90 [some (va_rf r0), some (.int x1), some (.int x2), some (.int x3), o4] [] S Q) (k_2 : (x2 = 0) → aw ext d 87 45 [some (va_rf r0), some (.int x1), some (.int x2), some (.int x3), o4] [] S Q) : aw ext d 87 41 [some (va_rf r0), some (.int x1), some (.int x2), some (.int x3), o4] [] S Q := by
  refine aw_ild j87_41 rfl ?_
  exact aw_if j87_42 (fun h => k_1 (of_decide_eq_true h)) (fun h => k_2 (Decidable.of_not_not (of_decide_eq_false h)))
theorem bk87_45 {a0 : Nat} {x1 : Int32} {x2 : Int32} {x3 : Int32} {o4 : Option Value} {b2 : Nat} {n_4 : Nat} {i_7 : Nat} {y10 : Int32} {i_12 : Nat} {y15 : Int32} (t_1 : S.1 a0 = some (.inl 10)) (f_3 : S.2.1 a0 6 = .ref b2) (t_5 : S.1 b2 = some (.inr (0, n_4))) (b_6 : n_4 < 2147483648) (e_8 : x3 = nI i_7) (c_9 : i_7 < n_4) (f_11 : S.2.1 b2 i_7 = .int y10) (e_13 : x1 = nI i_12) (c_14 : i_12 < n_4) (f_16 : S.2.1 b2 i_12 = .int y15) (k_17 : (¬ y10 = y15) → aw ext d 87 94 [some (.ref a0), some (.int x1), some (.int x2), some (.int x3), o4] [] S Q) (k_18 : (y10 = y15) → aw ext d 87 60 [some (.ref a0), some (.int x1), some (.int x2), some (.int x3), o4] [] S Q) : aw ext d 87 45 [some (.ref a0), some (.int x1), some (.int x2), some (.int x3), o4] [] S Q := by
  refine aw_ald j87_45 rfl rfl ?_
  refine aw_get j87_46 t_1 f_3 ?_
  refine aw_ild j87_49 rfl ?_
  refine aw_xld j87_50 t_5 e_8 c_9 b_6 f_11 ?_
  refine aw_ald j87_51 rfl rfl ?_
  refine aw_get j87_52 t_1 f_3 ?_
  refine aw_ild j87_55 rfl ?_
  refine aw_xld j87_56 t_5 e_13 c_14 b_6 f_16 ?_
  exact aw_ic j87_57 (fun h => k_17 (of_decide_eq_true h)) (fun h => k_18 (Decidable.of_not_not (of_decide_eq_false h)))
theorem bk87_60 {a0 : Nat} {x1 : Int32} {x2 : Int32} {x3 : Int32} {o4 : Option Value} {b2 : Nat} {n_4 : Nat} {i_7 : Nat} {y10 : Int32} {i_12 : Nat} {y15 : Int32} (t_1 : S.1 a0 = some (.inl 10)) (f_3 : S.2.1 a0 7 = .ref b2) (t_5 : S.1 b2 = some (.inr (0, n_4))) (b_6 : n_4 < 2147483648) (e_8 : x3 = nI i_7) (c_9 : i_7 < n_4) (f_11 : S.2.1 b2 i_7 = .int y10) (e_13 : x1 = nI i_12) (c_14 : i_12 < n_4) (f_16 : S.2.1 b2 i_12 = .int y15) (k_17 : (¬ y10 = y15) → aw ext d 87 94 [some (.ref a0), some (.int x1), some (.int x2), some (.int x3), o4] [] S Q) (k_18 : (y10 = y15) → aw ext d 87 75 [some (.ref a0), some (.int x1), some (.int x2), some (.int x3), o4] [] S Q) : aw ext d 87 60 [some (.ref a0), some (.int x1), some (.int x2), some (.int x3), o4] [] S Q := by
  refine aw_ald j87_60 rfl rfl ?_
  refine aw_get j87_61 t_1 f_3 ?_
  refine aw_ild j87_64 rfl ?_
  refine aw_xld j87_65 t_5 e_8 c_9 b_6 f_11 ?_
  refine aw_ald j87_66 rfl rfl ?_
  refine aw_get j87_67 t_1 f_3 ?_
  refine aw_ild j87_70 rfl ?_
  refine aw_xld j87_71 t_5 e_13 c_14 b_6 f_16 ?_
  exact aw_ic j87_72 (fun h => k_17 (of_decide_eq_true h)) (fun h => k_18 (Decidable.of_not_not (of_decide_eq_false h)))
theorem bk87_75 {a0 : Nat} {x1 : Int32} {x2 : Int32} {x3 : Int32} {o4 : Option Value} {b2 : Nat} {n_4 : Nat} {i_7 : Nat} {y10 : Int32} {i_12 : Nat} {y15 : Int32} (t_1 : S.1 a0 = some (.inl 10)) (f_3 : S.2.1 a0 8 = .ref b2) (t_5 : S.1 b2 = some (.inr (0, n_4))) (b_6 : n_4 < 2147483648) (e_8 : x3 = nI i_7) (c_9 : i_7 < n_4) (f_11 : S.2.1 b2 i_7 = .int y10) (e_13 : x1 = nI i_12) (c_14 : i_12 < n_4) (f_16 : S.2.1 b2 i_12 = .int y15) (k_17 : (¬ y10 = y15) → aw ext d 87 94 [some (.ref a0), some (.int x1), some (.int x2), some (.int x3), o4] [] S Q) (k_18 : (y10 = y15) → aw ext d 87 90 [some (.ref a0), some (.int x1), some (.int x2), some (.int x3), o4] [] S Q) : aw ext d 87 75 [some (.ref a0), some (.int x1), some (.int x2), some (.int x3), o4] [] S Q := by
  refine aw_ald j87_75 rfl rfl ?_
  refine aw_get j87_76 t_1 f_3 ?_
  refine aw_ild j87_79 rfl ?_
  refine aw_xld j87_80 t_5 e_8 c_9 b_6 f_11 ?_
  refine aw_ald j87_81 rfl rfl ?_
  refine aw_get j87_82 t_1 f_3 ?_
  refine aw_ild j87_85 rfl ?_
  refine aw_xld j87_86 t_5 e_13 c_14 b_6 f_16 ?_
  exact aw_ic j87_87 (fun h => k_17 (of_decide_eq_true h)) (fun h => k_18 (Decidable.of_not_not (of_decide_eq_false h)))
theorem bk87_90 {r0 : Option Nat} {x1 : Int32} {x2 : Int32} {x3 : Int32} {o4 : Option Value}  (k_1 : aw ext d 87 95 [some (va_rf r0), some (.int x1), some (.int x2), some (.int x3), o4] [.int (1 : Int32)] S Q) : aw ext d 87 90 [some (va_rf r0), some (.int x1), some (.int x2), some (.int x3), o4] [] S Q := by
  refine aw_con j87_90 ?_
  exact aw_goto j87_91 k_1
theorem bk87_94 {r0 : Option Nat} {x1 : Int32} {x2 : Int32} {x3 : Int32} {o4 : Option Value}  (k_1 : aw ext d 87 95 [some (va_rf r0), some (.int x1), some (.int x2), some (.int x3), o4] [.int (0 : Int32)] S Q) : aw ext d 87 94 [some (va_rf r0), some (.int x1), some (.int x2), some (.int x3), o4] [] S Q := by
  refine aw_con j87_94 ?_
  exact k_1
theorem bk87_95 {r0 : Option Nat} {x1 : Int32} {x2 : Int32} {x3 : Int32} {o4 : Option Value} {xk0 : Int32}  (k_1 : aw ext d 87 36 [some (va_rf r0), some (.int x1), some (.int xk0), some (.int (x3 + 1)), o4] [] S Q) : aw ext d 87 95 [some (va_rf r0), some (.int x1), some (.int x2), some (.int x3), o4] [.int xk0] S Q := by
  refine aw_ist j87_95 (Nat.le_of_ble_eq_true rfl) ?_
  refine aw_inc j87_96 rfl ?_
  exact aw_goto j87_99 k_1
theorem bk87_102 {r0 : Option Nat} {x1 : Int32} {x2 : Int32} {x3 : Int32} {o4 : Option Value}  (k_1 : (x2 = 0) → aw ext d 87 112 [some (va_rf r0), some (.int x1), some (.int x2), some (.int x3), o4] [] S Q) (k_2 : (¬ (x2 = 0)) → aw ext d 87 106 [some (va_rf r0), some (.int x1), some (.int x2), some (.int x3), o4] [] S Q) : aw ext d 87 102 [some (va_rf r0), some (.int x1), some (.int x2), some (.int x3), o4] [] S Q := by
  refine aw_ild j87_102 rfl ?_
  exact aw_if j87_103 (fun h => k_1 (of_decide_eq_true h)) (fun h => k_2 (of_decide_eq_false h))
theorem bk87_106 {a0 : Nat} {x1 : Int32} {x2 : Int32} {x3 : Int32} {o4 : Option Value} {P_1 : av_St → Prop} (t_4 : S.1 a0 = some (.inl 10)) (m_5 : ctv ext d 88 [.ref a0, .int (2 : Int32), .int x1] S P_1) (k_6 : ∀ S_2, P_1 S_2 → aw ext (d + 1) 87 112 [some (.ref a0), some (.int x1), some (.int x2), some (.int x3), o4] [] S_2 Q) : aw ext (d + 1) 87 106 [some (.ref a0), some (.int x1), some (.int x2), some (.int x3), o4] [] S Q := by
  refine aw_ald j87_106 rfl rfl ?_
  refine aw_con j87_107 ?_
  refine aw_ild j87_108 rfl ?_
  exact aw_callv (as := [.ref a0, .int (2 : Int32), .int x1]) j87_109 rfl rfl (Nat.le_of_ble_eq_true rfl) cy88.1 cy88.2 (cs_cons rfl (cs_cons rfl (cs_cons rfl cs_nil))) (decide_eq_true t_4) m_5 k_6
theorem bk87_112 {r0 : Option Nat} {x1 : Int32} {x2 : Int32} {x3 : Int32} {o4 : Option Value}  (k_1 : aw ext d 87 119 [some (va_rf r0), some (.int x1), some (.int x2), some (.int (0 : Int32)), some (.int ((5 : Int32) * x1))] [] S Q) : aw ext d 87 112 [some (va_rf r0), some (.int x1), some (.int x2), some (.int x3), o4] [] S Q := by
  refine aw_con j87_112 ?_
  refine aw_ist j87_113 (Nat.le_of_ble_eq_true rfl) ?_
  refine aw_con j87_114 ?_
  refine aw_ild j87_115 rfl ?_
  refine aw_bin (z := ((5 : Int32) * x1)) j87_116 rfl ?_
  refine aw_ist j87_117 (Nat.le_of_ble_eq_true rfl) ?_
  exact k_1
theorem bk87_119 {a0 : Nat} {x1 : Int32} {x2 : Int32} {x3 : Int32} {x4 : Int32} {b2 : Nat} {n_4 : Nat} {i_7 : Nat} {y10 : Int32} (t_1 : S.1 a0 = some (.inl 10)) (f_3 : S.2.1 a0 11 = .ref b2) (t_5 : S.1 b2 = some (.inr (0, n_4))) (b_6 : n_4 < 2147483648) (e_8 : x1 = nI i_7) (c_9 : i_7 < n_4) (f_11 : S.2.1 b2 i_7 = .int y10) (k_12 : ((((5 : Int32) * x1) + y10) ≤ x4) → aw ext d 87 172 [some (.ref a0), some (.int x1), some (.int x2), some (.int x3), some (.int x4)] [] S Q) (k_13 : (¬ ((((5 : Int32) * x1) + y10) ≤ x4)) → aw ext d 87 134 [some (.ref a0), some (.int x1), some (.int x2), some (.int x3), some (.int x4)] [] S Q) : aw ext d 87 119 [some (.ref a0), some (.int x1), some (.int x2), some (.int x3), some (.int x4)] [] S Q := by
  refine aw_ild j87_119 rfl ?_
  refine aw_con j87_121 ?_
  refine aw_ild j87_122 rfl ?_
  refine aw_bin (z := ((5 : Int32) * x1)) j87_123 rfl ?_
  refine aw_ald j87_124 rfl rfl ?_
  refine aw_get j87_125 t_1 f_3 ?_
  refine aw_ild j87_128 rfl ?_
  refine aw_xld j87_129 t_5 e_8 c_9 b_6 f_11 ?_
  refine aw_bin (z := (((5 : Int32) * x1) + y10)) j87_130 rfl ?_
  exact aw_ic j87_131 (fun h => k_12 (of_decide_eq_true h)) (fun h => k_13 (of_decide_eq_false h))
theorem bk87_134 {r0 : Option Nat} {x1 : Int32} {x2 : Int32} {x3 : Int32} {x4 : Int32}  (k_1 : (¬ x3 = 0) → aw ext d 87 160 [some (va_rf r0), some (.int x1), some (.int x2), some (.int x3), some (.int x4)] [] S Q) (k_2 : (x3 = 0) → aw ext d 87 138 [some (va_rf r0), some (.int x1), some (.int x2), some (.int x3), some (.int x4)] [] S Q) : aw ext d 87 134 [some (va_rf r0), some (.int x1), some (.int x2), some (.int x3), some (.int x4)] [] S Q := by
  refine aw_ild j87_134 rfl ?_
  exact aw_if j87_135 (fun h => k_1 (of_decide_eq_true h)) (fun h => k_2 (Decidable.of_not_not (of_decide_eq_false h)))
theorem bk87_138 {a0 : Nat} {x1 : Int32} {x2 : Int32} {x3 : Int32} {x4 : Int32} {b2 : Nat} {n_4 : Nat} {i_7 : Nat} {y10 : Int32} {b12 : Nat} {b14 : Nat} {n_16 : Nat} {i_19 : Nat} {y22 : Int32} {n_24 : Nat} {i_27 : Nat} {y30 : Int32} (t_1 : S.1 a0 = some (.inl 10)) (f_3 : S.2.1 a0 14 = .ref b2) (t_5 : S.1 b2 = some (.inr (0, n_4))) (b_6 : n_4 < 2147483648) (e_8 : x4 = nI i_7) (c_9 : i_7 < n_4) (f_11 : S.2.1 b2 i_7 = .int y10) (f_13 : S.2.1 a0 2 = .ref b12) (f_15 : S.2.1 a0 12 = .ref b14) (t_17 : S.1 b14 = some (.inr (0, n_16))) (b_18 : n_16 < 2147483648) (e_20 : x4 = nI i_19) (c_21 : i_19 < n_16) (f_23 : S.2.1 b14 i_19 = .int y22) (t_25 : S.1 b12 = some (.inr (0, n_24))) (b_26 : n_24 < 2147483648) (e_28 : y22 = nI i_27) (c_29 : i_27 < n_24) (f_31 : S.2.1 b12 i_27 = .int y30) (k_32 : (y10 ≤ y30) → aw ext d 87 164 [some (.ref a0), some (.int x1), some (.int x2), some (.int x3), some (.int x4)] [] S Q) (k_33 : (¬ (y10 ≤ y30)) → aw ext d 87 160 [some (.ref a0), some (.int x1), some (.int x2), some (.int x3), some (.int x4)] [] S Q) : aw ext d 87 138 [some (.ref a0), some (.int x1), some (.int x2), some (.int x3), some (.int x4)] [] S Q := by
  refine aw_ald j87_138 rfl rfl ?_
  refine aw_get j87_139 t_1 f_3 ?_
  refine aw_ild j87_142 rfl ?_
  refine aw_xld j87_144 t_5 e_8 c_9 b_6 f_11 ?_
  refine aw_ald j87_145 rfl rfl ?_
  refine aw_get j87_146 t_1 f_13 ?_
  refine aw_ald j87_149 rfl rfl ?_
  refine aw_get j87_150 t_1 f_15 ?_
  refine aw_ild j87_153 rfl ?_
  refine aw_xld j87_155 t_17 e_20 c_21 b_18 f_23 ?_
  refine aw_xld j87_156 t_25 e_28 c_29 b_26 f_31 ?_
  exact aw_ic j87_157 (fun h => k_32 (of_decide_eq_true h)) (fun h => k_33 (of_decide_eq_false h))
theorem bk87_160 {r0 : Option Nat} {x1 : Int32} {x2 : Int32} {x3 : Int32} {x4 : Int32}  (k_1 : aw ext d 87 165 [some (va_rf r0), some (.int x1), some (.int x2), some (.int x3), some (.int x4)] [.int (1 : Int32)] S Q) : aw ext d 87 160 [some (va_rf r0), some (.int x1), some (.int x2), some (.int x3), some (.int x4)] [] S Q := by
  refine aw_con j87_160 ?_
  exact aw_goto j87_161 k_1
theorem bk87_164 {r0 : Option Nat} {x1 : Int32} {x2 : Int32} {x3 : Int32} {x4 : Int32}  (k_1 : aw ext d 87 165 [some (va_rf r0), some (.int x1), some (.int x2), some (.int x3), some (.int x4)] [.int (0 : Int32)] S Q) : aw ext d 87 164 [some (va_rf r0), some (.int x1), some (.int x2), some (.int x3), some (.int x4)] [] S Q := by
  refine aw_con j87_164 ?_
  exact k_1
theorem bk87_165 {r0 : Option Nat} {x1 : Int32} {x2 : Int32} {x3 : Int32} {x4 : Int32} {xk0 : Int32}  (k_1 : aw ext d 87 119 [some (va_rf r0), some (.int x1), some (.int x2), some (.int xk0), some (.int (x4 + 1))] [] S Q) : aw ext d 87 165 [some (va_rf r0), some (.int x1), some (.int x2), some (.int x3), some (.int x4)] [.int xk0] S Q := by
  refine aw_ist j87_165 (Nat.le_of_ble_eq_true rfl) ?_
  refine aw_inc j87_166 rfl ?_
  exact aw_goto j87_169 k_1
theorem bk87_172 {r0 : Option Nat} {x1 : Int32} {x2 : Int32} {x3 : Int32} {x4 : Int32}  (k_1 : (x3 = 0) → aw ext d 87 182 [some (va_rf r0), some (.int x1), some (.int x2), some (.int x3), some (.int x4)] [] S Q) (k_2 : (¬ (x3 = 0)) → aw ext d 87 176 [some (va_rf r0), some (.int x1), some (.int x2), some (.int x3), some (.int x4)] [] S Q) : aw ext d 87 172 [some (va_rf r0), some (.int x1), some (.int x2), some (.int x3), some (.int x4)] [] S Q := by
  refine aw_ild j87_172 rfl ?_
  exact aw_if j87_173 (fun h => k_1 (of_decide_eq_true h)) (fun h => k_2 (of_decide_eq_false h))
theorem bk87_176 {a0 : Nat} {x1 : Int32} {x2 : Int32} {x3 : Int32} {x4 : Int32} {P_1 : av_St → Prop} (t_4 : S.1 a0 = some (.inl 10)) (m_5 : ctv ext d 88 [.ref a0, .int (3 : Int32), .int x1] S P_1) (k_6 : ∀ S_2, P_1 S_2 → aw ext (d + 1) 87 182 [some (.ref a0), some (.int x1), some (.int x2), some (.int x3), some (.int x4)] [] S_2 Q) : aw ext (d + 1) 87 176 [some (.ref a0), some (.int x1), some (.int x2), some (.int x3), some (.int x4)] [] S Q := by
  refine aw_ald j87_176 rfl rfl ?_
  refine aw_con j87_177 ?_
  refine aw_ild j87_178 rfl ?_
  exact aw_callv (as := [.ref a0, .int (3 : Int32), .int x1]) j87_179 rfl rfl (Nat.le_of_ble_eq_true rfl) cy88.1 cy88.2 (cs_cons rfl (cs_cons rfl (cs_cons rfl cs_nil))) (decide_eq_true t_4) m_5 k_6
theorem bk87_182 {r0 : Option Nat} {x1 : Int32} {x2 : Int32} {x3 : Int32} {x4 : Int32}  (k_1 : Q none S) : aw ext d 87 182 [some (va_rf r0), some (.int x1), some (.int x2), some (.int x3), some (.int x4)] [] S Q := by
  exact aw_vret j87_182 rt87 k_1
/-! Ref_blame -/
theorem bk88_0 {a0 : Nat} {x1 : Int32} {x2 : Int32} {b2 : Nat} {y4 : Int32} {n_6 : Nat} {i_9 : Nat} {b12 : Nat} {y14 : Int32} {n_16 : Nat} {i_19 : Nat} {y22 : Int32} (t_1 : S.1 a0 = some (.inl 10)) (f_3 : S.2.1 a0 30 = .ref b2) (f_5 : S.2.1 a0 29 = .int y4) (t_7 : S.1 b2 = some (.inr (0, n_6))) (b_8 : n_6 < 2147483648) (e_10 : y4 = nI i_9) (c_11 : i_9 < n_6) (f_13 : (av_set S b2 i_9 (.int x1)).2.1 a0 31 = .ref b12) (f_15 : (av_set S b2 i_9 (.int x1)).2.1 a0 29 = .int y14) (t_17 : (av_set S b2 i_9 (.int x1)).1 b12 = some (.inr (0, n_16))) (b_18 : n_16 < 2147483648) (e_20 : y14 = nI i_19) (c_21 : i_19 < n_16) (f_23 : (av_set (av_set S b2 i_9 (.int x1)) b12 i_19 (.int x2)).2.1 a0 29 = .int y22) (k_24 : Q none (av_set (av_set (av_set S b2 i_9 (.int x1)) b12 i_19 (.int x2)) a0 29 (.int (y22 + (1 : Int32))))) : aw ext d 88 0 [some (.ref a0), some (.int x1), some (.int x2)] [] S Q := by
  refine aw_ald j88_0 rfl rfl ?_
  refine aw_get j88_1 t_1 f_3 ?_
  refine aw_ald j88_4 rfl rfl ?_
  refine aw_get j88_5 t_1 f_5 ?_
  refine aw_ild j88_8 rfl ?_
  refine aw_xst j88_9 t_7 e_10 c_11 b_8 ?_
  refine aw_ald j88_10 rfl rfl ?_
  refine aw_get j88_11 t_1 f_13 ?_
  refine aw_ald j88_14 rfl rfl ?_
  refine aw_get j88_15 t_1 f_15 ?_
  refine aw_ild j88_18 rfl ?_
  refine aw_xst j88_19 t_17 e_20 c_21 b_18 ?_
  refine aw_ald j88_20 rfl rfl ?_
  refine aw_dup j88_21 rfl ?_
  refine aw_get j88_22 t_1 f_23 ?_
  refine aw_con j88_25 ?_
  refine aw_bin (z := (y22 + (1 : Int32))) j88_26 rfl ?_
  refine aw_put j88_27 t_1 rfl ?_
  exact aw_vret j88_30 rt88 k_24
/-! Ref_checkFile -/
theorem bk89_0 {r0 : Option Nat} {x1 : Int32} {o2 : Option Value} {o3 : Option Value} {o4 : Option Value} {o5 : Option Value} {o6 : Option Value} {o7 : Option Value} {o8 : Option Value} {o9 : Option Value}  (k_1 : aw ext d 89 7 [some (va_rf r0), some (.int x1), some (.int (0 : Int32)), some (.int (0 : Int32)), some (.int (0 : Int32)), o5, o6, o7, o8, o9] [] S Q) : aw ext d 89 0 [some (va_rf r0), some (.int x1), o2, o3, o4, o5, o6, o7, o8, o9] [] S Q := by
  refine aw_con j89_0 ?_
  refine aw_ist j89_1 (Nat.le_of_ble_eq_true rfl) ?_
  refine aw_con j89_2 ?_
  refine aw_ist j89_3 (Nat.le_of_ble_eq_true rfl) ?_
  refine aw_con j89_4 ?_
  refine aw_ist j89_5 (Nat.le_of_ble_eq_true rfl) ?_
  exact k_1
theorem bk89_7 {a0 : Nat} {x1 : Int32} {x2 : Int32} {x3 : Int32} {x4 : Int32} {o5 : Option Value} {o6 : Option Value} {o7 : Option Value} {o8 : Option Value} {o9 : Option Value} {b2 : Nat} {n_4 : Nat} {i_7 : Nat} {y10 : Int32} (t_1 : S.1 a0 = some (.inl 10)) (f_3 : S.2.1 a0 2 = .ref b2) (t_5 : S.1 b2 = some (.inr (0, n_4))) (b_6 : n_4 < 2147483648) (e_8 : x1 = nI i_7) (c_9 : i_7 < n_4) (f_11 : S.2.1 b2 i_7 = .int y10) (k_12 : (y10 ≤ x4) → aw ext d 89 199 [some (.ref a0), some (.int x1), some (.int x2), some (.int x3), some (.int x4), o5, o6, o7, o8, o9] [] S Q) (k_13 : (¬ (y10 ≤ x4)) → aw ext d 89 18 [some (.ref a0), some (.int x1), some (.int x2), some (.int x3), some (.int x4), o5, o6, o7, o8, o9] [] S Q) : aw ext d 89 7 [some (.ref a0), some (.int x1), some (.int x2), some (.int x3), some (.int x4), o5, o6, o7, o8, o9] [] S Q := by
  refine aw_ild j89_7 rfl ?_
  refine aw_ald j89_9 rfl rfl ?_
  refine aw_get j89_10 t_1 f_3 ?_
  refine aw_ild j89_13 rfl ?_
  refine aw_xld j89_14 t_5 e_8 c_9 b_6 f_11 ?_
  exact aw_ic j89_15 (fun h => k_12 (of_decide_eq_true h)) (fun h => k_13 (of_decide_eq_false h))
theorem bk89_18 {a0 : Nat} {x1 : Int32} {x2 : Int32} {x3 : Int32} {x4 : Int32} {o5 : Option Value} {o6 : Option Value} {o7 : Option Value} {o8 : Option Value} {o9 : Option Value} {b2 : Nat} {n_4 : Nat} {i_7 : Nat} {y10 : Int32} (t_1 : S.1 a0 = some (.inl 10)) (f_3 : S.2.1 a0 2 = .ref b2) (t_5 : S.1 b2 = some (.inr (0, n_4))) (b_6 : n_4 < 2147483648) (e_8 : x1 = nI i_7) (c_9 : i_7 < n_4) (f_11 : S.2.1 b2 i_7 = .int y10) (k_12 : aw ext d 89 32 [some (.ref a0), some (.int x1), some (.int x2), some (.int x3), some (.int x4), some (.int (0 : Int32)), some (.int y10), some (.int (0 : Int32)), o8, o9] [] S Q) : aw ext d 89 18 [some (.ref a0), some (.int x1), some (.int x2), some (.int x3), some (.int x4), o5, o6, o7, o8, o9] [] S Q := by
  refine aw_con j89_18 ?_
  refine aw_ist j89_19 (Nat.le_of_ble_eq_true rfl) ?_
  refine aw_ald j89_21 rfl rfl ?_
  refine aw_get j89_22 t_1 f_3 ?_
  refine aw_ild j89_25 rfl ?_
  refine aw_xld j89_26 t_5 e_8 c_9 b_6 f_11 ?_
  refine aw_ist j89_27 (Nat.le_of_ble_eq_true rfl) ?_
  refine aw_con j89_29 ?_
  refine aw_ist j89_30 (Nat.le_of_ble_eq_true rfl) ?_
  exact k_12
theorem bk89_32 {a0 : Nat} {x1 : Int32} {x2 : Int32} {x3 : Int32} {x4 : Int32} {x5 : Int32} {x6 : Int32} {x7 : Int32} {o8 : Option Value} {o9 : Option Value} {y2 : Int32} (t_1 : S.1 a0 = some (.inl 10)) (f_3 : S.2.1 a0 27 = .int y2) (k_4 : (y2 ≤ x7) → aw ext d 89 161 [some (.ref a0), some (.int x1), some (.int x2), some (.int x3), some (.int x4), some (.int x5), some (.int x6), some (.int x7), o8, o9] [] S Q) (k_5 : (¬ (y2 ≤ x7)) → aw ext d 89 41 [some (.ref a0), some (.int x1), some (.int x2), some (.int x3), some (.int x4), some (.int x5), some (.int x6), some (.int x7), o8, o9] [] S Q) : aw ext d 89 32 [some (.ref a0), some (.int x1), some (.int x2), some (.int x3), some (.int x4), some (.int x5), some (.int x6), some (.int x7), o8, o9] [] S Q := by
  refine aw_ild j89_32 rfl ?_
  refine aw_ald j89_34 rfl rfl ?_
  refine aw_get j89_35 t_1 f_3 ?_
  exact aw_ic j89_38 (fun h => k_4 (of_decide_eq_true h)) (fun h => k_5 (of_decide_eq_false h))
theorem bk89_41 {a0 : Nat} {x1 : Int32} {x2 : Int32} {x3 : Int32} {x4 : Int32} {x5 : Int32} {x6 : Int32} {x7 : Int32} {o8 : Option Value} {o9 : Option Value} {b2 : Nat} {n_4 : Nat} {i_7 : Nat} {y10 : Int32} (t_1 : S.1 a0 = some (.inl 10)) (f_3 : S.2.1 a0 28 = .ref b2) (t_5 : S.1 b2 = some (.inr (0, n_4))) (b_6 : n_4 < 2147483648) (e_8 : (((5 : Int32) * x7) + (1 : Int32)) = nI i_7) (c_9 : i_7 < n_4) (f_11 : S.2.1 b2 i_7 = .int y10) (k_12 : (y10 = x1) → aw ext d 89 59 [some (.ref a0), some (.int x1), some (.int x2), some (.int x3), some (.int x4), some (.int x5), some (.int x6), some (.int x7), o8, o9] [] S Q) (k_13 : (¬ (y10 = x1)) → aw ext d 89 56 [some (.ref a0), some (.int x1), some (.int x2), some (.int x3), some (.int x4), some (.int x5), some (.int x6), some (.int x7), o8, o9] [] S Q) : aw ext d 89 41 [some (.ref a0), some (.int x1), some (.int x2), some (.int x3), some (.int x4), some (.int x5), some (.int x6), some (.int x7), o8, o9] [] S Q := by
  refine aw_ald j89_41 rfl rfl ?_
  refine aw_get j89_42 t_1 f_3 ?_
  refine aw_con j89_45 ?_
  refine aw_ild j89_46 rfl ?_
  refine aw_bin (z := ((5 : Int32) * x7)) j89_48 rfl ?_
  refine aw_con j89_49 ?_
  refine aw_bin (z := (((5 : Int32) * x7) + (1 : Int32))) j89_50 rfl ?_
  refine aw_xld j89_51 t_5 e_8 c_9 b_6 f_11 ?_
  refine aw_ild j89_52 rfl ?_
  exact aw_ic j89_53 (fun h => k_12 (of_decide_eq_true h)) (fun h => k_13 (of_decide_eq_false h))
theorem bk89_56 {r0 : Option Nat} {x1 : Int32} {x2 : Int32} {x3 : Int32} {x4 : Int32} {x5 : Int32} {x6 : Int32} {x7 : Int32} {o8 : Option Value} {o9 : Option Value}  (k_1 : aw ext d 89 155 [some (va_rf r0), some (.int x1), some (.int x2), some (.int x3), some (.int x4), some (.int x5), some (.int x6), some (.int x7), o8, o9] [] S Q) : aw ext d 89 56 [some (va_rf r0), some (.int x1), some (.int x2), some (.int x3), some (.int x4), some (.int x5), some (.int x6), some (.int x7), o8, o9] [] S Q := by
  exact aw_goto j89_56 k_1
theorem bk89_59 {a0 : Nat} {x1 : Int32} {x2 : Int32} {x3 : Int32} {x4 : Int32} {x5 : Int32} {x6 : Int32} {x7 : Int32} {o8 : Option Value} {o9 : Option Value} {b2 : Nat} {n_4 : Nat} {i_7 : Nat} {y10 : Int32} {i_12 : Nat} {y15 : Int32} (t_1 : S.1 a0 = some (.inl 10)) (f_3 : S.2.1 a0 28 = .ref b2) (t_5 : S.1 b2 = some (.inr (0, n_4))) (b_6 : n_4 < 2147483648) (e_8 : (((5 : Int32) * x7) + (2 : Int32)) = nI i_7) (c_9 : i_7 < n_4) (f_11 : S.2.1 b2 i_7 = .int y10) (e_13 : (((5 : Int32) * x7) + (3 : Int32)) = nI i_12) (c_14 : i_12 < n_4) (f_16 : S.2.1 b2 i_12 = .int y15) (k_17 : (x4 < y10) → aw ext d 89 105 [some (.ref a0), some (.int x1), some (.int x2), some (.int x3), some (.int x4), some (.int x5), some (.int x6), some (.int x7), some (.int y10), some (.int y15)] [.int x5] S Q) (k_18 : (¬ (x4 < y10)) → aw ext d 89 94 [some (.ref a0), some (.int x1), some (.int x2), some (.int x3), some (.int x4), some (.int x5), some (.int x6), some (.int x7), some (.int y10), some (.int y15)] [.int x5] S Q) : aw ext d 89 59 [some (.ref a0), some (.int x1), some (.int x2), some (.int x3), some (.int x4), some (.int x5), some (.int x6), some (.int x7), o8, o9] [] S Q := by
  refine aw_ald j89_59 rfl rfl ?_
  refine aw_get j89_60 t_1 f_3 ?_
  refine aw_con j89_63 ?_
  refine aw_ild j89_64 rfl ?_
  refine aw_bin (z := ((5 : Int32) * x7)) j89_66 rfl ?_
  refine aw_con j89_67 ?_
  refine aw_bin (z := (((5 : Int32) * x7) + (2 : Int32))) j89_68 rfl ?_
  refine aw_xld j89_69 t_5 e_8 c_9 b_6 f_11 ?_
  refine aw_ist j89_70 (Nat.le_of_ble_eq_true rfl) ?_
  refine aw_ald j89_72 rfl rfl ?_
  refine aw_get j89_73 t_1 f_3 ?_
  refine aw_con j89_76 ?_
  refine aw_ild j89_77 rfl ?_
  refine aw_bin (z := ((5 : Int32) * x7)) j89_79 rfl ?_
  refine aw_con j89_80 ?_
  refine aw_bin (z := (((5 : Int32) * x7) + (3 : Int32))) j89_81 rfl ?_
  refine aw_xld j89_82 t_5 e_13 c_14 b_6 f_16 ?_
  refine aw_ist j89_83 (Nat.le_of_ble_eq_true rfl) ?_
  refine aw_ild j89_85 rfl ?_
  refine aw_ild j89_87 rfl ?_
  refine aw_ild j89_89 rfl ?_
  exact aw_ic j89_91 (fun h => k_17 (of_decide_eq_true h)) (fun h => k_18 (of_decide_eq_false h))
theorem bk89_94 {r0 : Option Nat} {x1 : Int32} {x2 : Int32} {x3 : Int32} {x4 : Int32} {x5 : Int32} {x6 : Int32} {x7 : Int32} {x8 : Int32} {x9 : Int32} {xk0 : Int32}  (k_1 : (x9 ≤ x4) → aw ext d 89 105 [some (va_rf r0), some (.int x1), some (.int x2), some (.int x3), some (.int x4), some (.int x5), some (.int x6), some (.int x7), some (.int x8), some (.int x9)] [.int xk0] S Q) (k_2 : (¬ (x9 ≤ x4)) → aw ext d 89 101 [some (va_rf r0), some (.int x1), some (.int x2), some (.int x3), some (.int x4), some (.int x5), some (.int x6), some (.int x7), some (.int x8), some (.int x9)] [.int xk0] S Q) : aw ext d 89 94 [some (va_rf r0), some (.int x1), some (.int x2), some (.int x3), some (.int x4), some (.int x5), some (.int x6), some (.int x7), some (.int x8), some (.int x9)] [.int xk0] S Q := by
  refine aw_ild j89_94 rfl ?_
  refine aw_ild j89_96 rfl ?_
  exact aw_ic j89_98 (fun h => k_1 (of_decide_eq_true h)) (fun h => k_2 (of_decide_eq_false h))
theorem bk89_101 {r0 : Option Nat} {x1 : Int32} {x2 : Int32} {x3 : Int32} {x4 : Int32} {x5 : Int32} {x6 : Int32} {x7 : Int32} {x8 : Int32} {x9 : Int32} {xk0 : Int32}  (k_1 : aw ext d 89 106 [some (va_rf r0), some (.int x1), some (.int x2), some (.int x3), some (.int x4), some (.int x5), some (.int x6), some (.int x7), some (.int x8), some (.int x9)] [.int (1 : Int32), .int xk0] S Q) : aw ext d 89 101 [some (va_rf r0), some (.int x1), some (.int x2), some (.int x3), some (.int x4), some (.int x5), some (.int x6), some (.int x7), some (.int x8), some (.int x9)] [.int xk0] S Q := by
  refine aw_con j89_101 ?_
  exact aw_goto j89_102 k_1
theorem bk89_105 {r0 : Option Nat} {x1 : Int32} {x2 : Int32} {x3 : Int32} {x4 : Int32} {x5 : Int32} {x6 : Int32} {x7 : Int32} {x8 : Int32} {x9 : Int32} {xk0 : Int32}  (k_1 : aw ext d 89 106 [some (va_rf r0), some (.int x1), some (.int x2), some (.int x3), some (.int x4), some (.int x5), some (.int x6), some (.int x7), some (.int x8), some (.int x9)] [.int (0 : Int32), .int xk0] S Q) : aw ext d 89 105 [some (va_rf r0), some (.int x1), some (.int x2), some (.int x3), some (.int x4), some (.int x5), some (.int x6), some (.int x7), some (.int x8), some (.int x9)] [.int xk0] S Q := by
  refine aw_con j89_105 ?_
  exact k_1
theorem bk89_106 {r0 : Option Nat} {x1 : Int32} {x2 : Int32} {x3 : Int32} {x4 : Int32} {x5 : Int32} {x6 : Int32} {x7 : Int32} {x8 : Int32} {x9 : Int32} {xk0 : Int32} {xk1 : Int32}  (k_1 : (x8 ≤ x4) → aw ext d 89 128 [some (va_rf r0), some (.int x1), some (.int x2), some (.int x3), some (.int x4), some (.int (xk0 + xk1)), some (.int x6), some (.int x7), some (.int x8), some (.int x9)] [] S Q) (k_2 : (¬ (x8 ≤ x4)) → aw ext d 89 116 [some (va_rf r0), some (.int x1), some (.int x2), some (.int x3), some (.int x4), some (.int (xk0 + xk1)), some (.int x6), some (.int x7), some (.int x8), some (.int x9)] [] S Q) : aw ext d 89 106 [some (va_rf r0), some (.int x1), some (.int x2), some (.int x3), some (.int x4), some (.int x5), some (.int x6), some (.int x7), some (.int x8), some (.int x9)] [.int xk1, .int xk0] S Q := by
  refine aw_bin (z := (xk0 + xk1)) j89_106 rfl ?_
  refine aw_ist j89_107 (Nat.le_of_ble_eq_true rfl) ?_
  refine aw_ild j89_109 rfl ?_
  refine aw_ild j89_111 rfl ?_
  exact aw_ic j89_113 (fun h => k_1 (of_decide_eq_true h)) (fun h => k_2 (of_decide_eq_false h))
theorem bk89_116 {r0 : Option Nat} {x1 : Int32} {x2 : Int32} {x3 : Int32} {x4 : Int32} {x5 : Int32} {x6 : Int32} {x7 : Int32} {x8 : Int32} {x9 : Int32}  (k_1 : (x6 ≤ x8) → aw ext d 89 128 [some (va_rf r0), some (.int x1), some (.int x2), some (.int x3), some (.int x4), some (.int x5), some (.int x6), some (.int x7), some (.int x8), some (.int x9)] [] S Q) (k_2 : (¬ (x6 ≤ x8)) → aw ext d 89 123 [some (va_rf r0), some (.int x1), some (.int x2), some (.int x3), some (.int x4), some (.int x5), some (.int x6), some (.int x7), some (.int x8), some (.int x9)] [] S Q) : aw ext d 89 116 [some (va_rf r0), some (.int x1), some (.int x2), some (.int x3), some (.int x4), some (.int x5), some (.int x6), some (.int x7), some (.int x8), some (.int x9)] [] S Q := by
  refine aw_ild j89_116 rfl ?_
  refine aw_ild j89_118 rfl ?_
  exact aw_ic j89_120 (fun h => k_1 (of_decide_eq_true h)) (fun h => k_2 (of_decide_eq_false h))
theorem bk89_123 {r0 : Option Nat} {x1 : Int32} {x2 : Int32} {x3 : Int32} {x4 : Int32} {x5 : Int32} {x6 : Int32} {x7 : Int32} {x8 : Int32} {x9 : Int32}  (k_1 : aw ext d 89 130 [some (va_rf r0), some (.int x1), some (.int x2), some (.int x3), some (.int x4), some (.int x5), some (.int x6), some (.int x7), some (.int x8), some (.int x9)] [.int x8] S Q) : aw ext d 89 123 [some (va_rf r0), some (.int x1), some (.int x2), some (.int x3), some (.int x4), some (.int x5), some (.int x6), some (.int x7), some (.int x8), some (.int x9)] [] S Q := by
  refine aw_ild j89_123 rfl ?_
  exact aw_goto j89_125 k_1
theorem bk89_128 {r0 : Option Nat} {x1 : Int32} {x2 : Int32} {x3 : Int32} {x4 : Int32} {x5 : Int32} {x6 : Int32} {x7 : Int32} {x8 : Int32} {x9 : Int32}  (k_1 : aw ext d 89 130 [some (va_rf r0), some (.int x1), some (.int x2), some (.int x3), some (.int x4), some (.int x5), some (.int x6), some (.int x7), some (.int x8), some (.int x9)] [.int x6] S Q) : aw ext d 89 128 [some (va_rf r0), some (.int x1), some (.int x2), some (.int x3), some (.int x4), some (.int x5), some (.int x6), some (.int x7), some (.int x8), some (.int x9)] [] S Q := by
  refine aw_ild j89_128 rfl ?_
  exact k_1
theorem bk89_130 {r0 : Option Nat} {x1 : Int32} {x2 : Int32} {x3 : Int32} {x4 : Int32} {x5 : Int32} {x6 : Int32} {x7 : Int32} {x8 : Int32} {x9 : Int32} {xk0 : Int32}  (k_1 : (x9 ≤ x4) → aw ext d 89 151 [some (va_rf r0), some (.int x1), some (.int x2), some (.int x3), some (.int x4), some (.int x5), some (.int xk0), some (.int x7), some (.int x8), some (.int x9)] [] S Q) (k_2 : (¬ (x9 ≤ x4)) → aw ext d 89 139 [some (va_rf r0), some (.int x1), some (.int x2), some (.int x3), some (.int x4), some (.int x5), some (.int xk0), some (.int x7), some (.int x8), some (.int x9)] [] S Q) : aw ext d 89 130 [some (va_rf r0), some (.int x1), some (.int x2), some (.int x3), some (.int x4), some (.int x5), some (.int x6), some (.int x7), some (.int x8), some (.int x9)] [.int xk0] S Q := by
  refine aw_ist j89_130 (Nat.le_of_ble_eq_true rfl) ?_
  refine aw_ild j89_132 rfl ?_
  refine aw_ild j89_134 rfl ?_
  exact aw_ic j89_136 (fun h => k_1 (of_decide_eq_true h)) (fun h => k_2 (of_decide_eq_false h))
theorem bk89_139 {r0 : Option Nat} {x1 : Int32} {x2 : Int32} {x3 : Int32} {x4 : Int32} {x5 : Int32} {x6 : Int32} {x7 : Int32} {x8 : Int32} {x9 : Int32}  (k_1 : (x6 ≤ x9) → aw ext d 89 151 [some (va_rf r0), some (.int x1), some (.int x2), some (.int x3), some (.int x4), some (.int x5), some (.int x6), some (.int x7), some (.int x8), some (.int x9)] [] S Q) (k_2 : (¬ (x6 ≤ x9)) → aw ext d 89 146 [some (va_rf r0), some (.int x1), some (.int x2), some (.int x3), some (.int x4), some (.int x5), some (.int x6), some (.int x7), some (.int x8), some (.int x9)] [] S Q) : aw ext d 89 139 [some (va_rf r0), some (.int x1), some (.int x2), some (.int x3), some (.int x4), some (.int x5), some (.int x6), some (.int x7), some (.int x8), some (.int x9)] [] S Q := by
  refine aw_ild j89_139 rfl ?_
  refine aw_ild j89_141 rfl ?_
  exact aw_ic j89_143 (fun h => k_1 (of_decide_eq_true h)) (fun h => k_2 (of_decide_eq_false h))
theorem bk89_146 {r0 : Option Nat} {x1 : Int32} {x2 : Int32} {x3 : Int32} {x4 : Int32} {x5 : Int32} {x6 : Int32} {x7 : Int32} {x8 : Int32} {x9 : Int32}  (k_1 : aw ext d 89 153 [some (va_rf r0), some (.int x1), some (.int x2), some (.int x3), some (.int x4), some (.int x5), some (.int x6), some (.int x7), some (.int x8), some (.int x9)] [.int x9] S Q) : aw ext d 89 146 [some (va_rf r0), some (.int x1), some (.int x2), some (.int x3), some (.int x4), some (.int x5), some (.int x6), some (.int x7), some (.int x8), some (.int x9)] [] S Q := by
  refine aw_ild j89_146 rfl ?_
  exact aw_goto j89_148 k_1
theorem bk89_151 {r0 : Option Nat} {x1 : Int32} {x2 : Int32} {x3 : Int32} {x4 : Int32} {x5 : Int32} {x6 : Int32} {x7 : Int32} {x8 : Int32} {x9 : Int32}  (k_1 : aw ext d 89 153 [some (va_rf r0), some (.int x1), some (.int x2), some (.int x3), some (.int x4), some (.int x5), some (.int x6), some (.int x7), some (.int x8), some (.int x9)] [.int x6] S Q) : aw ext d 89 151 [some (va_rf r0), some (.int x1), some (.int x2), some (.int x3), some (.int x4), some (.int x5), some (.int x6), some (.int x7), some (.int x8), some (.int x9)] [] S Q := by
  refine aw_ild j89_151 rfl ?_
  exact k_1
theorem bk89_153 {r0 : Option Nat} {x1 : Int32} {x2 : Int32} {x3 : Int32} {x4 : Int32} {x5 : Int32} {x6 : Int32} {x7 : Int32} {x8 : Int32} {x9 : Int32} {xk0 : Int32}  (k_1 : aw ext d 89 155 [some (va_rf r0), some (.int x1), some (.int x2), some (.int x3), some (.int x4), some (.int x5), some (.int xk0), some (.int x7), some (.int x8), some (.int x9)] [] S Q) : aw ext d 89 153 [some (va_rf r0), some (.int x1), some (.int x2), some (.int x3), some (.int x4), some (.int x5), some (.int x6), some (.int x7), some (.int x8), some (.int x9)] [.int xk0] S Q := by
  refine aw_ist j89_153 (Nat.le_of_ble_eq_true rfl) ?_
  exact k_1
theorem bk89_155 {r0 : Option Nat} {x1 : Int32} {x2 : Int32} {x3 : Int32} {x4 : Int32} {x5 : Int32} {x6 : Int32} {x7 : Int32} {o8 : Option Value} {o9 : Option Value}  (k_1 : aw ext d 89 32 [some (va_rf r0), some (.int x1), some (.int x2), some (.int x3), some (.int x4), some (.int x5), some (.int x6), some (.int (x7 + 1)), o8, o9] [] S Q) : aw ext d 89 155 [some (va_rf r0), some (.int x1), some (.int x2), some (.int x3), some (.int x4), some (.int x5), some (.int x6), some (.int x7), o8, o9] [] S Q := by
  refine aw_inc j89_155 rfl ?_
  exact aw_goto j89_158 k_1
theorem bk89_161 {r0 : Option Nat} {x1 : Int32} {x2 : Int32} {x3 : Int32} {x4 : Int32} {x5 : Int32} {x6 : Int32} {x7 : Int32} {o8 : Option Value} {o9 : Option Value}  (k_1 : (¬ x2 = 0) → aw ext d 89 171 [some (va_rf r0), some (.int x1), some (.int x2), some (.int x3), some (.int x4), some (.int x5), some (.int x6), some (.int x7), o8, o9] [] S Q) (k_2 : (x2 = 0) → aw ext d 89 165 [some (va_rf r0), some (.int x1), some (.int x2), some (.int x3), some (.int x4), some (.int x5), some (.int x6), some (.int x7), o8, o9] [] S Q) : aw ext d 89 161 [some (va_rf r0), some (.int x1), some (.int x2), some (.int x3), some (.int x4), some (.int x5), some (.int x6), some (.int x7), o8, o9] [] S Q := by
  refine aw_ild j89_161 rfl ?_
  exact aw_if j89_162 (fun h => k_1 (of_decide_eq_true h)) (fun h => k_2 (Decidable.of_not_not (of_decide_eq_false h)))
theorem bk89_165 {r0 : Option Nat} {x1 : Int32} {x2 : Int32} {x3 : Int32} {x4 : Int32} {x5 : Int32} {x6 : Int32} {x7 : Int32} {o8 : Option Value} {o9 : Option Value}  (k_1 : (x5 ≤ (1 : Int32)) → aw ext d 89 175 [some (va_rf r0), some (.int x1), some (.int x2), some (.int x3), some (.int x4), some (.int x5), some (.int x6), some (.int x7), o8, o9] [] S Q) (k_2 : (¬ (x5 ≤ (1 : Int32))) → aw ext d 89 171 [some (va_rf r0), some (.int x1), some (.int x2), some (.int x3), some (.int x4), some (.int x5), some (.int x6), some (.int x7), o8, o9] [] S Q) : aw ext d 89 165 [some (va_rf r0), some (.int x1), some (.int x2), some (.int x3), some (.int x4), some (.int x5), some (.int x6), some (.int x7), o8, o9] [] S Q := by
  refine aw_ild j89_165 rfl ?_
  refine aw_con j89_167 ?_
  exact aw_ic j89_168 (fun h => k_1 (of_decide_eq_true h)) (fun h => k_2 (of_decide_eq_false h))
theorem bk89_171 {r0 : Option Nat} {x1 : Int32} {x2 : Int32} {x3 : Int32} {x4 : Int32} {x5 : Int32} {x6 : Int32} {x7 : Int32} {o8 : Option Value} {o9 : Option Value}  (k_1 : aw ext d 89 176 [some (va_rf r0), some (.int x1), some (.int x2), some (.int x3), some (.int x4), some (.int x5), some (.int x6), some (.int x7), o8, o9] [.int (1 : Int32)] S Q) : aw ext d 89 171 [some (va_rf r0), some (.int x1), some (.int x2), some (.int x3), some (.int x4), some (.int x5), some (.int x6), some (.int x7), o8, o9] [] S Q := by
  refine aw_con j89_171 ?_
  exact aw_goto j89_172 k_1
theorem bk89_175 {r0 : Option Nat} {x1 : Int32} {x2 : Int32} {x3 : Int32} {x4 : Int32} {x5 : Int32} {x6 : Int32} {x7 : Int32} {o8 : Option Value} {o9 : Option Value}  (k_1 : aw ext d 89 176 [some (va_rf r0), some (.int x1), some (.int x2), some (.int x3), some (.int x4), some (.int x5), some (.int x6), some (.int x7), o8, o9] [.int (0 : Int32)] S Q) : aw ext d 89 175 [some (va_rf r0), some (.int x1), some (.int x2), some (.int x3), some (.int x4), some (.int x5), some (.int x6), some (.int x7), o8, o9] [] S Q := by
  refine aw_con j89_175 ?_
  exact k_1
theorem bk89_176 {r0 : Option Nat} {x1 : Int32} {x2 : Int32} {x3 : Int32} {x4 : Int32} {x5 : Int32} {x6 : Int32} {x7 : Int32} {o8 : Option Value} {o9 : Option Value} {xk0 : Int32}  (k_1 : (¬ x3 = 0) → aw ext d 89 186 [some (va_rf r0), some (.int x1), some (.int xk0), some (.int x3), some (.int x4), some (.int x5), some (.int x6), some (.int x7), o8, o9] [] S Q) (k_2 : (x3 = 0) → aw ext d 89 181 [some (va_rf r0), some (.int x1), some (.int xk0), some (.int x3), some (.int x4), some (.int x5), some (.int x6), some (.int x7), o8, o9] [] S Q) : aw ext d 89 176 [some (va_rf r0), some (.int x1), some (.int x2), some (.int x3), some (.int x4), some (.int x5), some (.int x6), some (.int x7), o8, o9] [.int xk0] S Q := by
  refine aw_ist j89_176 (Nat.le_of_ble_eq_true rfl) ?_
  refine aw_ild j89_177 rfl ?_
  exact aw_if j89_178 (fun h => k_1 (of_decide_eq_true h)) (fun h => k_2 (Decidable.of_not_not (of_decide_eq_false h)))
theorem bk89_181 {r0 : Option Nat} {x1 : Int32} {x2 : Int32} {x3 : Int32} {x4 : Int32} {x5 : Int32} {x6 : Int32} {x7 : Int32} {o8 : Option Value} {o9 : Option Value}  (k_1 : (¬ x5 = 0) → aw ext d 89 190 [some (va_rf r0), some (.int x1), some (.int x2), some (.int x3), some (.int x4), some (.int x5), some (.int x6), some (.int x7), o8, o9] [] S Q) (k_2 : (x5 = 0) → aw ext d 89 186 [some (va_rf r0), some (.int x1), some (.int x2), some (.int x3), some (.int x4), some (.int x5), some (.int x6), some (.int x7), o8, o9] [] S Q) : aw ext d 89 181 [some (va_rf r0), some (.int x1), some (.int x2), some (.int x3), some (.int x4), some (.int x5), some (.int x6), some (.int x7), o8, o9] [] S Q := by
  refine aw_ild j89_181 rfl ?_
  exact aw_if j89_183 (fun h => k_1 (of_decide_eq_true h)) (fun h => k_2 (Decidable.of_not_not (of_decide_eq_false h)))
theorem bk89_186 {r0 : Option Nat} {x1 : Int32} {x2 : Int32} {x3 : Int32} {x4 : Int32} {x5 : Int32} {x6 : Int32} {x7 : Int32} {o8 : Option Value} {o9 : Option Value}  (k_1 : aw ext d 89 191 [some (va_rf r0), some (.int x1), some (.int x2), some (.int x3), some (.int x4), some (.int x5), some (.int x6), some (.int x7), o8, o9] [.int (1 : Int32)] S Q) : aw ext d 89 186 [some (va_rf r0), some (.int x1), some (.int x2), some (.int x3), some (.int x4), some (.int x5), some (.int x6), some (.int x7), o8, o9] [] S Q := by
  refine aw_con j89_186 ?_
  exact aw_goto j89_187 k_1
theorem bk89_190 {r0 : Option Nat} {x1 : Int32} {x2 : Int32} {x3 : Int32} {x4 : Int32} {x5 : Int32} {x6 : Int32} {x7 : Int32} {o8 : Option Value} {o9 : Option Value}  (k_1 : aw ext d 89 191 [some (va_rf r0), some (.int x1), some (.int x2), some (.int x3), some (.int x4), some (.int x5), some (.int x6), some (.int x7), o8, o9] [.int (0 : Int32)] S Q) : aw ext d 89 190 [some (va_rf r0), some (.int x1), some (.int x2), some (.int x3), some (.int x4), some (.int x5), some (.int x6), some (.int x7), o8, o9] [] S Q := by
  refine aw_con j89_190 ?_
  exact k_1
theorem bk89_191 {r0 : Option Nat} {x1 : Int32} {x2 : Int32} {x3 : Int32} {x4 : Int32} {x5 : Int32} {x6 : Int32} {x7 : Int32} {o8 : Option Value} {o9 : Option Value} {xk0 : Int32}  (k_1 : aw ext d 89 7 [some (va_rf r0), some (.int x1), some (.int x2), some (.int xk0), some (.int x6), some (.int x5), some (.int x6), some (.int x7), o8, o9] [] S Q) : aw ext d 89 191 [some (va_rf r0), some (.int x1), some (.int x2), some (.int x3), some (.int x4), some (.int x5), some (.int x6), some (.int x7), o8, o9] [.int xk0] S Q := by
  refine aw_ist j89_191 (Nat.le_of_ble_eq_true rfl) ?_
  refine aw_ild j89_192 rfl ?_
  refine aw_ist j89_194 (Nat.le_of_ble_eq_true rfl) ?_
  exact aw_goto j89_196 k_1
theorem bk89_199 {r0 : Option Nat} {x1 : Int32} {x2 : Int32} {x3 : Int32} {x4 : Int32} {o5 : Option Value} {o6 : Option Value} {o7 : Option Value} {o8 : Option Value} {o9 : Option Value}  (k_1 : (x2 = 0) → aw ext d 89 209 [some (va_rf r0), some (.int x1), some (.int x2), some (.int x3), some (.int x4), o5, o6, o7, o8, o9] [] S Q) (k_2 : (¬ (x2 = 0)) → aw ext d 89 203 [some (va_rf r0), some (.int x1), some (.int x2), some (.int x3), some (.int x4), o5, o6, o7, o8, o9] [] S Q) : aw ext d 89 199 [some (va_rf r0), some (.int x1), some (.int x2), some (.int x3), some (.int x4), o5, o6, o7, o8, o9] [] S Q := by
  refine aw_ild j89_199 rfl ?_
  exact aw_if j89_200 (fun h => k_1 (of_decide_eq_true h)) (fun h => k_2 (of_decide_eq_false h))
theorem bk89_203 {a0 : Nat} {x1 : Int32} {x2 : Int32} {x3 : Int32} {x4 : Int32} {o5 : Option Value} {o6 : Option Value} {o7 : Option Value} {o8 : Option Value} {o9 : Option Value} {P_1 : av_St → Prop} (t_4 : S.1 a0 = some (.inl 10)) (m_5 : ctv ext d 88 [.ref a0, .int (4 : Int32), .int x1] S P_1) (k_6 : ∀ S_2, P_1 S_2 → aw ext (d + 1) 89 209 [some (.ref a0), some (.int x1), some (.int x2), some (.int x3), some (.int x4), o5, o6, o7, o8, o9] [] S_2 Q) : aw ext (d + 1) 89 203 [some (.ref a0), some (.int x1), some (.int x2), some (.int x3), some (.int x4), o5, o6, o7, o8, o9] [] S Q := by
  refine aw_ald j89_203 rfl rfl ?_
  refine aw_con j89_204 ?_
  refine aw_ild j89_205 rfl ?_
  exact aw_callv (as := [.ref a0, .int (4 : Int32), .int x1]) j89_206 rfl rfl (Nat.le_of_ble_eq_true rfl) cy88.1 cy88.2 (cs_cons rfl (cs_cons rfl (cs_cons rfl cs_nil))) (decide_eq_true t_4) m_5 k_6
theorem bk89_209 {r0 : Option Nat} {x1 : Int32} {x2 : Int32} {x3 : Int32} {x4 : Int32} {o5 : Option Value} {o6 : Option Value} {o7 : Option Value} {o8 : Option Value} {o9 : Option Value}  (k_1 : (x3 = 0) → aw ext d 89 219 [some (va_rf r0), some (.int x1), some (.int x2), some (.int x3), some (.int x4), o5, o6, o7, o8, o9] [] S Q) (k_2 : (¬ (x3 = 0)) → aw ext d 89 213 [some (va_rf r0), some (.int x1), some (.int x2), some (.int x3), some (.int x4), o5, o6, o7, o8, o9] [] S Q) : aw ext d 89 209 [some (va_rf r0), some (.int x1), some (.int x2), some (.int x3), some (.int x4), o5, o6, o7, o8, o9] [] S Q := by
  refine aw_ild j89_209 rfl ?_
  exact aw_if j89_210 (fun h => k_1 (of_decide_eq_true h)) (fun h => k_2 (of_decide_eq_false h))
theorem bk89_213 {a0 : Nat} {x1 : Int32} {x2 : Int32} {x3 : Int32} {x4 : Int32} {o5 : Option Value} {o6 : Option Value} {o7 : Option Value} {o8 : Option Value} {o9 : Option Value} {P_1 : av_St → Prop} (t_4 : S.1 a0 = some (.inl 10)) (m_5 : ctv ext d 88 [.ref a0, .int (5 : Int32), .int x1] S P_1) (k_6 : ∀ S_2, P_1 S_2 → aw ext (d + 1) 89 219 [some (.ref a0), some (.int x1), some (.int x2), some (.int x3), some (.int x4), o5, o6, o7, o8, o9] [] S_2 Q) : aw ext (d + 1) 89 213 [some (.ref a0), some (.int x1), some (.int x2), some (.int x3), some (.int x4), o5, o6, o7, o8, o9] [] S Q := by
  refine aw_ald j89_213 rfl rfl ?_
  refine aw_con j89_214 ?_
  refine aw_ild j89_215 rfl ?_
  exact aw_callv (as := [.ref a0, .int (5 : Int32), .int x1]) j89_216 rfl rfl (Nat.le_of_ble_eq_true rfl) cy88.1 cy88.2 (cs_cons rfl (cs_cons rfl (cs_cons rfl cs_nil))) (decide_eq_true t_4) m_5 k_6
theorem bk89_219 {r0 : Option Nat} {x1 : Int32} {x2 : Int32} {x3 : Int32} {x4 : Int32} {o5 : Option Value} {o6 : Option Value} {o7 : Option Value} {o8 : Option Value} {o9 : Option Value}  (k_1 : Q none S) : aw ext d 89 219 [some (va_rf r0), some (.int x1), some (.int x2), some (.int x3), some (.int x4), o5, o6, o7, o8, o9] [] S Q := by
  exact aw_vret j89_219 rt89 k_1
/-! Ref_fault -/
theorem bk90_0 {a0 : Nat} {x1 : Int32} {x2 : Int32} {y2 : Int32} {P_4 : Int32 → av_St → Prop} (t_1 : S.1 a0 = some (.inl 10)) (f_3 : S.2.1 a0 29 = .int y2) (m_7 : cti ext d 65 [.int x1, .int (0 : Int32), .int (y2 - (1 : Int32))] S P_4) (k_8 : ∀ v_6 S_5, P_4 v_6 S_5 → aw ext (d + 1) 90 12 [some (.ref a0), some (.int x1), some (.int x2)] [.int v_6, .ref a0] S_5 Q) : aw ext (d + 1) 90 0 [some (.ref a0), some (.int x1), some (.int x2)] [] S Q := by
  refine aw_ald j90_0 rfl rfl ?_
  refine aw_ild j90_1 rfl ?_
  refine aw_con j90_2 ?_
  refine aw_ald j90_3 rfl rfl ?_
  refine aw_get j90_4 t_1 f_3 ?_
  refine aw_con j90_7 ?_
  refine aw_bin (z := (y2 - (1 : Int32))) j90_8 rfl ?_
  exact aw_calli (as := [.int x1, .int (0 : Int32), .int (y2 - (1 : Int32))]) j90_9 rfl rfl (Nat.le_of_ble_eq_true rfl) cy65.1 cy65.2 (cs_cons rfl (cs_cons rfl (cs_cons rfl cs_nil))) rfl m_7 k_8
theorem bk90_12 {r0 : Option Nat} {x1 : Int32} {x2 : Int32} {rk0 : Option Nat} {xk1 : Int32}  (k_1 : (xk1 = 0) → aw ext d 90 24 [some (va_rf r0), some (.int x1), some (.int x2)] [va_rf rk0] S Q) (k_2 : (¬ (xk1 = 0)) → aw ext d 90 15 [some (va_rf r0), some (.int x1), some (.int x2)] [va_rf rk0] S Q) : aw ext d 90 12 [some (va_rf r0), some (.int x1), some (.int x2)] [.int xk1, va_rf rk0] S Q := by
  exact aw_if j90_12 (fun h => k_1 (of_decide_eq_true h)) (fun h => k_2 (of_decide_eq_false h))
theorem bk90_15 {r0 : Option Nat} {x1 : Int32} {x2 : Int32} {rk0 : Option Nat} {P_1 : Int32 → av_St → Prop} (m_4 : cti ext d 65 [.int x2, .int (0 : Int32), .int (1 : Int32)] S P_1) (k_5 : ∀ v_3 S_2, P_1 v_3 S_2 → aw ext (d + 1) 90 21 [some (va_rf r0), some (.int x1), some (.int x2)] [.int v_3, va_rf rk0] S_2 Q) : aw ext (d + 1) 90 15 [some (va_rf r0), some (.int x1), some (.int x2)] [va_rf rk0] S Q := by
  refine aw_ild j90_15 rfl ?_
  refine aw_con j90_16 ?_
  refine aw_con j90_17 ?_
  exact aw_calli (as := [.int x2, .int (0 : Int32), .int (1 : Int32)]) j90_18 rfl rfl (Nat.le_of_ble_eq_true rfl) cy65.1 cy65.2 (cs_cons rfl (cs_cons rfl (cs_cons rfl cs_nil))) rfl m_4 k_5
theorem bk90_21 {r0 : Option Nat} {x1 : Int32} {x2 : Int32} {rk0 : Option Nat} {xk1 : Int32}  (k_1 : (¬ xk1 = 0) → aw ext d 90 28 [some (va_rf r0), some (.int x1), some (.int x2)] [va_rf rk0] S Q) (k_2 : (xk1 = 0) → aw ext d 90 24 [some (va_rf r0), some (.int x1), some (.int x2)] [va_rf rk0] S Q) : aw ext d 90 21 [some (va_rf r0), some (.int x1), some (.int x2)] [.int xk1, va_rf rk0] S Q := by
  exact aw_if j90_21 (fun h => k_1 (of_decide_eq_true h)) (fun h => k_2 (Decidable.of_not_not (of_decide_eq_false h)))
theorem bk90_24 {r0 : Option Nat} {x1 : Int32} {x2 : Int32} {rk0 : Option Nat}  (k_1 : aw ext d 90 29 [some (va_rf r0), some (.int x1), some (.int x2)] [.int (1 : Int32), va_rf rk0] S Q) : aw ext d 90 24 [some (va_rf r0), some (.int x1), some (.int x2)] [va_rf rk0] S Q := by
  refine aw_con j90_24 ?_
  exact aw_goto j90_25 k_1
theorem bk90_28 {r0 : Option Nat} {x1 : Int32} {x2 : Int32} {rk0 : Option Nat}  (k_1 : aw ext d 90 29 [some (va_rf r0), some (.int x1), some (.int x2)] [.int (0 : Int32), va_rf rk0] S Q) : aw ext d 90 28 [some (va_rf r0), some (.int x1), some (.int x2)] [va_rf rk0] S Q := by
  refine aw_con j90_28 ?_
  exact k_1
theorem bk90_29 {a0 : Nat} {x1 : Int32} {x2 : Int32} {ak0 : Nat} {xk1 : Int32} {y3 : Int32} (t_1 : S.1 ak0 = some (.inl 10)) (t_2 : (av_set S ak0 0 (.int xk1)).1 a0 = some (.inl 10)) (f_4 : (av_set S ak0 0 (.int xk1)).2.1 a0 0 = .int y3) (k_5 : (y3 ≤ 0) → aw ext d 90 41 [some (.ref a0), some (.int x1), some (.int x2)] [] (av_set S ak0 0 (.int xk1)) Q) (k_6 : (¬ (y3 ≤ 0)) → aw ext d 90 39 [some (.ref a0), some (.int x1), some (.int x2)] [] (av_set S ak0 0 (.int xk1)) Q) : aw ext d 90 29 [some (.ref a0), some (.int x1), some (.int x2)] [.int xk1, .ref ak0] S Q := by
  refine aw_put j90_29 t_1 rfl ?_
  refine aw_ald j90_32 rfl rfl ?_
  refine aw_get j90_33 t_2 f_4 ?_
  exact aw_if j90_36 (fun h => k_5 (of_decide_eq_true h)) (fun h => k_6 (of_decide_eq_false h))
theorem bk90_39 {r0 : Option Nat} {x1 : Int32} {x2 : Int32}  (k_1 : Q (some (.int (0 : Int32))) S) : aw ext d 90 39 [some (va_rf r0), some (.int x1), some (.int x2)] [] S Q := by
  refine aw_con j90_39 ?_
  exact aw_ret j90_40 (by rw [rt90]; exact rfl) k_1
theorem bk90_41 {r0 : Option Nat} {x1 : Int32} {x2 : Int32}  (k_1 : (¬ x2 = 0) → aw ext d 90 54 [some (va_rf r0), some (.int x1), some (.int x2)] [] S Q) (k_2 : (x2 = 0) → aw ext d 90 45 [some (va_rf r0), some (.int x1), some (.int x2)] [] S Q) : aw ext d 90 41 [some (va_rf r0), some (.int x1), some (.int x2)] [] S Q := by
  refine aw_ild j90_41 rfl ?_
  exact aw_if j90_42 (fun h => k_1 (of_decide_eq_true h)) (fun h => k_2 (Decidable.of_not_not (of_decide_eq_false h)))
theorem bk90_45 {a0 : Nat} {x1 : Int32} {x2 : Int32} {b2 : Nat} {n_4 : Nat} {i_7 : Nat} {y10 : Int32} (t_1 : S.1 a0 = some (.inl 10)) (f_3 : S.2.1 a0 30 = .ref b2) (t_5 : S.1 b2 = some (.inr (0, n_4))) (b_6 : n_4 < 2147483648) (e_8 : x1 = nI i_7) (c_9 : i_7 < n_4) (f_11 : S.2.1 b2 i_7 = .int y10) (k_12 : aw ext d 90 60 [some (.ref a0), some (.int x1), some (.int x2)] [.int y10] S Q) : aw ext d 90 45 [some (.ref a0), some (.int x1), some (.int x2)] [] S Q := by
  refine aw_ald j90_45 rfl rfl ?_
  refine aw_get j90_46 t_1 f_3 ?_
  refine aw_ild j90_49 rfl ?_
  refine aw_xld j90_50 t_5 e_8 c_9 b_6 f_11 ?_
  exact aw_goto j90_51 k_12
theorem bk90_54 {a0 : Nat} {x1 : Int32} {x2 : Int32} {b2 : Nat} {n_4 : Nat} {i_7 : Nat} {y10 : Int32} (t_1 : S.1 a0 = some (.inl 10)) (f_3 : S.2.1 a0 31 = .ref b2) (t_5 : S.1 b2 = some (.inr (0, n_4))) (b_6 : n_4 < 2147483648) (e_8 : x1 = nI i_7) (c_9 : i_7 < n_4) (f_11 : S.2.1 b2 i_7 = .int y10) (k_12 : aw ext d 90 60 [some (.ref a0), some (.int x1), some (.int x2)] [.int y10] S Q) : aw ext d 90 54 [some (.ref a0), some (.int x1), some (.int x2)] [] S Q := by
  refine aw_ald j90_54 rfl rfl ?_
  refine aw_get j90_55 t_1 f_3 ?_
  refine aw_ild j90_58 rfl ?_
  refine aw_xld j90_59 t_5 e_8 c_9 b_6 f_11 ?_
  exact k_12
theorem bk90_60 {r0 : Option Nat} {x1 : Int32} {x2 : Int32} {xk0 : Int32}  (k_1 : Q (some (.int xk0)) S) : aw ext d 90 60 [some (va_rf r0), some (.int x1), some (.int x2)] [.int xk0] S Q := by
  exact aw_ret j90_60 (by rw [rt90]; exact rfl) k_1
/-! Ref_print -/
theorem bk91_0 {a0 : Nat} {x1 : Int32} {o2 : Option Value} {o3 : Option Value} {o4 : Option Value} {P_2 : Int32 → av_St → Prop} (t_1 : S.1 a0 = some (.inl 10)) (m_5 : cti ext d 70 [.ref a0, .int x1] (av_set S a0 0 (.int (0 : Int32))) P_2) (k_6 : ∀ v_4 S_3, P_2 v_4 S_3 → aw ext (d + 1) 91 10 [some (.ref a0), some (.int x1), o2, o3, o4] [.int v_4] S_3 Q) : aw ext (d + 1) 91 0 [some (.ref a0), some (.int x1), o2, o3, o4] [] S Q := by
  refine aw_ald j91_0 rfl rfl ?_
  refine aw_con j91_1 ?_
  refine aw_put j91_2 t_1 rfl ?_
  refine aw_ald j91_5 rfl rfl ?_
  refine aw_ild j91_6 rfl ?_
  exact aw_calli (as := [.ref a0, .int x1]) j91_7 rfl rfl (Nat.le_of_ble_eq_true rfl) cy70.1 cy70.2 (cs_cons rfl (cs_cons rfl cs_nil)) (decide_eq_true t_1) m_5 k_6
theorem bk91_10 {r0 : Option Nat} {x1 : Int32} {o2 : Option Value} {o3 : Option Value} {o4 : Option Value} {xk0 : Int32}  (k_1 : (¬ xk0 = 0) → aw ext d 91 15 [some (va_rf r0), some (.int x1), o2, o3, o4] [] S Q) (k_2 : (xk0 = 0) → aw ext d 91 13 [some (va_rf r0), some (.int x1), o2, o3, o4] [] S Q) : aw ext d 91 10 [some (va_rf r0), some (.int x1), o2, o3, o4] [.int xk0] S Q := by
  exact aw_if j91_10 (fun h => k_1 (of_decide_eq_true h)) (fun h => k_2 (Decidable.of_not_not (of_decide_eq_false h)))
theorem bk91_13 {r0 : Option Nat} {x1 : Int32} {o2 : Option Value} {o3 : Option Value} {o4 : Option Value}  (k_1 : Q (some (.int (-1 : Int32))) S) : aw ext d 91 13 [some (va_rf r0), some (.int x1), o2, o3, o4] [] S Q := by
  refine aw_con j91_13 ?_
  exact aw_ret j91_14 (by rw [rt91]; exact rfl) k_1
theorem bk91_15 {a0 : Nat} {x1 : Int32} {o2 : Option Value} {o3 : Option Value} {o4 : Option Value} {P_1 : av_St → Prop} (t_4 : S.1 a0 = some (.inl 10)) (m_5 : ctv ext d 80 [.ref a0, .int x1] S P_1) (k_6 : ∀ S_2, P_1 S_2 → aw ext (d + 1) 91 20 [some (.ref a0), some (.int x1), o2, o3, o4] [] S_2 Q) : aw ext (d + 1) 91 15 [some (.ref a0), some (.int x1), o2, o3, o4] [] S Q := by
  refine aw_ald j91_15 rfl rfl ?_
  refine aw_ild j91_16 rfl ?_
  exact aw_callv (as := [.ref a0, .int x1]) j91_17 rfl rfl (Nat.le_of_ble_eq_true rfl) cy80.1 cy80.2 (cs_cons rfl (cs_cons rfl cs_nil)) (decide_eq_true t_4) m_5 k_6
theorem bk91_20 {a0 : Nat} {x1 : Int32} {o2 : Option Value} {o3 : Option Value} {o4 : Option Value} (t_1 : S.1 a0 = some (.inl 10)) (k_2 : aw ext d 91 27 [some (.ref a0), some (.int x1), some (.int (0 : Int32)), o3, o4] [] (av_set S a0 32 (.int (0 : Int32))) Q) : aw ext d 91 20 [some (.ref a0), some (.int x1), o2, o3, o4] [] S Q := by
  refine aw_ald j91_20 rfl rfl ?_
  refine aw_con j91_21 ?_
  refine aw_put j91_22 t_1 rfl ?_
  refine aw_con j91_25 ?_
  refine aw_ist j91_26 (Nat.le_of_ble_eq_true rfl) ?_
  exact k_2
theorem bk91_27 {a0 : Nat} {x1 : Int32} {x2 : Int32} {o3 : Option Value} {o4 : Option Value} {y2 : Int32} (t_1 : S.1 a0 = some (.inl 10)) (f_3 : S.2.1 a0 19 = .int y2) (k_4 : (y2 ≤ x2) → aw ext d 91 151 [some (.ref a0), some (.int x1), some (.int x2), o3, o4] [] S Q) (k_5 : (¬ (y2 ≤ x2)) → aw ext d 91 35 [some (.ref a0), some (.int x1), some (.int x2), o3, o4] [] S Q) : aw ext d 91 27 [some (.ref a0), some (.int x1), some (.int x2), o3, o4] [] S Q := by
  refine aw_ild j91_27 rfl ?_
  refine aw_ald j91_28 rfl rfl ?_
  refine aw_get j91_29 t_1 f_3 ?_
  exact aw_ic j91_32 (fun h => k_4 (of_decide_eq_true h)) (fun h => k_5 (of_decide_eq_false h))
theorem bk91_35 {a0 : Nat} {x1 : Int32} {x2 : Int32} {o3 : Option Value} {o4 : Option Value} {b2 : Nat} {n_4 : Nat} {i_7 : Nat} {y10 : Int32} (t_1 : S.1 a0 = some (.inl 10)) (f_3 : S.2.1 a0 20 = .ref b2) (t_5 : S.1 b2 = some (.inr (0, n_4))) (b_6 : n_4 < 2147483648) (e_8 : x2 = nI i_7) (c_9 : i_7 < n_4) (f_11 : S.2.1 b2 i_7 = .int y10) (k_12 : aw ext d 91 45 [some (.ref a0), some (.int x1), some (.int x2), some (.int y10), some (.int (0 : Int32))] [] S Q) : aw ext d 91 35 [some (.ref a0), some (.int x1), some (.int x2), o3, o4] [] S Q := by
  refine aw_ald j91_35 rfl rfl ?_
  refine aw_get j91_36 t_1 f_3 ?_
  refine aw_ild j91_39 rfl ?_
  refine aw_xld j91_40 t_5 e_8 c_9 b_6 f_11 ?_
  refine aw_ist j91_41 (Nat.le_of_ble_eq_true rfl) ?_
  refine aw_con j91_42 ?_
  refine aw_ist j91_43 (Nat.le_of_ble_eq_true rfl) ?_
  exact k_12
theorem bk91_45 {a0 : Nat} {x1 : Int32} {x2 : Int32} {x3 : Int32} {x4 : Int32} {b2 : Nat} {n_4 : Nat} {i_7 : Nat} {y10 : Int32} (t_1 : S.1 a0 = some (.inl 10)) (f_3 : S.2.1 a0 21 = .ref b2) (t_5 : S.1 b2 = some (.inr (0, n_4))) (b_6 : n_4 < 2147483648) (e_8 : x2 = nI i_7) (c_9 : i_7 < n_4) (f_11 : S.2.1 b2 i_7 = .int y10) (k_12 : (y10 ≤ x4) → aw ext d 91 68 [some (.ref a0), some (.int x1), some (.int x2), some (.int x3), some (.int x4)] [] S Q) (k_13 : (¬ (y10 ≤ x4)) → aw ext d 91 56 [some (.ref a0), some (.int x1), some (.int x2), some (.int x3), some (.int x4)] [] S Q) : aw ext d 91 45 [some (.ref a0), some (.int x1), some (.int x2), some (.int x3), some (.int x4)] [] S Q := by
  refine aw_ild j91_45 rfl ?_
  refine aw_ald j91_47 rfl rfl ?_
  refine aw_get j91_48 t_1 f_3 ?_
  refine aw_ild j91_51 rfl ?_
  refine aw_xld j91_52 t_5 e_8 c_9 b_6 f_11 ?_
  exact aw_ic j91_53 (fun h => k_12 (of_decide_eq_true h)) (fun h => k_13 (of_decide_eq_false h))
theorem bk91_56 {a0 : Nat} {x1 : Int32} {x2 : Int32} {x3 : Int32} {x4 : Int32} {P_1 : av_St → Prop} (t_4 : S.1 a0 = some (.inl 10)) (m_5 : ctv ext d 92 [.ref a0, .int (32 : Int32)] S P_1) (k_6 : ∀ S_2, P_1 S_2 → aw ext (d + 1) 91 62 [some (.ref a0), some (.int x1), some (.int x2), some (.int x3), some (.int x4)] [] S_2 Q) : aw ext (d + 1) 91 56 [some (.ref a0), some (.int x1), some (.int x2), some (.int x3), some (.int x4)] [] S Q := by
  refine aw_ald j91_56 rfl rfl ?_
  refine aw_con j91_57 ?_
  exact aw_callv (as := [.ref a0, .int (32 : Int32)]) j91_59 rfl rfl (Nat.le_of_ble_eq_true rfl) cy92.1 cy92.2 (cs_cons rfl (cs_cons rfl cs_nil)) (decide_eq_true t_4) m_5 k_6
theorem bk91_62 {r0 : Option Nat} {x1 : Int32} {x2 : Int32} {x3 : Int32} {x4 : Int32}  (k_1 : aw ext d 91 45 [some (va_rf r0), some (.int x1), some (.int x2), some (.int x3), some (.int (x4 + 1))] [] S Q) : aw ext d 91 62 [some (va_rf r0), some (.int x1), some (.int x2), some (.int x3), some (.int x4)] [] S Q := by
  refine aw_inc j91_62 rfl ?_
  exact aw_goto j91_65 k_1
theorem bk91_68 {r0 : Option Nat} {x1 : Int32} {x2 : Int32} {x3 : Int32} {x4 : Int32}  (k_1 : aw ext d 91 73 [some (va_rf r0), some (.int x1), some (.int x2), some (.int x3), some (.int (1000 : Int32))] [] S Q) : aw ext d 91 68 [some (va_rf r0), some (.int x1), some (.int x2), some (.int x3), some (.int x4)] [] S Q := by
  refine aw_con j91_68 ?_
  refine aw_ist j91_71 (Nat.le_of_ble_eq_true rfl) ?_
  exact k_1
theorem bk91_73 {r0 : Option Nat} {x1 : Int32} {x2 : Int32} {x3 : Int32} {x4 : Int32}  (k_1 : (x4 ≤ 0) → aw ext d 91 124 [some (va_rf r0), some (.int x1), some (.int x2), some (.int x3), some (.int x4)] [] S Q) (k_2 : (¬ (x4 ≤ 0)) → aw ext d 91 78 [some (va_rf r0), some (.int x1), some (.int x2), some (.int x3), some (.int x4)] [] S Q) : aw ext d 91 73 [some (va_rf r0), some (.int x1), some (.int x2), some (.int x3), some (.int x4)] [] S Q := by
  refine aw_ild j91_73 rfl ?_
  exact aw_if j91_75 (fun h => k_1 (of_decide_eq_true h)) (fun h => k_2 (of_decide_eq_false h))
theorem bk91_78 {a0 : Nat} {x1 : Int32} {x2 : Int32} {x3 : Int32} {x4 : Int32} {b2 : Nat} {n_4 : Nat} {i_7 : Nat} {y10 : Int32} (t_1 : S.1 a0 = some (.inl 10)) (f_3 : S.2.1 a0 9 = .ref b2) (t_5 : S.1 b2 = some (.inr (0, n_4))) (b_6 : n_4 < 2147483648) (e_8 : x3 = nI i_7) (c_9 : i_7 < n_4) (f_11 : S.2.1 b2 i_7 = .int y10) (k_12 : (x4 ≤ y10) → aw ext d 91 95 [some (.ref a0), some (.int x1), some (.int x2), some (.int x3), some (.int x4)] [] S Q) (k_13 : (¬ (x4 ≤ y10)) → aw ext d 91 89 [some (.ref a0), some (.int x1), some (.int x2), some (.int x3), some (.int x4)] [] S Q) : aw ext d 91 78 [some (.ref a0), some (.int x1), some (.int x2), some (.int x3), some (.int x4)] [] S Q := by
  refine aw_ald j91_78 rfl rfl ?_
  refine aw_get j91_79 t_1 f_3 ?_
  refine aw_ild j91_82 rfl ?_
  refine aw_xld j91_83 t_5 e_8 c_9 b_6 f_11 ?_
  refine aw_ild j91_84 rfl ?_
  exact aw_ic j91_86 (fun h => k_12 (of_decide_eq_true h)) (fun h => k_13 (of_decide_eq_false h))
theorem bk91_89 {r0 : Option Nat} {x1 : Int32} {x2 : Int32} {x3 : Int32} {x4 : Int32}  (k_1 : (¬ x4 = (1 : Int32)) → aw ext d 91 114 [some (va_rf r0), some (.int x1), some (.int x2), some (.int x3), some (.int x4)] [] S Q) (k_2 : (x4 = (1 : Int32)) → aw ext d 91 95 [some (va_rf r0), some (.int x1), some (.int x2), some (.int x3), some (.int x4)] [] S Q) : aw ext d 91 89 [some (va_rf r0), some (.int x1), some (.int x2), some (.int x3), some (.int x4)] [] S Q := by
  refine aw_ild j91_89 rfl ?_
  refine aw_con j91_91 ?_
  exact aw_ic j91_92 (fun h => k_1 (of_decide_eq_true h)) (fun h => k_2 (Decidable.of_not_not (of_decide_eq_false h)))
theorem bk91_95 {a0 : Nat} {x1 : Int32} {x2 : Int32} {x3 : Int32} {x4 : Int32} {b2 : Nat} {n_4 : Nat} {i_7 : Nat} {y10 : Int32} {P_13 : av_St → Prop} (t_1 : S.1 a0 = some (.inl 10)) (f_3 : S.2.1 a0 9 = .ref b2) (t_5 : S.1 b2 = some (.inr (0, n_4))) (b_6 : n_4 < 2147483648) (e_8 : x3 = nI i_7) (c_9 : i_7 < n_4) (f_11 : S.2.1 b2 i_7 = .int y10) (z_12 : ¬ x4 = 0) (m_16 : ctv ext d 92 [.ref a0, .int ((48 : Int32) + ((y10 / x4) - (y10 / x4) / (10 : Int32) * (10 : Int32)))] S P_13) (k_17 : ∀ S_14, P_13 S_14 → aw ext (d + 1) 91 114 [some (.ref a0), some (.int x1), some (.int x2), some (.int x3), some (.int x4)] [] S_14 Q) : aw ext (d + 1) 91 95 [some (.ref a0), some (.int x1), some (.int x2), some (.int x3), some (.int x4)] [] S Q := by
  refine aw_ald j91_95 rfl rfl ?_
  refine aw_con j91_96 ?_
  refine aw_ald j91_98 rfl rfl ?_
  refine aw_get j91_99 t_1 f_3 ?_
  refine aw_ild j91_102 rfl ?_
  refine aw_xld j91_103 t_5 e_8 c_9 b_6 f_11 ?_
  refine aw_ild j91_104 rfl ?_
  refine aw_bin (z := (y10 / x4)) j91_106 (by simp only [av_bin]; exact if_neg z_12) ?_
  refine aw_con j91_107 ?_
  refine aw_bin (z := ((y10 / x4) - (y10 / x4) / (10 : Int32) * (10 : Int32))) j91_109 (by simp only [av_bin]; exact if_neg (by decide)) ?_
  refine aw_bin (z := ((48 : Int32) + ((y10 / x4) - (y10 / x4) / (10 : Int32) * (10 : Int32)))) j91_110 rfl ?_
  exact aw_callv (as := [.ref a0, .int ((48 : Int32) + ((y10 / x4) - (y10 / x4) / (10 : Int32) * (10 : Int32)))]) j91_111 rfl rfl (Nat.le_of_ble_eq_true rfl) cy92.1 cy92.2 (cs_cons rfl (cs_cons rfl cs_nil)) (decide_eq_true t_1) m_16 k_17
theorem bk91_114 {r0 : Option Nat} {x1 : Int32} {x2 : Int32} {x3 : Int32} {x4 : Int32}  (k_1 : aw ext d 91 73 [some (va_rf r0), some (.int x1), some (.int x2), some (.int x3), some (.int (x4 / (10 : Int32)))] [] S Q) : aw ext d 91 114 [some (va_rf r0), some (.int x1), some (.int x2), some (.int x3), some (.int x4)] [] S Q := by
  refine aw_ild j91_114 rfl ?_
  refine aw_con j91_116 ?_
  refine aw_bin (z := (x4 / (10 : Int32))) j91_118 (by simp only [av_bin]; exact if_neg (by decide)) ?_
  refine aw_ist j91_119 (Nat.le_of_ble_eq_true rfl) ?_
  exact aw_goto j91_121 k_1
theorem bk91_124 {a0 : Nat} {x1 : Int32} {x2 : Int32} {x3 : Int32} {x4 : Int32} {b2 : Nat} {n_4 : Nat} {i_7 : Nat} {y10 : Int32} (t_1 : S.1 a0 = some (.inl 10)) (f_3 : S.2.1 a0 10 = .ref b2) (t_5 : S.1 b2 = some (.inr (0, n_4))) (b_6 : n_4 < 2147483648) (e_8 : x3 = nI i_7) (c_9 : i_7 < n_4) (f_11 : S.2.1 b2 i_7 = .int y10) (k_12 : (y10 < 0) → aw ext d 91 139 [some (.ref a0), some (.int x1), some (.int x2), some (.int x3), some (.int x4)] [] S Q) (k_13 : (¬ (y10 < 0)) → aw ext d 91 133 [some (.ref a0), some (.int x1), some (.int x2), some (.int x3), some (.int x4)] [] S Q) : aw ext d 91 124 [some (.ref a0), some (.int x1), some (.int x2), some (.int x3), some (.int x4)] [] S Q := by
  refine aw_ald j91_124 rfl rfl ?_
  refine aw_get j91_125 t_1 f_3 ?_
  refine aw_ild j91_128 rfl ?_
  refine aw_xld j91_129 t_5 e_8 c_9 b_6 f_11 ?_
  exact aw_if j91_130 (fun h => k_12 (of_decide_eq_true h)) (fun h => k_13 (of_decide_eq_false h))
theorem bk91_133 {a0 : Nat} {x1 : Int32} {x2 : Int32} {x3 : Int32} {x4 : Int32} {P_1 : av_St → Prop} (t_4 : S.1 a0 = some (.inl 10)) (m_5 : ctv ext d 92 [.ref a0, .int (61 : Int32)] S P_1) (k_6 : ∀ S_2, P_1 S_2 → aw ext (d + 1) 91 139 [some (.ref a0), some (.int x1), some (.int x2), some (.int x3), some (.int x4)] [] S_2 Q) : aw ext (d + 1) 91 133 [some (.ref a0), some (.int x1), some (.int x2), some (.int x3), some (.int x4)] [] S Q := by
  refine aw_ald j91_133 rfl rfl ?_
  refine aw_con j91_134 ?_
  exact aw_callv (as := [.ref a0, .int (61 : Int32)]) j91_136 rfl rfl (Nat.le_of_ble_eq_true rfl) cy92.1 cy92.2 (cs_cons rfl (cs_cons rfl cs_nil)) (decide_eq_true t_4) m_5 k_6
theorem bk91_139 {a0 : Nat} {x1 : Int32} {x2 : Int32} {x3 : Int32} {x4 : Int32} {P_1 : av_St → Prop} (t_4 : S.1 a0 = some (.inl 10)) (m_5 : ctv ext d 92 [.ref a0, .int (10 : Int32)] S P_1) (k_6 : ∀ S_2, P_1 S_2 → aw ext (d + 1) 91 145 [some (.ref a0), some (.int x1), some (.int x2), some (.int x3), some (.int x4)] [] S_2 Q) : aw ext (d + 1) 91 139 [some (.ref a0), some (.int x1), some (.int x2), some (.int x3), some (.int x4)] [] S Q := by
  refine aw_ald j91_139 rfl rfl ?_
  refine aw_con j91_140 ?_
  exact aw_callv (as := [.ref a0, .int (10 : Int32)]) j91_142 rfl rfl (Nat.le_of_ble_eq_true rfl) cy92.1 cy92.2 (cs_cons rfl (cs_cons rfl cs_nil)) (decide_eq_true t_4) m_5 k_6
theorem bk91_145 {r0 : Option Nat} {x1 : Int32} {x2 : Int32} {x3 : Int32} {x4 : Int32}  (k_1 : aw ext d 91 27 [some (va_rf r0), some (.int x1), some (.int (x2 + 1)), some (.int x3), some (.int x4)] [] S Q) : aw ext d 91 145 [some (va_rf r0), some (.int x1), some (.int x2), some (.int x3), some (.int x4)] [] S Q := by
  refine aw_inc j91_145 rfl ?_
  exact aw_goto j91_148 k_1
theorem bk91_151 {a0 : Nat} {x1 : Int32} {x2 : Int32} {o3 : Option Value} {o4 : Option Value} {y2 : Int32} (t_1 : S.1 a0 = some (.inl 10)) (f_3 : S.2.1 a0 32 = .int y2) (k_4 : Q (some (.int y2)) S) : aw ext d 91 151 [some (.ref a0), some (.int x1), some (.int x2), o3, o4] [] S Q := by
  refine aw_ald j91_151 rfl rfl ?_
  refine aw_get j91_152 t_1 f_3 ?_
  exact aw_ret j91_155 (by rw [rt91]; exact rfl) k_4
/-! Ref_put -/
theorem bk92_0 {a0 : Nat} {x1 : Int32} {b2 : Nat} {y4 : Int32} {n_6 : Nat} {i_9 : Nat} {y12 : Int32} (t_1 : S.1 a0 = some (.inl 10)) (f_3 : S.2.1 a0 33 = .ref b2) (f_5 : S.2.1 a0 32 = .int y4) (t_7 : S.1 b2 = some (.inr (3, n_6))) (b_8 : n_6 < 2147483648) (e_10 : y4 = nI i_9) (c_11 : i_9 < n_6) (f_13 : (av_set S b2 i_9 (narrow .byte (.int (x1).toInt8.toInt32))).2.1 a0 32 = .int y12) (k_14 : Q none (av_set (av_set S b2 i_9 (narrow .byte (.int (x1).toInt8.toInt32))) a0 32 (.int (y12 + (1 : Int32))))) : aw ext d 92 0 [some (.ref a0), some (.int x1)] [] S Q := by
  refine aw_ald j92_0 rfl rfl ?_
  refine aw_get j92_1 t_1 f_3 ?_
  refine aw_ald j92_4 rfl rfl ?_
  refine aw_get j92_5 t_1 f_5 ?_
  refine aw_ild j92_8 rfl ?_
  refine aw_i2b j92_9 ?_
  refine aw_xst j92_10 t_7 e_10 c_11 b_8 ?_
  refine aw_ald j92_11 rfl rfl ?_
  refine aw_dup j92_12 rfl ?_
  refine aw_get j92_13 t_1 f_13 ?_
  refine aw_con j92_16 ?_
  refine aw_bin (z := (y12 + (1 : Int32))) j92_17 rfl ?_
  refine aw_put j92_18 t_1 rfl ?_
  exact aw_vret j92_21 rt92 k_14
/-! Ref_at -/
theorem bk93_0 {a0 : Nat} {x1 : Int32} {y2 : Int32} {P_4 : Int32 → av_St → Prop} (t_1 : S.1 a0 = some (.inl 10)) (f_3 : (av_set S a0 0 (.int (0 : Int32))).2.1 a0 32 = .int y2) (m_7 : cti ext d 65 [.int x1, .int (0 : Int32), .int (y2 - (1 : Int32))] (av_set S a0 0 (.int (0 : Int32))) P_4) (k_8 : ∀ v_6 S_5, P_4 v_6 S_5 → aw ext (d + 1) 93 16 [some (.ref a0), some (.int x1)] [.int v_6] S_5 Q) : aw ext (d + 1) 93 0 [some (.ref a0), some (.int x1)] [] S Q := by
  refine aw_ald j93_0 rfl rfl ?_
  refine aw_con j93_1 ?_
  refine aw_put j93_2 t_1 rfl ?_
  refine aw_ild j93_5 rfl ?_
  refine aw_con j93_6 ?_
  refine aw_ald j93_7 rfl rfl ?_
  refine aw_get j93_8 t_1 f_3 ?_
  refine aw_con j93_11 ?_
  refine aw_bin (z := (y2 - (1 : Int32))) j93_12 rfl ?_
  exact aw_calli (as := [.int x1, .int (0 : Int32), .int (y2 - (1 : Int32))]) j93_13 rfl rfl (Nat.le_of_ble_eq_true rfl) cy65.1 cy65.2 (cs_cons rfl (cs_cons rfl (cs_cons rfl cs_nil))) rfl m_7 k_8
theorem bk93_16 {r0 : Option Nat} {x1 : Int32} {xk0 : Int32}  (k_1 : (xk0 = 0) → aw ext d 93 28 [some (va_rf r0), some (.int x1)] [] S Q) (k_2 : (¬ (xk0 = 0)) → aw ext d 93 19 [some (va_rf r0), some (.int x1)] [] S Q) : aw ext d 93 16 [some (va_rf r0), some (.int x1)] [.int xk0] S Q := by
  exact aw_if j93_16 (fun h => k_1 (of_decide_eq_true h)) (fun h => k_2 (of_decide_eq_false h))
theorem bk93_19 {a0 : Nat} {x1 : Int32} {b2 : Nat} {n_4 : Nat} {i_7 : Nat} {y10 : Int32} (t_1 : S.1 a0 = some (.inl 10)) (f_3 : S.2.1 a0 33 = .ref b2) (t_5 : S.1 b2 = some (.inr (3, n_4))) (b_6 : n_4 < 2147483648) (e_8 : x1 = nI i_7) (c_9 : i_7 < n_4) (f_11 : S.2.1 b2 i_7 = .int y10) (k_12 : aw ext d 93 29 [some (.ref a0), some (.int x1)] [.int y10] S Q) : aw ext d 93 19 [some (.ref a0), some (.int x1)] [] S Q := by
  refine aw_ald j93_19 rfl rfl ?_
  refine aw_get j93_20 t_1 f_3 ?_
  refine aw_ild j93_23 rfl ?_
  refine aw_xld j93_24 t_5 e_8 c_9 b_6 f_11 ?_
  exact aw_goto j93_25 k_12
theorem bk93_28 {r0 : Option Nat} {x1 : Int32}  (k_1 : aw ext d 93 29 [some (va_rf r0), some (.int x1)] [.int (-1 : Int32)] S Q) : aw ext d 93 28 [some (va_rf r0), some (.int x1)] [] S Q := by
  refine aw_con j93_28 ?_
  exact k_1
theorem bk93_29 {r0 : Option Nat} {x1 : Int32} {xk0 : Int32}  (k_1 : Q (some (.int xk0)) S) : aw ext d 93 29 [some (va_rf r0), some (.int x1)] [.int xk0] S Q := by
  exact aw_ret j93_29 (by rw [rt93]; exact rfl) k_1
/-! Ref_differ -/
theorem bk94_0 {a0 : Nat} {x1 : Int32} {x2 : Int32} {o3 : Option Value} {o4 : Option Value} {o5 : Option Value} {P_2 : Int32 → av_St → Prop} (t_1 : S.1 a0 = some (.inl 10)) (m_5 : cti ext d 70 [.ref a0, .int x1] (av_set S a0 0 (.int (0 : Int32))) P_2) (k_6 : ∀ v_4 S_3, P_2 v_4 S_3 → aw ext (d + 1) 94 10 [some (.ref a0), some (.int x1), some (.int x2), o3, o4, o5] [.int v_4] S_3 Q) : aw ext (d + 1) 94 0 [some (.ref a0), some (.int x1), some (.int x2), o3, o4, o5] [] S Q := by
  refine aw_ald j94_0 rfl rfl ?_
  refine aw_con j94_1 ?_
  refine aw_put j94_2 t_1 rfl ?_
  refine aw_ald j94_5 rfl rfl ?_
  refine aw_ild j94_6 rfl ?_
  exact aw_calli (as := [.ref a0, .int x1]) j94_7 rfl rfl (Nat.le_of_ble_eq_true rfl) cy70.1 cy70.2 (cs_cons rfl (cs_cons rfl cs_nil)) (decide_eq_true t_1) m_5 k_6
theorem bk94_10 {r0 : Option Nat} {x1 : Int32} {x2 : Int32} {o3 : Option Value} {o4 : Option Value} {o5 : Option Value} {xk0 : Int32}  (k_1 : (xk0 = 0) → aw ext d 94 21 [some (va_rf r0), some (.int x1), some (.int x2), o3, o4, o5] [] S Q) (k_2 : (¬ (xk0 = 0)) → aw ext d 94 13 [some (va_rf r0), some (.int x1), some (.int x2), o3, o4, o5] [] S Q) : aw ext d 94 10 [some (va_rf r0), some (.int x1), some (.int x2), o3, o4, o5] [.int xk0] S Q := by
  exact aw_if j94_10 (fun h => k_1 (of_decide_eq_true h)) (fun h => k_2 (of_decide_eq_false h))
theorem bk94_13 {a0 : Nat} {x1 : Int32} {x2 : Int32} {o3 : Option Value} {o4 : Option Value} {o5 : Option Value} {P_1 : Int32 → av_St → Prop} (t_4 : S.1 a0 = some (.inl 10)) (m_5 : cti ext d 70 [.ref a0, .int x2] S P_1) (k_6 : ∀ v_3 S_2, P_1 v_3 S_2 → aw ext (d + 1) 94 18 [some (.ref a0), some (.int x1), some (.int x2), o3, o4, o5] [.int v_3] S_2 Q) : aw ext (d + 1) 94 13 [some (.ref a0), some (.int x1), some (.int x2), o3, o4, o5] [] S Q := by
  refine aw_ald j94_13 rfl rfl ?_
  refine aw_ild j94_14 rfl ?_
  exact aw_calli (as := [.ref a0, .int x2]) j94_15 rfl rfl (Nat.le_of_ble_eq_true rfl) cy70.1 cy70.2 (cs_cons rfl (cs_cons rfl cs_nil)) (decide_eq_true t_4) m_5 k_6
theorem bk94_18 {r0 : Option Nat} {x1 : Int32} {x2 : Int32} {o3 : Option Value} {o4 : Option Value} {o5 : Option Value} {xk0 : Int32}  (k_1 : (¬ xk0 = 0) → aw ext d 94 23 [some (va_rf r0), some (.int x1), some (.int x2), o3, o4, o5] [] S Q) (k_2 : (xk0 = 0) → aw ext d 94 21 [some (va_rf r0), some (.int x1), some (.int x2), o3, o4, o5] [] S Q) : aw ext d 94 18 [some (va_rf r0), some (.int x1), some (.int x2), o3, o4, o5] [.int xk0] S Q := by
  exact aw_if j94_18 (fun h => k_1 (of_decide_eq_true h)) (fun h => k_2 (Decidable.of_not_not (of_decide_eq_false h)))
theorem bk94_21 {r0 : Option Nat} {x1 : Int32} {x2 : Int32} {o3 : Option Value} {o4 : Option Value} {o5 : Option Value}  (k_1 : Q (some (.int (-1 : Int32))) S) : aw ext d 94 21 [some (va_rf r0), some (.int x1), some (.int x2), o3, o4, o5] [] S Q := by
  refine aw_con j94_21 ?_
  exact aw_ret j94_22 (by rw [rt94]; exact rfl) k_1
theorem bk94_23 {a0 : Nat} {x1 : Int32} {x2 : Int32} {o3 : Option Value} {o4 : Option Value} {o5 : Option Value} {P_1 : av_St → Prop} (t_4 : S.1 a0 = some (.inl 10)) (m_5 : ctv ext d 80 [.ref a0, .int x1] S P_1) (k_6 : ∀ S_2, P_1 S_2 → aw ext (d + 1) 94 28 [some (.ref a0), some (.int x1), some (.int x2), o3, o4, o5] [] S_2 Q) : aw ext (d + 1) 94 23 [some (.ref a0), some (.int x1), some (.int x2), o3, o4, o5] [] S Q := by
  refine aw_ald j94_23 rfl rfl ?_
  refine aw_ild j94_24 rfl ?_
  exact aw_callv (as := [.ref a0, .int x1]) j94_25 rfl rfl (Nat.le_of_ble_eq_true rfl) cy80.1 cy80.2 (cs_cons rfl (cs_cons rfl cs_nil)) (decide_eq_true t_4) m_5 k_6
theorem bk94_28 {a0 : Nat} {x1 : Int32} {x2 : Int32} {o3 : Option Value} {o4 : Option Value} {o5 : Option Value} {y2 : Int32} (t_1 : S.1 a0 = some (.inl 10)) (f_3 : S.2.1 a0 19 = .int y2) (k_4 : aw ext d 94 38 [some (.ref a0), some (.int x1), some (.int x2), some (.int (0 : Int32)), o4, o5] [] (av_set S a0 22 (.int y2)) Q) : aw ext d 94 28 [some (.ref a0), some (.int x1), some (.int x2), o3, o4, o5] [] S Q := by
  refine aw_ald j94_28 rfl rfl ?_
  refine aw_ald j94_29 rfl rfl ?_
  refine aw_get j94_30 t_1 f_3 ?_
  refine aw_put j94_33 t_1 rfl ?_
  refine aw_con j94_36 ?_
  refine aw_ist j94_37 (Nat.le_of_ble_eq_true rfl) ?_
  exact k_4
theorem bk94_38 {a0 : Nat} {x1 : Int32} {x2 : Int32} {x3 : Int32} {o4 : Option Value} {o5 : Option Value} {y2 : Int32} (t_1 : S.1 a0 = some (.inl 10)) (f_3 : S.2.1 a0 19 = .int y2) (k_4 : (y2 ≤ x3) → aw ext d 94 76 [some (.ref a0), some (.int x1), some (.int x2), some (.int x3), o4, o5] [] S Q) (k_5 : (¬ (y2 ≤ x3)) → aw ext d 94 46 [some (.ref a0), some (.int x1), some (.int x2), some (.int x3), o4, o5] [] S Q) : aw ext d 94 38 [some (.ref a0), some (.int x1), some (.int x2), some (.int x3), o4, o5] [] S Q := by
  refine aw_ild j94_38 rfl ?_
  refine aw_ald j94_39 rfl rfl ?_
  refine aw_get j94_40 t_1 f_3 ?_
  exact aw_ic j94_43 (fun h => k_4 (of_decide_eq_true h)) (fun h => k_5 (of_decide_eq_false h))
theorem bk94_46 {a0 : Nat} {x1 : Int32} {x2 : Int32} {x3 : Int32} {o4 : Option Value} {o5 : Option Value} {b2 : Nat} {b4 : Nat} {n_6 : Nat} {i_9 : Nat} {y12 : Int32} {n_14 : Nat} {i_17 : Nat} {b20 : Nat} {b22 : Nat} {n_24 : Nat} {i_27 : Nat} {y30 : Int32} {n_32 : Nat} {i_35 : Nat} (t_1 : S.1 a0 = some (.inl 10)) (f_3 : S.2.1 a0 23 = .ref b2) (f_5 : S.2.1 a0 20 = .ref b4) (t_7 : S.1 b4 = some (.inr (0, n_6))) (b_8 : n_6 < 2147483648) (e_10 : x3 = nI i_9) (c_11 : i_9 < n_6) (f_13 : S.2.1 b4 i_9 = .int y12) (t_15 : S.1 b2 = some (.inr (0, n_14))) (b_16 : n_14 < 2147483648) (e_18 : x3 = nI i_17) (c_19 : i_17 < n_14) (f_21 : (av_set S b2 i_17 (.int y12)).2.1 a0 24 = .ref b20) (f_23 : (av_set S b2 i_17 (.int y12)).2.1 a0 21 = .ref b22) (t_25 : (av_set S b2 i_17 (.int y12)).1 b22 = some (.inr (0, n_24))) (b_26 : n_24 < 2147483648) (e_28 : x3 = nI i_27) (c_29 : i_27 < n_24) (f_31 : (av_set S b2 i_17 (.int y12)).2.1 b22 i_27 = .int y30) (t_33 : (av_set S b2 i_17 (.int y12)).1 b20 = some (.inr (0, n_32))) (b_34 : n_32 < 2147483648) (e_36 : x3 = nI i_35) (c_37 : i_35 < n_32) (k_38 : aw ext d 94 38 [some (.ref a0), some (.int x1), some (.int x2), some (.int (x3 + 1)), o4, o5] [] (av_set (av_set S b2 i_17 (.int y12)) b20 i_35 (.int y30)) Q) : aw ext d 94 46 [some (.ref a0), some (.int x1), some (.int x2), some (.int x3), o4, o5] [] S Q := by
  refine aw_ald j94_46 rfl rfl ?_
  refine aw_get j94_47 t_1 f_3 ?_
  refine aw_ild j94_50 rfl ?_
  refine aw_ald j94_51 rfl rfl ?_
  refine aw_get j94_52 t_1 f_5 ?_
  refine aw_ild j94_55 rfl ?_
  refine aw_xld j94_56 t_7 e_10 c_11 b_8 f_13 ?_
  refine aw_xst j94_57 t_15 e_18 c_19 b_16 ?_
  refine aw_ald j94_58 rfl rfl ?_
  refine aw_get j94_59 t_1 f_21 ?_
  refine aw_ild j94_62 rfl ?_
  refine aw_ald j94_63 rfl rfl ?_
  refine aw_get j94_64 t_1 f_23 ?_
  refine aw_ild j94_67 rfl ?_
  refine aw_xld j94_68 t_25 e_28 c_29 b_26 f_31 ?_
  refine aw_xst j94_69 t_33 e_36 c_37 b_34 ?_
  refine aw_inc j94_70 rfl ?_
  exact aw_goto j94_73 k_38
theorem bk94_76 {a0 : Nat} {x1 : Int32} {x2 : Int32} {x3 : Int32} {o4 : Option Value} {o5 : Option Value} {P_1 : av_St → Prop} (t_4 : S.1 a0 = some (.inl 10)) (m_5 : ctv ext d 80 [.ref a0, .int x2] S P_1) (k_6 : ∀ S_2, P_1 S_2 → aw ext (d + 1) 94 81 [some (.ref a0), some (.int x1), some (.int x2), some (.int x3), o4, o5] [] S_2 Q) : aw ext (d + 1) 94 76 [some (.ref a0), some (.int x1), some (.int x2), some (.int x3), o4, o5] [] S Q := by
  refine aw_ald j94_76 rfl rfl ?_
  refine aw_ild j94_77 rfl ?_
  exact aw_callv (as := [.ref a0, .int x2]) j94_78 rfl rfl (Nat.le_of_ble_eq_true rfl) cy80.1 cy80.2 (cs_cons rfl (cs_cons rfl cs_nil)) (decide_eq_true t_4) m_5 k_6
theorem bk94_81 {r0 : Option Nat} {x1 : Int32} {x2 : Int32} {x3 : Int32} {o4 : Option Value} {o5 : Option Value}  (k_1 : aw ext d 94 86 [some (va_rf r0), some (.int x1), some (.int x2), some (.int (0 : Int32)), some (.int (0 : Int32)), o5] [] S Q) : aw ext d 94 81 [some (va_rf r0), some (.int x1), some (.int x2), some (.int x3), o4, o5] [] S Q := by
  refine aw_con j94_81 ?_
  refine aw_ist j94_82 (Nat.le_of_ble_eq_true rfl) ?_
  refine aw_con j94_83 ?_
  refine aw_ist j94_84 (Nat.le_of_ble_eq_true rfl) ?_
  exact k_1
theorem bk94_86 {a0 : Nat} {x1 : Int32} {x2 : Int32} {x3 : Int32} {x4 : Int32} {o5 : Option Value} {y2 : Int32} (t_1 : S.1 a0 = some (.inl 10)) (f_3 : S.2.1 a0 19 = .int y2) (k_4 : (x4 < y2) → aw ext d 94 104 [some (.ref a0), some (.int x1), some (.int x2), some (.int x3), some (.int x4), o5] [] S Q) (k_5 : (¬ (x4 < y2)) → aw ext d 94 95 [some (.ref a0), some (.int x1), some (.int x2), some (.int x3), some (.int x4), o5] [] S Q) : aw ext d 94 86 [some (.ref a0), some (.int x1), some (.int x2), some (.int x3), some (.int x4), o5] [] S Q := by
  refine aw_ild j94_86 rfl ?_
  refine aw_ald j94_88 rfl rfl ?_
  refine aw_get j94_89 t_1 f_3 ?_
  exact aw_ic j94_92 (fun h => k_4 (of_decide_eq_true h)) (fun h => k_5 (of_decide_eq_false h))
theorem bk94_95 {a0 : Nat} {x1 : Int32} {x2 : Int32} {x3 : Int32} {x4 : Int32} {o5 : Option Value} {y2 : Int32} (t_1 : S.1 a0 = some (.inl 10)) (f_3 : S.2.1 a0 22 = .int y2) (k_4 : (y2 ≤ x4) → aw ext d 94 192 [some (.ref a0), some (.int x1), some (.int x2), some (.int x3), some (.int x4), o5] [] S Q) (k_5 : (¬ (y2 ≤ x4)) → aw ext d 94 104 [some (.ref a0), some (.int x1), some (.int x2), some (.int x3), some (.int x4), o5] [] S Q) : aw ext d 94 95 [some (.ref a0), some (.int x1), some (.int x2), some (.int x3), some (.int x4), o5] [] S Q := by
  refine aw_ild j94_95 rfl ?_
  refine aw_ald j94_97 rfl rfl ?_
  refine aw_get j94_98 t_1 f_3 ?_
  exact aw_ic j94_101 (fun h => k_4 (of_decide_eq_true h)) (fun h => k_5 (of_decide_eq_false h))
theorem bk94_104 {a0 : Nat} {x1 : Int32} {x2 : Int32} {x3 : Int32} {x4 : Int32} {o5 : Option Value} {y2 : Int32} (t_1 : S.1 a0 = some (.inl 10)) (f_3 : S.2.1 a0 19 = .int y2) (k_4 : (y2 ≤ x4) → aw ext d 94 126 [some (.ref a0), some (.int x1), some (.int x2), some (.int x3), some (.int x4), o5] [] S Q) (k_5 : (¬ (y2 ≤ x4)) → aw ext d 94 113 [some (.ref a0), some (.int x1), some (.int x2), some (.int x3), some (.int x4), o5] [] S Q) : aw ext d 94 104 [some (.ref a0), some (.int x1), some (.int x2), some (.int x3), some (.int x4), o5] [] S Q := by
  refine aw_ild j94_104 rfl ?_
  refine aw_ald j94_106 rfl rfl ?_
  refine aw_get j94_107 t_1 f_3 ?_
  exact aw_ic j94_110 (fun h => k_4 (of_decide_eq_true h)) (fun h => k_5 (of_decide_eq_false h))
theorem bk94_113 {a0 : Nat} {x1 : Int32} {x2 : Int32} {x3 : Int32} {x4 : Int32} {o5 : Option Value} {y2 : Int32} (t_1 : S.1 a0 = some (.inl 10)) (f_3 : S.2.1 a0 22 = .int y2) (k_4 : (y2 ≤ x4) → aw ext d 94 126 [some (.ref a0), some (.int x1), some (.int x2), some (.int x3), some (.int x4), o5] [] S Q) (k_5 : (¬ (y2 ≤ x4)) → aw ext d 94 122 [some (.ref a0), some (.int x1), some (.int x2), some (.int x3), some (.int x4), o5] [] S Q) : aw ext d 94 113 [some (.ref a0), some (.int x1), some (.int x2), some (.int x3), some (.int x4), o5] [] S Q := by
  refine aw_ild j94_113 rfl ?_
  refine aw_ald j94_115 rfl rfl ?_
  refine aw_get j94_116 t_1 f_3 ?_
  exact aw_ic j94_119 (fun h => k_4 (of_decide_eq_true h)) (fun h => k_5 (of_decide_eq_false h))
theorem bk94_122 {r0 : Option Nat} {x1 : Int32} {x2 : Int32} {x3 : Int32} {x4 : Int32} {o5 : Option Value}  (k_1 : aw ext d 94 127 [some (va_rf r0), some (.int x1), some (.int x2), some (.int x3), some (.int x4), o5] [.int (1 : Int32)] S Q) : aw ext d 94 122 [some (va_rf r0), some (.int x1), some (.int x2), some (.int x3), some (.int x4), o5] [] S Q := by
  refine aw_con j94_122 ?_
  exact aw_goto j94_123 k_1
theorem bk94_126 {r0 : Option Nat} {x1 : Int32} {x2 : Int32} {x3 : Int32} {x4 : Int32} {o5 : Option Value}  (k_1 : aw ext d 94 127 [some (va_rf r0), some (.int x1), some (.int x2), some (.int x3), some (.int x4), o5] [.int (0 : Int32)] S Q) : aw ext d 94 126 [some (va_rf r0), some (.int x1), some (.int x2), some (.int x3), some (.int x4), o5] [] S Q := by
  refine aw_con j94_126 ?_
  exact k_1
theorem bk94_127 {r0 : Option Nat} {x1 : Int32} {x2 : Int32} {x3 : Int32} {x4 : Int32} {o5 : Option Value} {xk0 : Int32}  (k_1 : (xk0 = 0) → aw ext d 94 179 [some (va_rf r0), some (.int x1), some (.int x2), some (.int x3), some (.int x4), some (.int xk0)] [.int x3] S Q) (k_2 : (¬ (xk0 = 0)) → aw ext d 94 135 [some (va_rf r0), some (.int x1), some (.int x2), some (.int x3), some (.int x4), some (.int xk0)] [.int x3] S Q) : aw ext d 94 127 [some (va_rf r0), some (.int x1), some (.int x2), some (.int x3), some (.int x4), o5] [.int xk0] S Q := by
  refine aw_ist j94_127 (Nat.le_of_ble_eq_true rfl) ?_
  refine aw_ild j94_129 rfl ?_
  refine aw_ild j94_130 rfl ?_
  exact aw_if j94_132 (fun h => k_1 (of_decide_eq_true h)) (fun h => k_2 (of_decide_eq_false h))
theorem bk94_135 {a0 : Nat} {x1 : Int32} {x2 : Int32} {x3 : Int32} {x4 : Int32} {x5 : Int32} {xk0 : Int32} {b2 : Nat} {b4 : Nat} {n_6 : Nat} {i_9 : Nat} {y12 : Int32} {n_14 : Nat} {i_17 : Nat} {y20 : Int32} {b22 : Nat} {n_24 : Nat} {i_27 : Nat} {y30 : Int32} {i_32 : Nat} {y35 : Int32} (t_1 : S.1 a0 = some (.inl 10)) (f_3 : S.2.1 a0 9 = .ref b2) (f_5 : S.2.1 a0 20 = .ref b4) (t_7 : S.1 b4 = some (.inr (0, n_6))) (b_8 : n_6 < 2147483648) (e_10 : x4 = nI i_9) (c_11 : i_9 < n_6) (f_13 : S.2.1 b4 i_9 = .int y12) (t_15 : S.1 b2 = some (.inr (0, n_14))) (b_16 : n_14 < 2147483648) (e_18 : y12 = nI i_17) (c_19 : i_17 < n_14) (f_21 : S.2.1 b2 i_17 = .int y20) (f_23 : S.2.1 a0 23 = .ref b22) (t_25 : S.1 b22 = some (.inr (0, n_24))) (b_26 : n_24 < 2147483648) (e_28 : x4 = nI i_27) (c_29 : i_27 < n_24) (f_31 : S.2.1 b22 i_27 = .int y30) (e_33 : y30 = nI i_32) (c_34 : i_32 < n_14) (f_36 : S.2.1 b2 i_32 = .int y35) (k_37 : (¬ y20 = y35) → aw ext d 94 179 [some (.ref a0), some (.int x1), some (.int x2), some (.int x3), some (.int x4), some (.int x5)] [.int xk0] S Q) (k_38 : (y20 = y35) → aw ext d 94 162 [some (.ref a0), some (.int x1), some (.int x2), some (.int x3), some (.int x4), some (.int x5)] [.int xk0] S Q) : aw ext d 94 135 [some (.ref a0), some (.int x1), some (.int x2), some (.int x3), some (.int x4), some (.int x5)] [.int xk0] S Q := by
  refine aw_ald j94_135 rfl rfl ?_
  refine aw_get j94_136 t_1 f_3 ?_
  refine aw_ald j94_139 rfl rfl ?_
  refine aw_get j94_140 t_1 f_5 ?_
  refine aw_ild j94_143 rfl ?_
  refine aw_xld j94_145 t_7 e_10 c_11 b_8 f_13 ?_
  refine aw_xld j94_146 t_15 e_18 c_19 b_16 f_21 ?_
  refine aw_ald j94_147 rfl rfl ?_
  refine aw_get j94_148 t_1 f_3 ?_
  refine aw_ald j94_151 rfl rfl ?_
  refine aw_get j94_152 t_1 f_23 ?_
  refine aw_ild j94_155 rfl ?_
  refine aw_xld j94_157 t_25 e_28 c_29 b_26 f_31 ?_
  refine aw_xld j94_158 t_15 e_33 c_34 b_16 f_36 ?_
  exact aw_ic j94_159 (fun h => k_37 (of_decide_eq_true h)) (fun h => k_38 (Decidable.of_not_not (of_decide_eq_false h)))
theorem bk94_162 {a0 : Nat} {x1 : Int32} {x2 : Int32} {x3 : Int32} {x4 : Int32} {x5 : Int32} {xk0 : Int32} {b2 : Nat} {n_4 : Nat} {i_7 : Nat} {y10 : Int32} {b12 : Nat} {n_14 : Nat} {i_17 : Nat} {y20 : Int32} (t_1 : S.1 a0 = some (.inl 10)) (f_3 : S.2.1 a0 21 = .ref b2) (t_5 : S.1 b2 = some (.inr (0, n_4))) (b_6 : n_4 < 2147483648) (e_8 : x4 = nI i_7) (c_9 : i_7 < n_4) (f_11 : S.2.1 b2 i_7 = .int y10) (f_13 : S.2.1 a0 24 = .ref b12) (t_15 : S.1 b12 = some (.inr (0, n_14))) (b_16 : n_14 < 2147483648) (e_18 : x4 = nI i_17) (c_19 : i_17 < n_14) (f_21 : S.2.1 b12 i_17 = .int y20) (k_22 : (y10 = y20) → aw ext d 94 183 [some (.ref a0), some (.int x1), some (.int x2), some (.int x3), some (.int x4), some (.int x5)] [.int xk0] S Q) (k_23 : (¬ (y10 = y20)) → aw ext d 94 179 [some (.ref a0), some (.int x1), some (.int x2), some (.int x3), some (.int x4), some (.int x5)] [.int xk0] S Q) : aw ext d 94 162 [some (.ref a0), some (.int x1), some (.int x2), some (.int x3), some (.int x4), some (.int x5)] [.int xk0] S Q := by
  refine aw_ald j94_162 rfl rfl ?_
  refine aw_get j94_163 t_1 f_3 ?_
  refine aw_ild j94_166 rfl ?_
  refine aw_xld j94_168 t_5 e_8 c_9 b_6 f_11 ?_
  refine aw_ald j94_169 rfl rfl ?_
  refine aw_get j94_170 t_1 f_13 ?_
  refine aw_ild j94_173 rfl ?_
  refine aw_xld j94_175 t_15 e_18 c_19 b_16 f_21 ?_
  exact aw_ic j94_176 (fun h => k_22 (of_decide_eq_true h)) (fun h => k_23 (of_decide_eq_false h))
theorem bk94_179 {r0 : Option Nat} {x1 : Int32} {x2 : Int32} {x3 : Int32} {x4 : Int32} {x5 : Int32} {xk0 : Int32}  (k_1 : aw ext d 94 184 [some (va_rf r0), some (.int x1), some (.int x2), some (.int x3), some (.int x4), some (.int x5)] [.int (1 : Int32), .int xk0] S Q) : aw ext d 94 179 [some (va_rf r0), some (.int x1), some (.int x2), some (.int x3), some (.int x4), some (.int x5)] [.int xk0] S Q := by
  refine aw_con j94_179 ?_
  exact aw_goto j94_180 k_1
theorem bk94_183 {r0 : Option Nat} {x1 : Int32} {x2 : Int32} {x3 : Int32} {x4 : Int32} {x5 : Int32} {xk0 : Int32}  (k_1 : aw ext d 94 184 [some (va_rf r0), some (.int x1), some (.int x2), some (.int x3), some (.int x4), some (.int x5)] [.int (0 : Int32), .int xk0] S Q) : aw ext d 94 183 [some (va_rf r0), some (.int x1), some (.int x2), some (.int x3), some (.int x4), some (.int x5)] [.int xk0] S Q := by
  refine aw_con j94_183 ?_
  exact k_1
theorem bk94_184 {r0 : Option Nat} {x1 : Int32} {x2 : Int32} {x3 : Int32} {x4 : Int32} {x5 : Int32} {xk0 : Int32} {xk1 : Int32}  (k_1 : aw ext d 94 86 [some (va_rf r0), some (.int x1), some (.int x2), some (.int (xk0 + xk1)), some (.int (x4 + 1)), some (.int x5)] [] S Q) : aw ext d 94 184 [some (va_rf r0), some (.int x1), some (.int x2), some (.int x3), some (.int x4), some (.int x5)] [.int xk1, .int xk0] S Q := by
  refine aw_bin (z := (xk0 + xk1)) j94_184 rfl ?_
  refine aw_ist j94_185 (Nat.le_of_ble_eq_true rfl) ?_
  refine aw_inc j94_186 rfl ?_
  exact aw_goto j94_189 k_1
theorem bk94_192 {r0 : Option Nat} {x1 : Int32} {x2 : Int32} {x3 : Int32} {x4 : Int32} {o5 : Option Value}  (k_1 : Q (some (.int x3)) S) : aw ext d 94 192 [some (va_rf r0), some (.int x1), some (.int x2), some (.int x3), some (.int x4), o5] [] S Q := by
  refine aw_ild j94_192 rfl ?_
  exact aw_ret j94_193 (by rw [rt94]; exact rfl) k_1
/-! Ref_about -/
theorem bk95_0 {a0 : Nat} {x1 : Int32} {x2 : Int32} {o3 : Option Value} {o4 : Option Value} {P_2 : Int32 → av_St → Prop} (t_1 : S.1 a0 = some (.inl 10)) (m_5 : cti ext d 71 [.ref a0, .int x1] (av_set S a0 0 (.int (0 : Int32))) P_2) (k_6 : ∀ v_4 S_3, P_2 v_4 S_3 → aw ext (d + 1) 95 10 [some (.ref a0), some (.int x1), some (.int x2), o3, o4] [.int v_4] S_3 Q) : aw ext (d + 1) 95 0 [some (.ref a0), some (.int x1), some (.int x2), o3, o4] [] S Q := by
  refine aw_ald j95_0 rfl rfl ?_
  refine aw_con j95_1 ?_
  refine aw_put j95_2 t_1 rfl ?_
  refine aw_ald j95_5 rfl rfl ?_
  refine aw_ild j95_6 rfl ?_
  exact aw_calli (as := [.ref a0, .int x1]) j95_7 rfl rfl (Nat.le_of_ble_eq_true rfl) cy71.1 cy71.2 (cs_cons rfl (cs_cons rfl cs_nil)) (decide_eq_true t_1) m_5 k_6
theorem bk95_10 {r0 : Option Nat} {x1 : Int32} {x2 : Int32} {o3 : Option Value} {o4 : Option Value} {xk0 : Int32}  (k_1 : (¬ xk0 = 0) → aw ext d 95 15 [some (va_rf r0), some (.int x1), some (.int x2), o3, o4] [] S Q) (k_2 : (xk0 = 0) → aw ext d 95 13 [some (va_rf r0), some (.int x1), some (.int x2), o3, o4] [] S Q) : aw ext d 95 10 [some (va_rf r0), some (.int x1), some (.int x2), o3, o4] [.int xk0] S Q := by
  exact aw_if j95_10 (fun h => k_1 (of_decide_eq_true h)) (fun h => k_2 (Decidable.of_not_not (of_decide_eq_false h)))
theorem bk95_13 {r0 : Option Nat} {x1 : Int32} {x2 : Int32} {o3 : Option Value} {o4 : Option Value}  (k_1 : Q (some (.int (-1 : Int32))) S) : aw ext d 95 13 [some (va_rf r0), some (.int x1), some (.int x2), o3, o4] [] S Q := by
  refine aw_con j95_13 ?_
  exact aw_ret j95_14 (by rw [rt95]; exact rfl) k_1
theorem bk95_15 {r0 : Option Nat} {x1 : Int32} {x2 : Int32} {o3 : Option Value} {o4 : Option Value}  (k_1 : aw ext d 95 (if x2.toInt < (0 : Int32).toInt then 148 else List.getD [60, 67, 74, 81, 88, 95, 102] (x2.toInt - (0 : Int32).toInt).toNat 148) [some (va_rf r0), some (.int x1), some (.int x2), o3, o4] [] S Q) : aw ext d 95 15 [some (va_rf r0), some (.int x1), some (.int x2), o3, o4] [] S Q := by
  refine aw_ild j95_15 rfl ?_
  exact aw_tsw j95_16 k_1
theorem bk95_60 {a0 : Nat} {x1 : Int32} {x2 : Int32} {o3 : Option Value} {o4 : Option Value} {b2 : Nat} {n_4 : Nat} {i_7 : Nat} {y10 : Int32} (t_1 : S.1 a0 = some (.inl 10)) (f_3 : S.2.1 a0 6 = .ref b2) (t_5 : S.1 b2 = some (.inr (0, n_4))) (b_6 : n_4 < 2147483648) (e_8 : x1 = nI i_7) (c_9 : i_7 < n_4) (f_11 : S.2.1 b2 i_7 = .int y10) (k_12 : Q (some (.int y10)) S) : aw ext d 95 60 [some (.ref a0), some (.int x1), some (.int x2), o3, o4] [] S Q := by
  refine aw_ald j95_60 rfl rfl ?_
  refine aw_get j95_61 t_1 f_3 ?_
  refine aw_ild j95_64 rfl ?_
  refine aw_xld j95_65 t_5 e_8 c_9 b_6 f_11 ?_
  exact aw_ret j95_66 (by rw [rt95]; exact rfl) k_12
theorem bk95_67 {a0 : Nat} {x1 : Int32} {x2 : Int32} {o3 : Option Value} {o4 : Option Value} {b2 : Nat} {n_4 : Nat} {i_7 : Nat} {y10 : Int32} (t_1 : S.1 a0 = some (.inl 10)) (f_3 : S.2.1 a0 7 = .ref b2) (t_5 : S.1 b2 = some (.inr (0, n_4))) (b_6 : n_4 < 2147483648) (e_8 : x1 = nI i_7) (c_9 : i_7 < n_4) (f_11 : S.2.1 b2 i_7 = .int y10) (k_12 : Q (some (.int y10)) S) : aw ext d 95 67 [some (.ref a0), some (.int x1), some (.int x2), o3, o4] [] S Q := by
  refine aw_ald j95_67 rfl rfl ?_
  refine aw_get j95_68 t_1 f_3 ?_
  refine aw_ild j95_71 rfl ?_
  refine aw_xld j95_72 t_5 e_8 c_9 b_6 f_11 ?_
  exact aw_ret j95_73 (by rw [rt95]; exact rfl) k_12
theorem bk95_74 {a0 : Nat} {x1 : Int32} {x2 : Int32} {o3 : Option Value} {o4 : Option Value} {b2 : Nat} {n_4 : Nat} {i_7 : Nat} {y10 : Int32} (t_1 : S.1 a0 = some (.inl 10)) (f_3 : S.2.1 a0 8 = .ref b2) (t_5 : S.1 b2 = some (.inr (0, n_4))) (b_6 : n_4 < 2147483648) (e_8 : x1 = nI i_7) (c_9 : i_7 < n_4) (f_11 : S.2.1 b2 i_7 = .int y10) (k_12 : Q (some (.int y10)) S) : aw ext d 95 74 [some (.ref a0), some (.int x1), some (.int x2), o3, o4] [] S Q := by
  refine aw_ald j95_74 rfl rfl ?_
  refine aw_get j95_75 t_1 f_3 ?_
  refine aw_ild j95_78 rfl ?_
  refine aw_xld j95_79 t_5 e_8 c_9 b_6 f_11 ?_
  exact aw_ret j95_80 (by rw [rt95]; exact rfl) k_12
theorem bk95_81 {a0 : Nat} {x1 : Int32} {x2 : Int32} {o3 : Option Value} {o4 : Option Value} {b2 : Nat} {n_4 : Nat} {i_7 : Nat} {y10 : Int32} (t_1 : S.1 a0 = some (.inl 10)) (f_3 : S.2.1 a0 9 = .ref b2) (t_5 : S.1 b2 = some (.inr (0, n_4))) (b_6 : n_4 < 2147483648) (e_8 : x1 = nI i_7) (c_9 : i_7 < n_4) (f_11 : S.2.1 b2 i_7 = .int y10) (k_12 : Q (some (.int y10)) S) : aw ext d 95 81 [some (.ref a0), some (.int x1), some (.int x2), o3, o4] [] S Q := by
  refine aw_ald j95_81 rfl rfl ?_
  refine aw_get j95_82 t_1 f_3 ?_
  refine aw_ild j95_85 rfl ?_
  refine aw_xld j95_86 t_5 e_8 c_9 b_6 f_11 ?_
  exact aw_ret j95_87 (by rw [rt95]; exact rfl) k_12
theorem bk95_88 {a0 : Nat} {x1 : Int32} {x2 : Int32} {o3 : Option Value} {o4 : Option Value} {b2 : Nat} {n_4 : Nat} {i_7 : Nat} {y10 : Int32} (t_1 : S.1 a0 = some (.inl 10)) (f_3 : S.2.1 a0 11 = .ref b2) (t_5 : S.1 b2 = some (.inr (0, n_4))) (b_6 : n_4 < 2147483648) (e_8 : x1 = nI i_7) (c_9 : i_7 < n_4) (f_11 : S.2.1 b2 i_7 = .int y10) (k_12 : Q (some (.int y10)) S) : aw ext d 95 88 [some (.ref a0), some (.int x1), some (.int x2), o3, o4] [] S Q := by
  refine aw_ald j95_88 rfl rfl ?_
  refine aw_get j95_89 t_1 f_3 ?_
  refine aw_ild j95_92 rfl ?_
  refine aw_xld j95_93 t_5 e_8 c_9 b_6 f_11 ?_
  exact aw_ret j95_94 (by rw [rt95]; exact rfl) k_12
theorem bk95_95 {a0 : Nat} {x1 : Int32} {x2 : Int32} {o3 : Option Value} {o4 : Option Value} {b2 : Nat} {n_4 : Nat} {i_7 : Nat} {y10 : Int32} (t_1 : S.1 a0 = some (.inl 10)) (f_3 : S.2.1 a0 10 = .ref b2) (t_5 : S.1 b2 = some (.inr (0, n_4))) (b_6 : n_4 < 2147483648) (e_8 : x1 = nI i_7) (c_9 : i_7 < n_4) (f_11 : S.2.1 b2 i_7 = .int y10) (k_12 : Q (some (.int y10)) S) : aw ext d 95 95 [some (.ref a0), some (.int x1), some (.int x2), o3, o4] [] S Q := by
  refine aw_ald j95_95 rfl rfl ?_
  refine aw_get j95_96 t_1 f_3 ?_
  refine aw_ild j95_99 rfl ?_
  refine aw_xld j95_100 t_5 e_8 c_9 b_6 f_11 ?_
  exact aw_ret j95_101 (by rw [rt95]; exact rfl) k_12
theorem bk95_102 {r0 : Option Nat} {x1 : Int32} {x2 : Int32} {o3 : Option Value} {o4 : Option Value}  (k_1 : aw ext d 95 107 [some (va_rf r0), some (.int x1), some (.int x2), some (.int (0 : Int32)), some (.int (0 : Int32))] [] S Q) : aw ext d 95 102 [some (va_rf r0), some (.int x1), some (.int x2), o3, o4] [] S Q := by
  refine aw_con j95_102 ?_
  refine aw_ist j95_103 (Nat.le_of_ble_eq_true rfl) ?_
  refine aw_con j95_104 ?_
  refine aw_ist j95_105 (Nat.le_of_ble_eq_true rfl) ?_
  exact k_1
theorem bk95_107 {a0 : Nat} {x1 : Int32} {x2 : Int32} {x3 : Int32} {x4 : Int32} {y2 : Int32} (t_1 : S.1 a0 = some (.inl 10)) (f_3 : S.2.1 a0 5 = .int y2) (k_4 : (y2 ≤ x4) → aw ext d 95 146 [some (.ref a0), some (.int x1), some (.int x2), some (.int x3), some (.int x4)] [] S Q) (k_5 : (¬ (y2 ≤ x4)) → aw ext d 95 116 [some (.ref a0), some (.int x1), some (.int x2), some (.int x3), some (.int x4)] [] S Q) : aw ext d 95 107 [some (.ref a0), some (.int x1), some (.int x2), some (.int x3), some (.int x4)] [] S Q := by
  refine aw_ild j95_107 rfl ?_
  refine aw_ald j95_109 rfl rfl ?_
  refine aw_get j95_110 t_1 f_3 ?_
  exact aw_ic j95_113 (fun h => k_4 (of_decide_eq_true h)) (fun h => k_5 (of_decide_eq_false h))
theorem bk95_116 {r0 : Option Nat} {x1 : Int32} {x2 : Int32} {x3 : Int32} {x4 : Int32}  (k_1 : (x4 = x1) → aw ext d 95 137 [some (va_rf r0), some (.int x1), some (.int x2), some (.int x3), some (.int x4)] [.int x3] S Q) (k_2 : (¬ (x4 = x1)) → aw ext d 95 123 [some (va_rf r0), some (.int x1), some (.int x2), some (.int x3), some (.int x4)] [.int x3] S Q) : aw ext d 95 116 [some (va_rf r0), some (.int x1), some (.int x2), some (.int x3), some (.int x4)] [] S Q := by
  refine aw_ild j95_116 rfl ?_
  refine aw_ild j95_117 rfl ?_
  refine aw_ild j95_119 rfl ?_
  exact aw_ic j95_120 (fun h => k_1 (of_decide_eq_true h)) (fun h => k_2 (of_decide_eq_false h))
theorem bk95_123 {a0 : Nat} {x1 : Int32} {x2 : Int32} {x3 : Int32} {x4 : Int32} {xk0 : Int32} {P_1 : Int32 → av_St → Prop} (t_4 : S.1 a0 = some (.inl 10)) (m_5 : cti ext d 78 [.ref a0, .int x4, .int x1] S P_1) (k_6 : ∀ v_3 S_2, P_1 v_3 S_2 → aw ext (d + 1) 95 130 [some (.ref a0), some (.int x1), some (.int x2), some (.int x3), some (.int x4)] [.int v_3, .int xk0] S_2 Q) : aw ext (d + 1) 95 123 [some (.ref a0), some (.int x1), some (.int x2), some (.int x3), some (.int x4)] [.int xk0] S Q := by
  refine aw_ald j95_123 rfl rfl ?_
  refine aw_ild j95_124 rfl ?_
  refine aw_ild j95_126 rfl ?_
  exact aw_calli (as := [.ref a0, .int x4, .int x1]) j95_127 rfl rfl (Nat.le_of_ble_eq_true rfl) cy78.1 cy78.2 (cs_cons rfl (cs_cons rfl (cs_cons rfl cs_nil))) (decide_eq_true t_4) m_5 k_6
theorem bk95_130 {r0 : Option Nat} {x1 : Int32} {x2 : Int32} {x3 : Int32} {x4 : Int32} {xk0 : Int32} {xk1 : Int32}  (k_1 : (xk1 = 0) → aw ext d 95 137 [some (va_rf r0), some (.int x1), some (.int x2), some (.int x3), some (.int x4)] [.int xk0] S Q) (k_2 : (¬ (xk1 = 0)) → aw ext d 95 133 [some (va_rf r0), some (.int x1), some (.int x2), some (.int x3), some (.int x4)] [.int xk0] S Q) : aw ext d 95 130 [some (va_rf r0), some (.int x1), some (.int x2), some (.int x3), some (.int x4)] [.int xk1, .int xk0] S Q := by
  exact aw_if j95_130 (fun h => k_1 (of_decide_eq_true h)) (fun h => k_2 (of_decide_eq_false h))
theorem bk95_133 {r0 : Option Nat} {x1 : Int32} {x2 : Int32} {x3 : Int32} {x4 : Int32} {xk0 : Int32}  (k_1 : aw ext d 95 138 [some (va_rf r0), some (.int x1), some (.int x2), some (.int x3), some (.int x4)] [.int (1 : Int32), .int xk0] S Q) : aw ext d 95 133 [some (va_rf r0), some (.int x1), some (.int x2), some (.int x3), some (.int x4)] [.int xk0] S Q := by
  refine aw_con j95_133 ?_
  exact aw_goto j95_134 k_1
theorem bk95_137 {r0 : Option Nat} {x1 : Int32} {x2 : Int32} {x3 : Int32} {x4 : Int32} {xk0 : Int32}  (k_1 : aw ext d 95 138 [some (va_rf r0), some (.int x1), some (.int x2), some (.int x3), some (.int x4)] [.int (0 : Int32), .int xk0] S Q) : aw ext d 95 137 [some (va_rf r0), some (.int x1), some (.int x2), some (.int x3), some (.int x4)] [.int xk0] S Q := by
  refine aw_con j95_137 ?_
  exact k_1
theorem bk95_138 {r0 : Option Nat} {x1 : Int32} {x2 : Int32} {x3 : Int32} {x4 : Int32} {xk0 : Int32} {xk1 : Int32}  (k_1 : aw ext d 95 107 [some (va_rf r0), some (.int x1), some (.int x2), some (.int (xk0 + xk1)), some (.int (x4 + 1))] [] S Q) : aw ext d 95 138 [some (va_rf r0), some (.int x1), some (.int x2), some (.int x3), some (.int x4)] [.int xk1, .int xk0] S Q := by
  refine aw_bin (z := (xk0 + xk1)) j95_138 rfl ?_
  refine aw_ist j95_139 (Nat.le_of_ble_eq_true rfl) ?_
  refine aw_inc j95_140 rfl ?_
  exact aw_goto j95_143 k_1
theorem bk95_146 {r0 : Option Nat} {x1 : Int32} {x2 : Int32} {x3 : Int32} {x4 : Int32}  (k_1 : Q (some (.int x3)) S) : aw ext d 95 146 [some (va_rf r0), some (.int x1), some (.int x2), some (.int x3), some (.int x4)] [] S Q := by
  refine aw_ild j95_146 rfl ?_
  exact aw_ret j95_147 (by rw [rt95]; exact rfl) k_1
theorem bk95_148 {r0 : Option Nat} {x1 : Int32} {x2 : Int32} {o3 : Option Value} {o4 : Option Value}  (k_1 : Q (some (.int (-1 : Int32))) S) : aw ext d 95 148 [some (va_rf r0), some (.int x1), some (.int x2), o3, o4] [] S Q := by
  refine aw_con j95_148 ?_
  exact aw_ret j95_149 (by rw [rt95]; exact rfl) k_1
/-! Arrays_fill -/
theorem bk96_0 {a0 : Nat} {x1 : Int32} {o2 : Option Value} {o3 : Option Value} {n_1 : Nat} (t_2 : S.1 a0 = some (.inr (0, n_1))) (b_3 : n_1 < 2147483648) (k_4 : aw ext d 96 5 [some (.ref a0), some (.int x1), some (.int (0 : Int32)), some (.int (nI n_1))] [] S Q) : aw ext d 96 0 [some (.ref a0), some (.int x1), o2, o3] [] S Q := by
  refine aw_con j96_0 ?_
  refine aw_ist j96_1 (Nat.le_of_ble_eq_true rfl) ?_
  refine aw_ald j96_2 rfl rfl ?_
  refine aw_len j96_3 t_2 ?_
  refine aw_ist j96_4 (Nat.le_of_ble_eq_true rfl) ?_
  exact k_4
theorem bk96_5 {r0 : Option Nat} {x1 : Int32} {x2 : Int32} {x3 : Int32}  (k_1 : (x3 ≤ x2) → aw ext d 96 20 [some (va_rf r0), some (.int x1), some (.int x2), some (.int x3)] [] S Q) (k_2 : (¬ (x3 ≤ x2)) → aw ext d 96 10 [some (va_rf r0), some (.int x1), some (.int x2), some (.int x3)] [] S Q) : aw ext d 96 5 [some (va_rf r0), some (.int x1), some (.int x2), some (.int x3)] [] S Q := by
  refine aw_ild j96_5 rfl ?_
  refine aw_ild j96_6 rfl ?_
  exact aw_ic j96_7 (fun h => k_1 (of_decide_eq_true h)) (fun h => k_2 (of_decide_eq_false h))
theorem bk96_10 {a0 : Nat} {x1 : Int32} {x2 : Int32} {x3 : Int32} {n_1 : Nat} {i_4 : Nat} (t_2 : S.1 a0 = some (.inr (0, n_1))) (b_3 : n_1 < 2147483648) (e_5 : x2 = nI i_4) (c_6 : i_4 < n_1) (k_7 : aw ext d 96 5 [some (.ref a0), some (.int x1), some (.int (x2 + 1)), some (.int x3)] [] (av_set S a0 i_4 (.int x1)) Q) : aw ext d 96 10 [some (.ref a0), some (.int x1), some (.int x2), some (.int x3)] [] S Q := by
  refine aw_ald j96_10 rfl rfl ?_
  refine aw_ild j96_11 rfl ?_
  refine aw_ild j96_12 rfl ?_
  refine aw_xst j96_13 t_2 e_5 c_6 b_3 ?_
  refine aw_inc j96_14 rfl ?_
  exact aw_goto j96_17 k_7
theorem bk96_20 {r0 : Option Nat} {x1 : Int32} {x2 : Int32} {x3 : Int32}  (k_1 : Q none S) : aw ext d 96 20 [some (va_rf r0), some (.int x1), some (.int x2), some (.int x3)] [] S Q := by
  exact aw_vret j96_20 rt96 k_1
/-! Math_max -/
theorem bk97_0 {x0 : Int32} {x1 : Int32}  (k_1 : (x0 < x1) → aw ext d 97 9 [some (.int x0), some (.int x1)] [] S Q) (k_2 : (¬ (x0 < x1)) → aw ext d 97 5 [some (.int x0), some (.int x1)] [] S Q) : aw ext d 97 0 [some (.int x0), some (.int x1)] [] S Q := by
  refine aw_ild j97_0 rfl ?_
  refine aw_ild j97_1 rfl ?_
  exact aw_ic j97_2 (fun h => k_1 (of_decide_eq_true h)) (fun h => k_2 (of_decide_eq_false h))
theorem bk97_5 {x0 : Int32} {x1 : Int32}  (k_1 : aw ext d 97 10 [some (.int x0), some (.int x1)] [.int x0] S Q) : aw ext d 97 5 [some (.int x0), some (.int x1)] [] S Q := by
  refine aw_ild j97_5 rfl ?_
  exact aw_goto j97_6 k_1
theorem bk97_9 {x0 : Int32} {x1 : Int32}  (k_1 : aw ext d 97 10 [some (.int x0), some (.int x1)] [.int x1] S Q) : aw ext d 97 9 [some (.int x0), some (.int x1)] [] S Q := by
  refine aw_ild j97_9 rfl ?_
  exact k_1
theorem bk97_10 {x0 : Int32} {x1 : Int32} {xk0 : Int32}  (k_1 : Q (some (.int xk0)) S) : aw ext d 97 10 [some (.int x0), some (.int x1)] [.int xk0] S Q := by
  exact aw_ret j97_10 (by rw [rt97]; exact rfl) k_1
end
