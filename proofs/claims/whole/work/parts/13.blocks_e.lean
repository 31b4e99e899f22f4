section
variable {ext : av_X} {d : Nat} {S : av_St} {Q : Option Value → av_St → Prop}
/-! law -/
theorem bk98_0 {r0 : Option Nat} {o1 : Option Value} {o2 : Option Value} {o3 : Option Value} {o4 : Option Value} {o5 : Option Value} {o6 : Option Value}  (k_1 : aw ext d 98 3 [some (va_rf r0), o1, o2, o3, o4, o5, o6] [.ref S.2.2.1] (av_new S (.inl 0) (fun f => defaultValue (sm_fT 0 f)) (sm_fN 0)) Q) : aw ext d 98 0 [some (va_rf r0), o1, o2, o3, o4, o5, o6] [] S Q := by
  refine aw_new j98_0 ?_
  exact k_1
theorem bk98_3 {r0 : Option Nat} {o1 : Option Value} {o2 : Option Value} {o3 : Option Value} {o4 : Option Value} {o5 : Option Value} {o6 : Option Value} {ak0 : Nat} {P_1 : av_St → Prop} (m_4 : ctv ext d 0 [.ref ak0] S P_1) (k_5 : ∀ S_2, P_1 S_2 → aw ext (d + 1) 98 7 [some (va_rf r0), o1, o2, o3, o4, o5, o6] [.ref ak0] S_2 Q) : aw ext (d + 1) 98 3 [some (va_rf r0), o1, o2, o3, o4, o5, o6] [.ref ak0] S Q := by
  refine aw_dup j98_3 rfl ?_
  exact aw_callv (as := [.ref ak0]) j98_4 rfl rfl (Nat.le_of_ble_eq_true rfl) cy0.1 cy0.2 (cs_cons rfl cs_nil) rfl m_4 k_5
theorem bk98_7 {r0 : Option Nat} {o1 : Option Value} {o2 : Option Value} {o3 : Option Value} {o4 : Option Value} {o5 : Option Value} {o6 : Option Value} {rk0 : Option Nat}  (k_1 : aw ext d 98 11 [some (va_rf r0), some (va_rf rk0), o2, o3, o4, o5, o6] [.ref S.2.2.1] (av_new S (.inl 10) (fun f => defaultValue (sm_fT 10 f)) (sm_fN 10)) Q) : aw ext d 98 7 [some (va_rf r0), o1, o2, o3, o4, o5, o6] [va_rf rk0] S Q := by
  refine aw_ast j98_7 (av_isR_rf rk0) (Nat.le_of_ble_eq_true rfl) ?_
  refine aw_new j98_8 ?_
  exact k_1
theorem bk98_11 {r0 : Option Nat} {r1 : Option Nat} {o2 : Option Value} {o3 : Option Value} {o4 : Option Value} {o5 : Option Value} {o6 : Option Value} {ak0 : Nat} {P_1 : av_St → Prop} (m_4 : ctv ext d 62 [.ref ak0] S P_1) (k_5 : ∀ S_2, P_1 S_2 → aw ext (d + 1) 98 15 [some (va_rf r0), some (va_rf r1), o2, o3, o4, o5, o6] [.ref ak0] S_2 Q) : aw ext (d + 1) 98 11 [some (va_rf r0), some (va_rf r1), o2, o3, o4, o5, o6] [.ref ak0] S Q := by
  refine aw_dup j98_11 rfl ?_
  exact aw_callv (as := [.ref ak0]) j98_12 rfl rfl (Nat.le_of_ble_eq_true rfl) cy62.1 cy62.2 (cs_cons rfl cs_nil) rfl m_4 k_5
theorem bk98_15 {r0 : Option Nat} {r1 : Option Nat} {o2 : Option Value} {o3 : Option Value} {o4 : Option Value} {o5 : Option Value} {o6 : Option Value} {rk0 : Option Nat}  (k_1 : aw ext d 98 19 [some (va_rf r0), some (va_rf r1), some (va_rf rk0), o3, o4, o5, o6] [.ref S.2.2.1] (av_new S (.inr (4, 1)) (fun _ => defaultValue (sm_aT 4)) 1) Q) : aw ext d 98 15 [some (va_rf r0), some (va_rf r1), o2, o3, o4, o5, o6] [va_rf rk0] S Q := by
  refine aw_ast j98_15 (av_isR_rf rk0) (Nat.le_of_ble_eq_true rfl) ?_
  refine aw_con j98_16 ?_
  refine aw_newa (n := 1) j98_17 (by decide) (by decide) ?_
  exact k_1
theorem bk98_19 {r0 : Option Nat} {r1 : Option Nat} {r2 : Option Nat} {o3 : Option Value} {o4 : Option Value} {o5 : Option Value} {o6 : Option Value} {rk0 : Option Nat}  (k_1 : aw ext d 98 23 [some (va_rf r0), some (va_rf r1), some (va_rf r2), some (va_rf rk0), some (.int (0 : Int32)), o5, o6] [] S Q) : aw ext d 98 19 [some (va_rf r0), some (va_rf r1), some (va_rf r2), o3, o4, o5, o6] [va_rf rk0] S Q := by
  refine aw_ast j98_19 (av_isR_rf rk0) (Nat.le_of_ble_eq_true rfl) ?_
  refine aw_con j98_20 ?_
  refine aw_ist j98_21 (Nat.le_of_ble_eq_true rfl) ?_
  exact k_1
theorem bk98_23 {a0 : Nat} {r1 : Option Nat} {r2 : Option Nat} {r3 : Option Nat} {x4 : Int32} {o5 : Option Value} {o6 : Option Value} {n_1 : Nat} (t_2 : S.1 a0 = some (.inr (50, n_1))) (b_3 : n_1 < 2147483648) (k_4 : (((nI n_1) - (5 : Int32)) < x4) → aw ext d 98 721 [some (.ref a0), some (va_rf r1), some (va_rf r2), some (va_rf r3), some (.int x4), o5, o6] [] S Q) (k_5 : (¬ (((nI n_1) - (5 : Int32)) < x4)) → aw ext d 98 32 [some (.ref a0), some (va_rf r1), some (va_rf r2), some (va_rf r3), some (.int x4), o5, o6] [] S Q) : aw ext d 98 23 [some (.ref a0), some (va_rf r1), some (va_rf r2), some (va_rf r3), some (.int x4), o5, o6] [] S Q := by
  refine aw_ild j98_23 rfl ?_
  refine aw_ald j98_25 rfl rfl ?_
  refine aw_len j98_26 t_2 ?_
  refine aw_con j98_27 ?_
  refine aw_bin (z := ((nI n_1) - (5 : Int32))) j98_28 rfl ?_
  exact aw_ic j98_29 (fun h => k_4 (of_decide_eq_true h)) (fun h => k_5 (of_decide_eq_false h))
theorem bk98_32 {a0 : Nat} {r1 : Option Nat} {r2 : Option Nat} {r3 : Option Nat} {x4 : Int32} {o5 : Option Value} {o6 : Option Value} {n_1 : Nat} {i_4 : Nat} {y7 : Int32} (t_2 : S.1 a0 = some (.inr (50, n_1))) (b_3 : n_1 < 2147483648) (e_5 : x4 = nI i_4) (c_6 : i_4 < n_1) (f_8 : S.2.1 a0 i_4 = .int y7) (k_9 : aw ext d 98 (if (y7 &&& (15 : Int32)).toInt < (0 : Int32).toInt then 715 else List.getD [116, 141, 178, 203, 264, 325, 362, 399, 436, 461, 498, 523, 591, 616, 641, 678] ((y7 &&& (15 : Int32)).toInt - (0 : Int32).toInt).toNat 715) [some (.ref a0), some (va_rf r1), some (va_rf r2), some (va_rf r3), some (.int x4), o5, o6] [] S Q) : aw ext d 98 32 [some (.ref a0), some (va_rf r1), some (va_rf r2), some (va_rf r3), some (.int x4), o5, o6] [] S Q := by
  refine aw_ald j98_32 rfl rfl ?_
  refine aw_ild j98_33 rfl ?_
  refine aw_xldR j98_35 t_2 e_5 c_6 b_3 f_8 ?_
  refine aw_con j98_36 ?_
  refine aw_bin (z := (y7 &&& (15 : Int32))) j98_38 rfl ?_
  exact aw_tsw j98_39 k_9
theorem bk98_116 {a0 : Nat} {a1 : Nat} {r2 : Option Nat} {r3 : Option Nat} {x4 : Int32} {o5 : Option Value} {o6 : Option Value} {n_1 : Nat} {i_4 : Nat} {y7 : Int32} {P_9 : Int32 → av_St → Prop} (t_2 : S.1 a0 = some (.inr (50, n_1))) (b_3 : n_1 < 2147483648) (e_5 : (x4 + (1 : Int32)) = nI i_4) (c_6 : i_4 < n_1) (f_8 : S.2.1 a0 i_4 = .int y7) (t_12 : S.1 a1 = some (.inl 0)) (m_13 : cti ext d 1 [.ref a1, .int y7] S P_9) (k_14 : ∀ v_11 S_10, P_9 v_11 S_10 → aw ext (d + 1) 98 126 [some (.ref a0), some (.ref a1), some (va_rf r2), some (va_rf r3), some (.int x4), o5, o6] [.int v_11] S_10 Q) : aw ext (d + 1) 98 116 [some (.ref a0), some (.ref a1), some (va_rf r2), some (va_rf r3), some (.int x4), o5, o6] [] S Q := by
  refine aw_ald j98_116 rfl rfl ?_
  refine aw_ald j98_117 rfl rfl ?_
  refine aw_ild j98_118 rfl ?_
  refine aw_con j98_120 ?_
  refine aw_bin (z := (x4 + (1 : Int32))) j98_121 rfl ?_
  refine aw_xldR j98_122 t_2 e_5 c_6 b_3 f_8 ?_
  exact aw_calli (as := [.ref a1, .int y7]) j98_123 rfl rfl (Nat.le_of_ble_eq_true rfl) cy1.1 cy1.2 (cs_cons rfl (cs_cons rfl cs_nil)) (decide_eq_true t_12) m_13 k_14
theorem bk98_126 {a0 : Nat} {r1 : Option Nat} {a2 : Nat} {r3 : Option Nat} {x4 : Int32} {o5 : Option Value} {o6 : Option Value} {xk0 : Int32} {n_1 : Nat} {i_4 : Nat} {y7 : Int32} {P_9 : Int32 → av_St → Prop} (t_2 : S.1 a0 = some (.inr (50, n_1))) (b_3 : n_1 < 2147483648) (e_5 : (x4 + (1 : Int32)) = nI i_4) (c_6 : i_4 < n_1) (f_8 : S.2.1 a0 i_4 = .int y7) (t_12 : S.1 a2 = some (.inl 10)) (m_13 : cti ext d 64 [.ref a2, .int y7] S P_9) (k_14 : ∀ v_11 S_10, P_9 v_11 S_10 → aw ext (d + 1) 98 136 [some (.ref a0), some (va_rf r1), some (.ref a2), some (va_rf r3), some (.int x4), o5, o6] [.int v_11, .int xk0] S_10 Q) : aw ext (d + 1) 98 126 [some (.ref a0), some (va_rf r1), some (.ref a2), some (va_rf r3), some (.int x4), o5, o6] [.int xk0] S Q := by
  refine aw_ald j98_126 rfl rfl ?_
  refine aw_ald j98_127 rfl rfl ?_
  refine aw_ild j98_128 rfl ?_
  refine aw_con j98_130 ?_
  refine aw_bin (z := (x4 + (1 : Int32))) j98_131 rfl ?_
  refine aw_xldR j98_132 t_2 e_5 c_6 b_3 f_8 ?_
  exact aw_calli (as := [.ref a2, .int y7]) j98_133 rfl rfl (Nat.le_of_ble_eq_true rfl) cy64.1 cy64.2 (cs_cons rfl (cs_cons rfl cs_nil)) (decide_eq_true t_12) m_13 k_14
theorem bk98_136 {r0 : Option Nat} {r1 : Option Nat} {r2 : Option Nat} {r3 : Option Nat} {x4 : Int32} {o5 : Option Value} {o6 : Option Value} {xk0 : Int32} {xk1 : Int32}  (k_1 : (xk0 = xk1) → aw ext d 98 715 [some (va_rf r0), some (va_rf r1), some (va_rf r2), some (va_rf r3), some (.int x4), o5, o6] [] S Q) (k_2 : (¬ (xk0 = xk1)) → aw ext d 98 139 [some (va_rf r0), some (va_rf r1), some (va_rf r2), some (va_rf r3), some (.int x4), o5, o6] [] S Q) : aw ext d 98 136 [some (va_rf r0), some (va_rf r1), some (va_rf r2), some (va_rf r3), some (.int x4), o5, o6] [.int xk1, .int xk0] S Q := by
  exact aw_ic j98_136 (fun h => k_1 (of_decide_eq_true h)) (fun h => k_2 (of_decide_eq_false h))
theorem bk98_139 {r0 : Option Nat} {r1 : Option Nat} {r2 : Option Nat} {r3 : Option Nat} {x4 : Int32} {o5 : Option Value} {o6 : Option Value}  (k_1 : Q (some (.int (0 : Int32))) S) : aw ext d 98 139 [some (va_rf r0), some (va_rf r1), some (va_rf r2), some (va_rf r3), some (.int x4), o5, o6] [] S Q := by
  refine aw_con j98_139 ?_
  exact aw_ret j98_140 (by rw [rt98]; exact rfl) k_1
theorem bk98_141 {a0 : Nat} {a1 : Nat} {r2 : Option Nat} {r3 : Option Nat} {x4 : Int32} {o5 : Option Value} {o6 : Option Value} {n_1 : Nat} {i_4 : Nat} {y7 : Int32} {i_9 : Nat} {y12 : Int32} {P_14 : Int32 → av_St → Prop} (t_2 : S.1 a0 = some (.inr (50, n_1))) (b_3 : n_1 < 2147483648) (e_5 : (x4 + (1 : Int32)) = nI i_4) (c_6 : i_4 < n_1) (f_8 : S.2.1 a0 i_4 = .int y7) (e_10 : (x4 + (2 : Int32)) = nI i_9) (c_11 : i_9 < n_1) (f_13 : S.2.1 a0 i_9 = .int y12) (t_17 : S.1 a1 = some (.inl 0)) (m_18 : cti ext d 3 [.ref a1, .int y7, .int y12] S P_14) (k_19 : ∀ v_16 S_15, P_14 v_16 S_15 → aw ext (d + 1) 98 157 [some (.ref a0), some (.ref a1), some (va_rf r2), some (va_rf r3), some (.int x4), o5, o6] [.int v_16] S_15 Q) : aw ext (d + 1) 98 141 [some (.ref a0), some (.ref a1), some (va_rf r2), some (va_rf r3), some (.int x4), o5, o6] [] S Q := by
  refine aw_ald j98_141 rfl rfl ?_
  refine aw_ald j98_142 rfl rfl ?_
  refine aw_ild j98_143 rfl ?_
  refine aw_con j98_145 ?_
  refine aw_bin (z := (x4 + (1 : Int32))) j98_146 rfl ?_
  refine aw_xldR j98_147 t_2 e_5 c_6 b_3 f_8 ?_
  refine aw_ald j98_148 rfl rfl ?_
  refine aw_ild j98_149 rfl ?_
  refine aw_con j98_151 ?_
  refine aw_bin (z := (x4 + (2 : Int32))) j98_152 rfl ?_
  refine aw_xldR j98_153 t_2 e_10 c_11 b_3 f_13 ?_
  exact aw_calli (as := [.ref a1, .int y7, .int y12]) j98_154 rfl rfl (Nat.le_of_ble_eq_true rfl) cy3.1 cy3.2 (cs_cons rfl (cs_cons rfl (cs_cons rfl cs_nil))) (decide_eq_true t_17) m_18 k_19
theorem bk98_157 {a0 : Nat} {r1 : Option Nat} {a2 : Nat} {r3 : Option Nat} {x4 : Int32} {o5 : Option Value} {o6 : Option Value} {xk0 : Int32} {n_1 : Nat} {i_4 : Nat} {y7 : Int32} {i_9 : Nat} {y12 : Int32} {P_14 : Int32 → av_St → Prop} (t_2 : S.1 a0 = some (.inr (50, n_1))) (b_3 : n_1 < 2147483648) (e_5 : (x4 + (1 : Int32)) = nI i_4) (c_6 : i_4 < n_1) (f_8 : S.2.1 a0 i_4 = .int y7) (e_10 : (x4 + (2 : Int32)) = nI i_9) (c_11 : i_9 < n_1) (f_13 : S.2.1 a0 i_9 = .int y12) (t_17 : S.1 a2 = some (.inl 10)) (m_18 : cti ext d 66 [.ref a2, .int y7, .int y12] S P_14) (k_19 : ∀ v_16 S_15, P_14 v_16 S_15 → aw ext (d + 1) 98 173 [some (.ref a0), some (va_rf r1), some (.ref a2), some (va_rf r3), some (.int x4), o5, o6] [.int v_16, .int xk0] S_15 Q) : aw ext (d + 1) 98 157 [some (.ref a0), some (va_rf r1), some (.ref a2), some (va_rf r3), some (.int x4), o5, o6] [.int xk0] S Q := by
  refine aw_ald j98_157 rfl rfl ?_
  refine aw_ald j98_158 rfl rfl ?_
  refine aw_ild j98_159 rfl ?_
  refine aw_con j98_161 ?_
  refine aw_bin (z := (x4 + (1 : Int32))) j98_162 rfl ?_
  refine aw_xldR j98_163 t_2 e_5 c_6 b_3 f_8 ?_
  refine aw_ald j98_164 rfl rfl ?_
  refine aw_ild j98_165 rfl ?_
  refine aw_con j98_167 ?_
  refine aw_bin (z := (x4 + (2 : Int32))) j98_168 rfl ?_
  refine aw_xldR j98_169 t_2 e_10 c_11 b_3 f_13 ?_
  exact aw_calli (as := [.ref a2, .int y7, .int y12]) j98_170 rfl rfl (Nat.le_of_ble_eq_true rfl) cy66.1 cy66.2 (cs_cons rfl (cs_cons rfl (cs_cons rfl cs_nil))) (decide_eq_true t_17) m_18 k_19
theorem bk98_173 {r0 : Option Nat} {r1 : Option Nat} {r2 : Option Nat} {r3 : Option Nat} {x4 : Int32} {o5 : Option Value} {o6 : Option Value} {xk0 : Int32} {xk1 : Int32}  (k_1 : (xk0 = xk1) → aw ext d 98 715 [some (va_rf r0), some (va_rf r1), some (va_rf r2), some (va_rf r3), some (.int x4), o5, o6] [] S Q) (k_2 : (¬ (xk0 = xk1)) → aw ext d 98 176 [some (va_rf r0), some (va_rf r1), some (va_rf r2), some (va_rf r3), some (.int x4), o5, o6] [] S Q) : aw ext d 98 173 [some (va_rf r0), some (va_rf r1), some (va_rf r2), some (va_rf r3), some (.int x4), o5, o6] [.int xk1, .int xk0] S Q := by
  exact aw_ic j98_173 (fun h => k_1 (of_decide_eq_true h)) (fun h => k_2 (of_decide_eq_false h))
theorem bk98_176 {r0 : Option Nat} {r1 : Option Nat} {r2 : Option Nat} {r3 : Option Nat} {x4 : Int32} {o5 : Option Value} {o6 : Option Value}  (k_1 : Q (some (.int (0 : Int32))) S) : aw ext d 98 176 [some (va_rf r0), some (va_rf r1), some (va_rf r2), some (va_rf r3), some (.int x4), o5, o6] [] S Q := by
  refine aw_con j98_176 ?_
  exact aw_ret j98_177 (by rw [rt98]; exact rfl) k_1
theorem bk98_178 {a0 : Nat} {a1 : Nat} {r2 : Option Nat} {r3 : Option Nat} {x4 : Int32} {o5 : Option Value} {o6 : Option Value} {n_1 : Nat} {i_4 : Nat} {y7 : Int32} {P_9 : Int32 → av_St → Prop} (t_2 : S.1 a0 = some (.inr (50, n_1))) (b_3 : n_1 < 2147483648) (e_5 : (x4 + (1 : Int32)) = nI i_4) (c_6 : i_4 < n_1) (f_8 : S.2.1 a0 i_4 = .int y7) (t_12 : S.1 a1 = some (.inl 0)) (m_13 : cti ext d 5 [.ref a1, .int y7] S P_9) (k_14 : ∀ v_11 S_10, P_9 v_11 S_10 → aw ext (d + 1) 98 188 [some (.ref a0), some (.ref a1), some (va_rf r2), some (va_rf r3), some (.int x4), o5, o6] [.int v_11] S_10 Q) : aw ext (d + 1) 98 178 [some (.ref a0), some (.ref a1), some (va_rf r2), some (va_rf r3), some (.int x4), o5, o6] [] S Q := by
  refine aw_ald j98_178 rfl rfl ?_
  refine aw_ald j98_179 rfl rfl ?_
  refine aw_ild j98_180 rfl ?_
  refine aw_con j98_182 ?_
  refine aw_bin (z := (x4 + (1 : Int32))) j98_183 rfl ?_
  refine aw_xldR j98_184 t_2 e_5 c_6 b_3 f_8 ?_
  exact aw_calli (as := [.ref a1, .int y7]) j98_185 rfl rfl (Nat.le_of_ble_eq_true rfl) cy5.1 cy5.2 (cs_cons rfl (cs_cons rfl cs_nil)) (decide_eq_true t_12) m_13 k_14
theorem bk98_188 {a0 : Nat} {r1 : Option Nat} {a2 : Nat} {r3 : Option Nat} {x4 : Int32} {o5 : Option Value} {o6 : Option Value} {xk0 : Int32} {n_1 : Nat} {i_4 : Nat} {y7 : Int32} {P_9 : Int32 → av_St → Prop} (t_2 : S.1 a0 = some (.inr (50, n_1))) (b_3 : n_1 < 2147483648) (e_5 : (x4 + (1 : Int32)) = nI i_4) (c_6 : i_4 < n_1) (f_8 : S.2.1 a0 i_4 = .int y7) (t_12 : S.1 a2 = some (.inl 10)) (m_13 : cti ext d 68 [.ref a2, .int y7] S P_9) (k_14 : ∀ v_11 S_10, P_9 v_11 S_10 → aw ext (d + 1) 98 198 [some (.ref a0), some (va_rf r1), some (.ref a2), some (va_rf r3), some (.int x4), o5, o6] [.int v_11, .int xk0] S_10 Q) : aw ext (d + 1) 98 188 [some (.ref a0), some (va_rf r1), some (.ref a2), some (va_rf r3), some (.int x4), o5, o6] [.int xk0] S Q := by
  refine aw_ald j98_188 rfl rfl ?_
  refine aw_ald j98_189 rfl rfl ?_
  refine aw_ild j98_190 rfl ?_
  refine aw_con j98_192 ?_
  refine aw_bin (z := (x4 + (1 : Int32))) j98_193 rfl ?_
  refine aw_xldR j98_194 t_2 e_5 c_6 b_3 f_8 ?_
  exact aw_calli (as := [.ref a2, .int y7]) j98_195 rfl rfl (Nat.le_of_ble_eq_true rfl) cy68.1 cy68.2 (cs_cons rfl (cs_cons rfl cs_nil)) (decide_eq_true t_12) m_13 k_14
theorem bk98_198 {r0 : Option Nat} {r1 : Option Nat} {r2 : Option Nat} {r3 : Option Nat} {x4 : Int32} {o5 : Option Value} {o6 : Option Value} {xk0 : Int32} {xk1 : Int32}  (k_1 : (xk0 = xk1) → aw ext d 98 715 [some (va_rf r0), some (va_rf r1), some (va_rf r2), some (va_rf r3), some (.int x4), o5, o6] [] S Q) (k_2 : (¬ (xk0 = xk1)) → aw ext d 98 201 [some (va_rf r0), some (va_rf r1), some (va_rf r2), some (va_rf r3), some (.int x4), o5, o6] [] S Q) : aw ext d 98 198 [some (va_rf r0), some (va_rf r1), some (va_rf r2), some (va_rf r3), some (.int x4), o5, o6] [.int xk1, .int xk0] S Q := by
  exact aw_ic j98_198 (fun h => k_1 (of_decide_eq_true h)) (fun h => k_2 (of_decide_eq_false h))
theorem bk98_201 {r0 : Option Nat} {r1 : Option Nat} {r2 : Option Nat} {r3 : Option Nat} {x4 : Int32} {o5 : Option Value} {o6 : Option Value}  (k_1 : Q (some (.int (0 : Int32))) S) : aw ext d 98 201 [some (va_rf r0), some (va_rf r1), some (va_rf r2), some (va_rf r3), some (.int x4), o5, o6] [] S Q := by
  refine aw_con j98_201 ?_
  exact aw_ret j98_202 (by rw [rt98]; exact rfl) k_1
theorem bk98_203 {a0 : Nat} {a1 : Nat} {r2 : Option Nat} {r3 : Option Nat} {x4 : Int32} {o5 : Option Value} {o6 : Option Value} {n_1 : Nat} {i_4 : Nat} {y7 : Int32} {i_9 : Nat} {y12 : Int32} {i_14 : Nat} {y17 : Int32} {i_19 : Nat} {y22 : Int32} {P_24 : Int32 → av_St → Prop} (t_2 : S.1 a0 = some (.inr (50, n_1))) (b_3 : n_1 < 2147483648) (e_5 : (x4 + (1 : Int32)) = nI i_4) (c_6 : i_4 < n_1) (f_8 : S.2.1 a0 i_4 = .int y7) (e_10 : (x4 + (2 : Int32)) = nI i_9) (c_11 : i_9 < n_1) (f_13 : S.2.1 a0 i_9 = .int y12) (e_15 : (x4 + (3 : Int32)) = nI i_14) (c_16 : i_14 < n_1) (f_18 : S.2.1 a0 i_14 = .int y17) (e_20 : (x4 + (4 : Int32)) = nI i_19) (c_21 : i_19 < n_1) (f_23 : S.2.1 a0 i_19 = .int y22) (t_27 : S.1 a1 = some (.inl 0)) (m_28 : cti ext d 6 [.ref a1, .int y7, .int y12, .int y17, .int y22] S P_24) (k_29 : ∀ v_26 S_25, P_24 v_26 S_25 → aw ext (d + 1) 98 231 [some (.ref a0), some (.ref a1), some (va_rf r2), some (va_rf r3), some (.int x4), o5, o6] [.int v_26] S_25 Q) : aw ext (d + 1) 98 203 [some (.ref a0), some (.ref a1), some (va_rf r2), some (va_rf r3), some (.int x4), o5, o6] [] S Q := by
  refine aw_ald j98_203 rfl rfl ?_
  refine aw_ald j98_204 rfl rfl ?_
  refine aw_ild j98_205 rfl ?_
  refine aw_con j98_207 ?_
  refine aw_bin (z := (x4 + (1 : Int32))) j98_208 rfl ?_
  refine aw_xldR j98_209 t_2 e_5 c_6 b_3 f_8 ?_
  refine aw_ald j98_210 rfl rfl ?_
  refine aw_ild j98_211 rfl ?_
  refine aw_con j98_213 ?_
  refine aw_bin (z := (x4 + (2 : Int32))) j98_214 rfl ?_
  refine aw_xldR j98_215 t_2 e_10 c_11 b_3 f_13 ?_
  refine aw_ald j98_216 rfl rfl ?_
  refine aw_ild j98_217 rfl ?_
  refine aw_con j98_219 ?_
  refine aw_bin (z := (x4 + (3 : Int32))) j98_220 rfl ?_
  refine aw_xldR j98_221 t_2 e_15 c_16 b_3 f_18 ?_
  refine aw_ald j98_222 rfl rfl ?_
  refine aw_ild j98_223 rfl ?_
  refine aw_con j98_225 ?_
  refine aw_bin (z := (x4 + (4 : Int32))) j98_226 rfl ?_
  refine aw_xldR j98_227 t_2 e_20 c_21 b_3 f_23 ?_
  exact aw_calli (as := [.ref a1, .int y7, .int y12, .int y17, .int y22]) j98_228 rfl rfl (Nat.le_of_ble_eq_true rfl) cy6.1 cy6.2 (cs_cons rfl (cs_cons rfl (cs_cons rfl (cs_cons rfl (cs_cons rfl cs_nil))))) (decide_eq_true t_27) m_28 k_29
theorem bk98_231 {a0 : Nat} {r1 : Option Nat} {a2 : Nat} {r3 : Option Nat} {x4 : Int32} {o5 : Option Value} {o6 : Option Value} {xk0 : Int32} {n_1 : Nat} {i_4 : Nat} {y7 : Int32} {i_9 : Nat} {y12 : Int32} {i_14 : Nat} {y17 : Int32} {i_19 : Nat} {y22 : Int32} {P_24 : Int32 → av_St → Prop} (t_2 : S.1 a0 = some (.inr (50, n_1))) (b_3 : n_1 < 2147483648) (e_5 : (x4 + (1 : Int32)) = nI i_4) (c_6 : i_4 < n_1) (f_8 : S.2.1 a0 i_4 = .int y7) (e_10 : (x4 + (2 : Int32)) = nI i_9) (c_11 : i_9 < n_1) (f_13 : S.2.1 a0 i_9 = .int y12) (e_15 : (x4 + (3 : Int32)) = nI i_14) (c_16 : i_14 < n_1) (f_18 : S.2.1 a0 i_14 = .int y17) (e_20 : (x4 + (4 : Int32)) = nI i_19) (c_21 : i_19 < n_1) (f_23 : S.2.1 a0 i_19 = .int y22) (t_27 : S.1 a2 = some (.inl 10)) (m_28 : cti ext d 69 [.ref a2, .int y7, .int y12, .int y17, .int y22] S P_24) (k_29 : ∀ v_26 S_25, P_24 v_26 S_25 → aw ext (d + 1) 98 259 [some (.ref a0), some (va_rf r1), some (.ref a2), some (va_rf r3), some (.int x4), o5, o6] [.int v_26, .int xk0] S_25 Q) : aw ext (d + 1) 98 231 [some (.ref a0), some (va_rf r1), some (.ref a2), some (va_rf r3), some (.int x4), o5, o6] [.int xk0] S Q := by
  refine aw_ald j98_231 rfl rfl ?_
  refine aw_ald j98_232 rfl rfl ?_
  refine aw_ild j98_233 rfl ?_
  refine aw_con j98_235 ?_
  refine aw_bin (z := (x4 + (1 : Int32))) j98_236 rfl ?_
  refine aw_xldR j98_237 t_2 e_5 c_6 b_3 f_8 ?_
  refine aw_ald j98_238 rfl rfl ?_
  refine aw_ild j98_239 rfl ?_
  refine aw_con j98_241 ?_
  refine aw_bin (z := (x4 + (2 : Int32))) j98_242 rfl ?_
  refine aw_xldR j98_243 t_2 e_10 c_11 b_3 f_13 ?_
  refine aw_ald j98_244 rfl rfl ?_
  refine aw_ild j98_245 rfl ?_
  refine aw_con j98_247 ?_
  refine aw_bin (z := (x4 + (3 : Int32))) j98_248 rfl ?_
  refine aw_xldR j98_249 t_2 e_15 c_16 b_3 f_18 ?_
  refine aw_ald j98_250 rfl rfl ?_
  refine aw_ild j98_251 rfl ?_
  refine aw_con j98_253 ?_
  refine aw_bin (z := (x4 + (4 : Int32))) j98_254 rfl ?_
  refine aw_xldR j98_255 t_2 e_20 c_21 b_3 f_23 ?_
  exact aw_calli (as := [.ref a2, .int y7, .int y12, .int y17, .int y22]) j98_256 rfl rfl (Nat.le_of_ble_eq_true rfl) cy69.1 cy69.2 (cs_cons rfl (cs_cons rfl (cs_cons rfl (cs_cons rfl (cs_cons rfl cs_nil))))) (decide_eq_true t_27) m_28 k_29
theorem bk98_259 {r0 : Option Nat} {r1 : Option Nat} {r2 : Option Nat} {r3 : Option Nat} {x4 : Int32} {o5 : Option Value} {o6 : Option Value} {xk0 : Int32} {xk1 : Int32}  (k_1 : (xk0 = xk1) → aw ext d 98 715 [some (va_rf r0), some (va_rf r1), some (va_rf r2), some (va_rf r3), some (.int x4), o5, o6] [] S Q) (k_2 : (¬ (xk0 = xk1)) → aw ext d 98 262 [some (va_rf r0), some (va_rf r1), some (va_rf r2), some (va_rf r3), some (.int x4), o5, o6] [] S Q) : aw ext d 98 259 [some (va_rf r0), some (va_rf r1), some (va_rf r2), some (va_rf r3), some (.int x4), o5, o6] [.int xk1, .int xk0] S Q := by
  exact aw_ic j98_259 (fun h => k_1 (of_decide_eq_true h)) (fun h => k_2 (of_decide_eq_false h))
theorem bk98_262 {r0 : Option Nat} {r1 : Option Nat} {r2 : Option Nat} {r3 : Option Nat} {x4 : Int32} {o5 : Option Value} {o6 : Option Value}  (k_1 : Q (some (.int (0 : Int32))) S) : aw ext d 98 262 [some (va_rf r0), some (va_rf r1), some (va_rf r2), some (va_rf r3), some (.int x4), o5, o6] [] S Q := by
  refine aw_con j98_262 ?_
  exact aw_ret j98_263 (by rw [rt98]; exact rfl) k_1
theorem bk98_264 {a0 : Nat} {a1 : Nat} {r2 : Option Nat} {r3 : Option Nat} {x4 : Int32} {o5 : Option Value} {o6 : Option Value} {n_1 : Nat} {i_4 : Nat} {y7 : Int32} {i_9 : Nat} {y12 : Int32} {i_14 : Nat} {y17 : Int32} {i_19 : Nat} {y22 : Int32} {P_24 : Int32 → av_St → Prop} (t_2 : S.1 a0 = some (.inr (50, n_1))) (b_3 : n_1 < 2147483648) (e_5 : (x4 + (1 : Int32)) = nI i_4) (c_6 : i_4 < n_1) (f_8 : S.2.1 a0 i_4 = .int y7) (e_10 : (x4 + (2 : Int32)) = nI i_9) (c_11 : i_9 < n_1) (f_13 : S.2.1 a0 i_9 = .int y12) (e_15 : (x4 + (3 : Int32)) = nI i_14) (c_16 : i_14 < n_1) (f_18 : S.2.1 a0 i_14 = .int y17) (e_20 : (x4 + (4 : Int32)) = nI i_19) (c_21 : i_19 < n_1) (f_23 : S.2.1 a0 i_19 = .int y22) (t_27 : S.1 a1 = some (.inl 0)) (m_28 : cti ext d 10 [.ref a1, .int y7, .int y12, .int y17, .int y22] S P_24) (k_29 : ∀ v_26 S_25, P_24 v_26 S_25 → aw ext (d + 1) 98 292 [some (.ref a0), some (.ref a1), some (va_rf r2), some (va_rf r3), some (.int x4), o5, o6] [.int v_26] S_25 Q) : aw ext (d + 1) 98 264 [some (.ref a0), some (.ref a1), some (va_rf r2), some (va_rf r3), some (.int x4), o5, o6] [] S Q := by
  refine aw_ald j98_264 rfl rfl ?_
  refine aw_ald j98_265 rfl rfl ?_
  refine aw_ild j98_266 rfl ?_
  refine aw_con j98_268 ?_
  refine aw_bin (z := (x4 + (1 : Int32))) j98_269 rfl ?_
  refine aw_xldR j98_270 t_2 e_5 c_6 b_3 f_8 ?_
  refine aw_ald j98_271 rfl rfl ?_
  refine aw_ild j98_272 rfl ?_
  refine aw_con j98_274 ?_
  refine aw_bin (z := (x4 + (2 : Int32))) j98_275 rfl ?_
  refine aw_xldR j98_276 t_2 e_10 c_11 b_3 f_13 ?_
  refine aw_ald j98_277 rfl rfl ?_
  refine aw_ild j98_278 rfl ?_
  refine aw_con j98_280 ?_
  refine aw_bin (z := (x4 + (3 : Int32))) j98_281 rfl ?_
  refine aw_xldR j98_282 t_2 e_15 c_16 b_3 f_18 ?_
  refine aw_ald j98_283 rfl rfl ?_
  refine aw_ild j98_284 rfl ?_
  refine aw_con j98_286 ?_
  refine aw_bin (z := (x4 + (4 : Int32))) j98_287 rfl ?_
  refine aw_xldR j98_288 t_2 e_20 c_21 b_3 f_23 ?_
  exact aw_calli (as := [.ref a1, .int y7, .int y12, .int y17, .int y22]) j98_289 rfl rfl (Nat.le_of_ble_eq_true rfl) cy10.1 cy10.2 (cs_cons rfl (cs_cons rfl (cs_cons rfl (cs_cons rfl (cs_cons rfl cs_nil))))) (decide_eq_true t_27) m_28 k_29
theorem bk98_292 {a0 : Nat} {r1 : Option Nat} {a2 : Nat} {r3 : Option Nat} {x4 : Int32} {o5 : Option Value} {o6 : Option Value} {xk0 : Int32} {n_1 : Nat} {i_4 : Nat} {y7 : Int32} {i_9 : Nat} {y12 : Int32} {i_14 : Nat} {y17 : Int32} {i_19 : Nat} {y22 : Int32} {P_24 : Int32 → av_St → Prop} (t_2 : S.1 a0 = some (.inr (50, n_1))) (b_3 : n_1 < 2147483648) (e_5 : (x4 + (1 : Int32)) = nI i_4) (c_6 : i_4 < n_1) (f_8 : S.2.1 a0 i_4 = .int y7) (e_10 : (x4 + (2 : Int32)) = nI i_9) (c_11 : i_9 < n_1) (f_13 : S.2.1 a0 i_9 = .int y12) (e_15 : (x4 + (3 : Int32)) = nI i_14) (c_16 : i_14 < n_1) (f_18 : S.2.1 a0 i_14 = .int y17) (e_20 : (x4 + (4 : Int32)) = nI i_19) (c_21 : i_19 < n_1) (f_23 : S.2.1 a0 i_19 = .int y22) (t_27 : S.1 a2 = some (.inl 10)) (m_28 : cti ext d 72 [.ref a2, .int y7, .int y12, .int y17, .int y22] S P_24) (k_29 : ∀ v_26 S_25, P_24 v_26 S_25 → aw ext (d + 1) 98 320 [some (.ref a0), some (va_rf r1), some (.ref a2), some (va_rf r3), some (.int x4), o5, o6] [.int v_26, .int xk0] S_25 Q) : aw ext (d + 1) 98 292 [some (.ref a0), some (va_rf r1), some (.ref a2), some (va_rf r3), some (.int x4), o5, o6] [.int xk0] S Q := by
  refine aw_ald j98_292 rfl rfl ?_
  refine aw_ald j98_293 rfl rfl ?_
  refine aw_ild j98_294 rfl ?_
  refine aw_con j98_296 ?_
  refine aw_bin (z := (x4 + (1 : Int32))) j98_297 rfl ?_
  refine aw_xldR j98_298 t_2 e_5 c_6 b_3 f_8 ?_
  refine aw_ald j98_299 rfl rfl ?_
  refine aw_ild j98_300 rfl ?_
  refine aw_con j98_302 ?_
  refine aw_bin (z := (x4 + (2 : Int32))) j98_303 rfl ?_
  refine aw_xldR j98_304 t_2 e_10 c_11 b_3 f_13 ?_
  refine aw_ald j98_305 rfl rfl ?_
  refine aw_ild j98_306 rfl ?_
  refine aw_con j98_308 ?_
  refine aw_bin (z := (x4 + (3 : Int32))) j98_309 rfl ?_
  refine aw_xldR j98_310 t_2 e_15 c_16 b_3 f_18 ?_
  refine aw_ald j98_311 rfl rfl ?_
  refine aw_ild j98_312 rfl ?_
  refine aw_con j98_314 ?_
  refine aw_bin (z := (x4 + (4 : Int32))) j98_315 rfl ?_
  refine aw_xldR j98_316 t_2 e_20 c_21 b_3 f_23 ?_
  exact aw_calli (as := [.ref a2, .int y7, .int y12, .int y17, .int y22]) j98_317 rfl rfl (Nat.le_of_ble_eq_true rfl) cy72.1 cy72.2 (cs_cons rfl (cs_cons rfl (cs_cons rfl (cs_cons rfl (cs_cons rfl cs_nil))))) (decide_eq_true t_27) m_28 k_29
theorem bk98_320 {r0 : Option Nat} {r1 : Option Nat} {r2 : Option Nat} {r3 : Option Nat} {x4 : Int32} {o5 : Option Value} {o6 : Option Value} {xk0 : Int32} {xk1 : Int32}  (k_1 : (xk0 = xk1) → aw ext d 98 715 [some (va_rf r0), some (va_rf r1), some (va_rf r2), some (va_rf r3), some (.int x4), o5, o6] [] S Q) (k_2 : (¬ (xk0 = xk1)) → aw ext d 98 323 [some (va_rf r0), some (va_rf r1), some (va_rf r2), some (va_rf r3), some (.int x4), o5, o6] [] S Q) : aw ext d 98 320 [some (va_rf r0), some (va_rf r1), some (va_rf r2), some (va_rf r3), some (.int x4), o5, o6] [.int xk1, .int xk0] S Q := by
  exact aw_ic j98_320 (fun h => k_1 (of_decide_eq_true h)) (fun h => k_2 (of_decide_eq_false h))
theorem bk98_323 {r0 : Option Nat} {r1 : Option Nat} {r2 : Option Nat} {r3 : Option Nat} {x4 : Int32} {o5 : Option Value} {o6 : Option Value}  (k_1 : Q (some (.int (0 : Int32))) S) : aw ext d 98 323 [some (va_rf r0), some (va_rf r1), some (va_rf r2), some (va_rf r3), some (.int x4), o5, o6] [] S Q := by
  refine aw_con j98_323 ?_
  exact aw_ret j98_324 (by rw [rt98]; exact rfl) k_1
theorem bk98_325 {a0 : Nat} {a1 : Nat} {r2 : Option Nat} {r3 : Option Nat} {x4 : Int32} {o5 : Option Value} {o6 : Option Value} {n_1 : Nat} {i_4 : Nat} {y7 : Int32} {i_9 : Nat} {y12 : Int32} {P_14 : Int32 → av_St → Prop} (t_2 : S.1 a0 = some (.inr (50, n_1))) (b_3 : n_1 < 2147483648) (e_5 : (x4 + (1 : Int32)) = nI i_4) (c_6 : i_4 < n_1) (f_8 : S.2.1 a0 i_4 = .int y7) (e_10 : (x4 + (2 : Int32)) = nI i_9) (c_11 : i_9 < n_1) (f_13 : S.2.1 a0 i_9 = .int y12) (t_17 : S.1 a1 = some (.inl 0)) (m_18 : cti ext d 11 [.ref a1, .int y7, .int y12] S P_14) (k_19 : ∀ v_16 S_15, P_14 v_16 S_15 → aw ext (d + 1) 98 341 [some (.ref a0), some (.ref a1), some (va_rf r2), some (va_rf r3), some (.int x4), o5, o6] [.int v_16] S_15 Q) : aw ext (d + 1) 98 325 [some (.ref a0), some (.ref a1), some (va_rf r2), some (va_rf r3), some (.int x4), o5, o6] [] S Q := by
  refine aw_ald j98_325 rfl rfl ?_
  refine aw_ald j98_326 rfl rfl ?_
  refine aw_ild j98_327 rfl ?_
  refine aw_con j98_329 ?_
  refine aw_bin (z := (x4 + (1 : Int32))) j98_330 rfl ?_
  refine aw_xldR j98_331 t_2 e_5 c_6 b_3 f_8 ?_
  refine aw_ald j98_332 rfl rfl ?_
  refine aw_ild j98_333 rfl ?_
  refine aw_con j98_335 ?_
  refine aw_bin (z := (x4 + (2 : Int32))) j98_336 rfl ?_
  refine aw_xldR j98_337 t_2 e_10 c_11 b_3 f_13 ?_
  exact aw_calli (as := [.ref a1, .int y7, .int y12]) j98_338 rfl rfl (Nat.le_of_ble_eq_true rfl) cy11.1 cy11.2 (cs_cons rfl (cs_cons rfl (cs_cons rfl cs_nil))) (decide_eq_true t_17) m_18 k_19
theorem bk98_341 {a0 : Nat} {r1 : Option Nat} {a2 : Nat} {r3 : Option Nat} {x4 : Int32} {o5 : Option Value} {o6 : Option Value} {xk0 : Int32} {n_1 : Nat} {i_4 : Nat} {y7 : Int32} {i_9 : Nat} {y12 : Int32} {P_14 : Int32 → av_St → Prop} (t_2 : S.1 a0 = some (.inr (50, n_1))) (b_3 : n_1 < 2147483648) (e_5 : (x4 + (1 : Int32)) = nI i_4) (c_6 : i_4 < n_1) (f_8 : S.2.1 a0 i_4 = .int y7) (e_10 : (x4 + (2 : Int32)) = nI i_9) (c_11 : i_9 < n_1) (f_13 : S.2.1 a0 i_9 = .int y12) (t_17 : S.1 a2 = some (.inl 10)) (m_18 : cti ext d 73 [.ref a2, .int y7, .int y12] S P_14) (k_19 : ∀ v_16 S_15, P_14 v_16 S_15 → aw ext (d + 1) 98 357 [some (.ref a0), some (va_rf r1), some (.ref a2), some (va_rf r3), some (.int x4), o5, o6] [.int v_16, .int xk0] S_15 Q) : aw ext (d + 1) 98 341 [some (.ref a0), some (va_rf r1), some (.ref a2), some (va_rf r3), some (.int x4), o5, o6] [.int xk0] S Q := by
  refine aw_ald j98_341 rfl rfl ?_
  refine aw_ald j98_342 rfl rfl ?_
  refine aw_ild j98_343 rfl ?_
  refine aw_con j98_345 ?_
  refine aw_bin (z := (x4 + (1 : Int32))) j98_346 rfl ?_
  refine aw_xldR j98_347 t_2 e_5 c_6 b_3 f_8 ?_
  refine aw_ald j98_348 rfl rfl ?_
  refine aw_ild j98_349 rfl ?_
  refine aw_con j98_351 ?_
  refine aw_bin (z := (x4 + (2 : Int32))) j98_352 rfl ?_
  refine aw_xldR j98_353 t_2 e_10 c_11 b_3 f_13 ?_
  exact aw_calli (as := [.ref a2, .int y7, .int y12]) j98_354 rfl rfl (Nat.le_of_ble_eq_true rfl) cy73.1 cy73.2 (cs_cons rfl (cs_cons rfl (cs_cons rfl cs_nil))) (decide_eq_true t_17) m_18 k_19
theorem bk98_357 {r0 : Option Nat} {r1 : Option Nat} {r2 : Option Nat} {r3 : Option Nat} {x4 : Int32} {o5 : Option Value} {o6 : Option Value} {xk0 : Int32} {xk1 : Int32}  (k_1 : (xk0 = xk1) → aw ext d 98 715 [some (va_rf r0), some (va_rf r1), some (va_rf r2), some (va_rf r3), some (.int x4), o5, o6] [] S Q) (k_2 : (¬ (xk0 = xk1)) → aw ext d 98 360 [some (va_rf r0), some (va_rf r1), some (va_rf r2), some (va_rf r3), some (.int x4), o5, o6] [] S Q) : aw ext d 98 357 [some (va_rf r0), some (va_rf r1), some (va_rf r2), some (va_rf r3), some (.int x4), o5, o6] [.int xk1, .int xk0] S Q := by
  exact aw_ic j98_357 (fun h => k_1 (of_decide_eq_true h)) (fun h => k_2 (of_decide_eq_false h))
theorem bk98_360 {r0 : Option Nat} {r1 : Option Nat} {r2 : Option Nat} {r3 : Option Nat} {x4 : Int32} {o5 : Option Value} {o6 : Option Value}  (k_1 : Q (some (.int (0 : Int32))) S) : aw ext d 98 360 [some (va_rf r0), some (va_rf r1), some (va_rf r2), some (va_rf r3), some (.int x4), o5, o6] [] S Q := by
  refine aw_con j98_360 ?_
  exact aw_ret j98_361 (by rw [rt98]; exact rfl) k_1
theorem bk98_362 {a0 : Nat} {a1 : Nat} {r2 : Option Nat} {r3 : Option Nat} {x4 : Int32} {o5 : Option Value} {o6 : Option Value} {n_1 : Nat} {i_4 : Nat} {y7 : Int32} {i_9 : Nat} {y12 : Int32} {P_14 : Int32 → av_St → Prop} (t_2 : S.1 a0 = some (.inr (50, n_1))) (b_3 : n_1 < 2147483648) (e_5 : (x4 + (1 : Int32)) = nI i_4) (c_6 : i_4 < n_1) (f_8 : S.2.1 a0 i_4 = .int y7) (e_10 : (x4 + (2 : Int32)) = nI i_9) (c_11 : i_9 < n_1) (f_13 : S.2.1 a0 i_9 = .int y12) (t_17 : S.1 a1 = some (.inl 0)) (m_18 : cti ext d 12 [.ref a1, .int y7, .int y12] S P_14) (k_19 : ∀ v_16 S_15, P_14 v_16 S_15 → aw ext (d + 1) 98 378 [some (.ref a0), some (.ref a1), some (va_rf r2), some (va_rf r3), some (.int x4), o5, o6] [.int v_16] S_15 Q) : aw ext (d + 1) 98 362 [some (.ref a0), some (.ref a1), some (va_rf r2), some (va_rf r3), some (.int x4), o5, o6] [] S Q := by
  refine aw_ald j98_362 rfl rfl ?_
  refine aw_ald j98_363 rfl rfl ?_
  refine aw_ild j98_364 rfl ?_
  refine aw_con j98_366 ?_
  refine aw_bin (z := (x4 + (1 : Int32))) j98_367 rfl ?_
  refine aw_xldR j98_368 t_2 e_5 c_6 b_3 f_8 ?_
  refine aw_ald j98_369 rfl rfl ?_
  refine aw_ild j98_370 rfl ?_
  refine aw_con j98_372 ?_
  refine aw_bin (z := (x4 + (2 : Int32))) j98_373 rfl ?_
  refine aw_xldR j98_374 t_2 e_10 c_11 b_3 f_13 ?_
  exact aw_calli (as := [.ref a1, .int y7, .int y12]) j98_375 rfl rfl (Nat.le_of_ble_eq_true rfl) cy12.1 cy12.2 (cs_cons rfl (cs_cons rfl (cs_cons rfl cs_nil))) (decide_eq_true t_17) m_18 k_19
theorem bk98_378 {a0 : Nat} {r1 : Option Nat} {a2 : Nat} {r3 : Option Nat} {x4 : Int32} {o5 : Option Value} {o6 : Option Value} {xk0 : Int32} {n_1 : Nat} {i_4 : Nat} {y7 : Int32} {i_9 : Nat} {y12 : Int32} {P_14 : Int32 → av_St → Prop} (t_2 : S.1 a0 = some (.inr (50, n_1))) (b_3 : n_1 < 2147483648) (e_5 : (x4 + (1 : Int32)) = nI i_4) (c_6 : i_4 < n_1) (f_8 : S.2.1 a0 i_4 = .int y7) (e_10 : (x4 + (2 : Int32)) = nI i_9) (c_11 : i_9 < n_1) (f_13 : S.2.1 a0 i_9 = .int y12) (t_17 : S.1 a2 = some (.inl 10)) (m_18 : cti ext d 77 [.ref a2, .int y7, .int y12] S P_14) (k_19 : ∀ v_16 S_15, P_14 v_16 S_15 → aw ext (d + 1) 98 394 [some (.ref a0), some (va_rf r1), some (.ref a2), some (va_rf r3), some (.int x4), o5, o6] [.int v_16, .int xk0] S_15 Q) : aw ext (d + 1) 98 378 [some (.ref a0), some (va_rf r1), some (.ref a2), some (va_rf r3), some (.int x4), o5, o6] [.int xk0] S Q := by
  refine aw_ald j98_378 rfl rfl ?_
  refine aw_ald j98_379 rfl rfl ?_
  refine aw_ild j98_380 rfl ?_
  refine aw_con j98_382 ?_
  refine aw_bin (z := (x4 + (1 : Int32))) j98_383 rfl ?_
  refine aw_xldR j98_384 t_2 e_5 c_6 b_3 f_8 ?_
  refine aw_ald j98_385 rfl rfl ?_
  refine aw_ild j98_386 rfl ?_
  refine aw_con j98_388 ?_
  refine aw_bin (z := (x4 + (2 : Int32))) j98_389 rfl ?_
  refine aw_xldR j98_390 t_2 e_10 c_11 b_3 f_13 ?_
  exact aw_calli (as := [.ref a2, .int y7, .int y12]) j98_391 rfl rfl (Nat.le_of_ble_eq_true rfl) cy77.1 cy77.2 (cs_cons rfl (cs_cons rfl (cs_cons rfl cs_nil))) (decide_eq_true t_17) m_18 k_19
theorem bk98_394 {r0 : Option Nat} {r1 : Option Nat} {r2 : Option Nat} {r3 : Option Nat} {x4 : Int32} {o5 : Option Value} {o6 : Option Value} {xk0 : Int32} {xk1 : Int32}  (k_1 : (xk0 = xk1) → aw ext d 98 715 [some (va_rf r0), some (va_rf r1), some (va_rf r2), some (va_rf r3), some (.int x4), o5, o6] [] S Q) (k_2 : (¬ (xk0 = xk1)) → aw ext d 98 397 [some (va_rf r0), some (va_rf r1), some (va_rf r2), some (va_rf r3), some (.int x4), o5, o6] [] S Q) : aw ext d 98 394 [some (va_rf r0), some (va_rf r1), some (va_rf r2), some (va_rf r3), some (.int x4), o5, o6] [.int xk1, .int xk0] S Q := by
  exact aw_ic j98_394 (fun h => k_1 (of_decide_eq_true h)) (fun h => k_2 (of_decide_eq_false h))
theorem bk98_397 {r0 : Option Nat} {r1 : Option Nat} {r2 : Option Nat} {r3 : Option Nat} {x4 : Int32} {o5 : Option Value} {o6 : Option Value}  (k_1 : Q (some (.int (0 : Int32))) S) : aw ext d 98 397 [some (va_rf r0), some (va_rf r1), some (va_rf r2), some (va_rf r3), some (.int x4), o5, o6] [] S Q := by
  refine aw_con j98_397 ?_
  exact aw_ret j98_398 (by rw [rt98]; exact rfl) k_1
theorem bk98_399 {a0 : Nat} {a1 : Nat} {r2 : Option Nat} {r3 : Option Nat} {x4 : Int32} {o5 : Option Value} {o6 : Option Value} {n_1 : Nat} {i_4 : Nat} {y7 : Int32} {i_9 : Nat} {y12 : Int32} {P_14 : Int32 → av_St → Prop} (t_2 : S.1 a0 = some (.inr (50, n_1))) (b_3 : n_1 < 2147483648) (e_5 : (x4 + (1 : Int32)) = nI i_4) (c_6 : i_4 < n_1) (f_8 : S.2.1 a0 i_4 = .int y7) (e_10 : (x4 + (2 : Int32)) = nI i_9) (c_11 : i_9 < n_1) (f_13 : S.2.1 a0 i_9 = .int y12) (t_17 : S.1 a1 = some (.inl 0)) (m_18 : cti ext d 13 [.ref a1, .int y7, .int y12] S P_14) (k_19 : ∀ v_16 S_15, P_14 v_16 S_15 → aw ext (d + 1) 98 415 [some (.ref a0), some (.ref a1), some (va_rf r2), some (va_rf r3), some (.int x4), o5, o6] [.int v_16] S_15 Q) : aw ext (d + 1) 98 399 [some (.ref a0), some (.ref a1), some (va_rf r2), some (va_rf r3), some (.int x4), o5, o6] [] S Q := by
  refine aw_ald j98_399 rfl rfl ?_
  refine aw_ald j98_400 rfl rfl ?_
  refine aw_ild j98_401 rfl ?_
  refine aw_con j98_403 ?_
  refine aw_bin (z := (x4 + (1 : Int32))) j98_404 rfl ?_
  refine aw_xldR j98_405 t_2 e_5 c_6 b_3 f_8 ?_
  refine aw_ald j98_406 rfl rfl ?_
  refine aw_ild j98_407 rfl ?_
  refine aw_con j98_409 ?_
  refine aw_bin (z := (x4 + (2 : Int32))) j98_410 rfl ?_
  refine aw_xldR j98_411 t_2 e_10 c_11 b_3 f_13 ?_
  exact aw_calli (as := [.ref a1, .int y7, .int y12]) j98_412 rfl rfl (Nat.le_of_ble_eq_true rfl) cy13.1 cy13.2 (cs_cons rfl (cs_cons rfl (cs_cons rfl cs_nil))) (decide_eq_true t_17) m_18 k_19
theorem bk98_415 {a0 : Nat} {r1 : Option Nat} {a2 : Nat} {r3 : Option Nat} {x4 : Int32} {o5 : Option Value} {o6 : Option Value} {xk0 : Int32} {n_1 : Nat} {i_4 : Nat} {y7 : Int32} {i_9 : Nat} {y12 : Int32} {P_14 : Int32 → av_St → Prop} (t_2 : S.1 a0 = some (.inr (50, n_1))) (b_3 : n_1 < 2147483648) (e_5 : (x4 + (1 : Int32)) = nI i_4) (c_6 : i_4 < n_1) (f_8 : S.2.1 a0 i_4 = .int y7) (e_10 : (x4 + (2 : Int32)) = nI i_9) (c_11 : i_9 < n_1) (f_13 : S.2.1 a0 i_9 = .int y12) (t_17 : S.1 a2 = some (.inl 10)) (m_18 : cti ext d 79 [.ref a2, .int y7, .int y12] S P_14) (k_19 : ∀ v_16 S_15, P_14 v_16 S_15 → aw ext (d + 1) 98 431 [some (.ref a0), some (va_rf r1), some (.ref a2), some (va_rf r3), some (.int x4), o5, o6] [.int v_16, .int xk0] S_15 Q) : aw ext (d + 1) 98 415 [some (.ref a0), some (va_rf r1), some (.ref a2), some (va_rf r3), some (.int x4), o5, o6] [.int xk0] S Q := by
  refine aw_ald j98_415 rfl rfl ?_
  refine aw_ald j98_416 rfl rfl ?_
  refine aw_ild j98_417 rfl ?_
  refine aw_con j98_419 ?_
  refine aw_bin (z := (x4 + (1 : Int32))) j98_420 rfl ?_
  refine aw_xldR j98_421 t_2 e_5 c_6 b_3 f_8 ?_
  refine aw_ald j98_422 rfl rfl ?_
  refine aw_ild j98_423 rfl ?_
  refine aw_con j98_425 ?_
  refine aw_bin (z := (x4 + (2 : Int32))) j98_426 rfl ?_
  refine aw_xldR j98_427 t_2 e_10 c_11 b_3 f_13 ?_
  exact aw_calli (as := [.ref a2, .int y7, .int y12]) j98_428 rfl rfl (Nat.le_of_ble_eq_true rfl) cy79.1 cy79.2 (cs_cons rfl (cs_cons rfl (cs_cons rfl cs_nil))) (decide_eq_true t_17) m_18 k_19
theorem bk98_431 {r0 : Option Nat} {r1 : Option Nat} {r2 : Option Nat} {r3 : Option Nat} {x4 : Int32} {o5 : Option Value} {o6 : Option Value} {xk0 : Int32} {xk1 : Int32}  (k_1 : (xk0 = xk1) → aw ext d 98 715 [some (va_rf r0), some (va_rf r1), some (va_rf r2), some (va_rf r3), some (.int x4), o5, o6] [] S Q) (k_2 : (¬ (xk0 = xk1)) → aw ext d 98 434 [some (va_rf r0), some (va_rf r1), some (va_rf r2), some (va_rf r3), some (.int x4), o5, o6] [] S Q) : aw ext d 98 431 [some (va_rf r0), some (va_rf r1), some (va_rf r2), some (va_rf r3), some (.int x4), o5, o6] [.int xk1, .int xk0] S Q := by
  exact aw_ic j98_431 (fun h => k_1 (of_decide_eq_true h)) (fun h => k_2 (of_decide_eq_false h))
theorem bk98_434 {r0 : Option Nat} {r1 : Option Nat} {r2 : Option Nat} {r3 : Option Nat} {x4 : Int32} {o5 : Option Value} {o6 : Option Value}  (k_1 : Q (some (.int (0 : Int32))) S) : aw ext d 98 434 [some (va_rf r0), some (va_rf r1), some (va_rf r2), some (va_rf r3), some (.int x4), o5, o6] [] S Q := by
  refine aw_con j98_434 ?_
  exact aw_ret j98_435 (by rw [rt98]; exact rfl) k_1
theorem bk98_436 {a0 : Nat} {a1 : Nat} {r2 : Option Nat} {r3 : Option Nat} {x4 : Int32} {o5 : Option Value} {o6 : Option Value} {n_1 : Nat} {i_4 : Nat} {y7 : Int32} {P_9 : Int32 → av_St → Prop} (t_2 : S.1 a0 = some (.inr (50, n_1))) (b_3 : n_1 < 2147483648) (e_5 : (x4 + (1 : Int32)) = nI i_4) (c_6 : i_4 < n_1) (f_8 : S.2.1 a0 i_4 = .int y7) (t_12 : S.1 a1 = some (.inl 0)) (m_13 : cti ext d 14 [.ref a1, .int y7] S P_9) (k_14 : ∀ v_11 S_10, P_9 v_11 S_10 → aw ext (d + 1) 98 446 [some (.ref a0), some (.ref a1), some (va_rf r2), some (va_rf r3), some (.int x4), o5, o6] [.int v_11] S_10 Q) : aw ext (d + 1) 98 436 [some (.ref a0), some (.ref a1), some (va_rf r2), some (va_rf r3), some (.int x4), o5, o6] [] S Q := by
  refine aw_ald j98_436 rfl rfl ?_
  refine aw_ald j98_437 rfl rfl ?_
  refine aw_ild j98_438 rfl ?_
  refine aw_con j98_440 ?_
  refine aw_bin (z := (x4 + (1 : Int32))) j98_441 rfl ?_
  refine aw_xldR j98_442 t_2 e_5 c_6 b_3 f_8 ?_
  exact aw_calli (as := [.ref a1, .int y7]) j98_443 rfl rfl (Nat.le_of_ble_eq_true rfl) cy14.1 cy14.2 (cs_cons rfl (cs_cons rfl cs_nil)) (decide_eq_true t_12) m_13 k_14
theorem bk98_446 {a0 : Nat} {r1 : Option Nat} {a2 : Nat} {r3 : Option Nat} {x4 : Int32} {o5 : Option Value} {o6 : Option Value} {xk0 : Int32} {n_1 : Nat} {i_4 : Nat} {y7 : Int32} {P_9 : Int32 → av_St → Prop} (t_2 : S.1 a0 = some (.inr (50, n_1))) (b_3 : n_1 < 2147483648) (e_5 : (x4 + (1 : Int32)) = nI i_4) (c_6 : i_4 < n_1) (f_8 : S.2.1 a0 i_4 = .int y7) (t_12 : S.1 a2 = some (.inl 10)) (m_13 : cti ext d 83 [.ref a2, .int y7] S P_9) (k_14 : ∀ v_11 S_10, P_9 v_11 S_10 → aw ext (d + 1) 98 456 [some (.ref a0), some (va_rf r1), some (.ref a2), some (va_rf r3), some (.int x4), o5, o6] [.int v_11, .int xk0] S_10 Q) : aw ext (d + 1) 98 446 [some (.ref a0), some (va_rf r1), some (.ref a2), some (va_rf r3), some (.int x4), o5, o6] [.int xk0] S Q := by
  refine aw_ald j98_446 rfl rfl ?_
  refine aw_ald j98_447 rfl rfl ?_
  refine aw_ild j98_448 rfl ?_
  refine aw_con j98_450 ?_
  refine aw_bin (z := (x4 + (1 : Int32))) j98_451 rfl ?_
  refine aw_xldR j98_452 t_2 e_5 c_6 b_3 f_8 ?_
  exact aw_calli (as := [.ref a2, .int y7]) j98_453 rfl rfl (Nat.le_of_ble_eq_true rfl) cy83.1 cy83.2 (cs_cons rfl (cs_cons rfl cs_nil)) (decide_eq_true t_12) m_13 k_14
theorem bk98_456 {r0 : Option Nat} {r1 : Option Nat} {r2 : Option Nat} {r3 : Option Nat} {x4 : Int32} {o5 : Option Value} {o6 : Option Value} {xk0 : Int32} {xk1 : Int32}  (k_1 : (xk0 = xk1) → aw ext d 98 715 [some (va_rf r0), some (va_rf r1), some (va_rf r2), some (va_rf r3), some (.int x4), o5, o6] [] S Q) (k_2 : (¬ (xk0 = xk1)) → aw ext d 98 459 [some (va_rf r0), some (va_rf r1), some (va_rf r2), some (va_rf r3), some (.int x4), o5, o6] [] S Q) : aw ext d 98 456 [some (va_rf r0), some (va_rf r1), some (va_rf r2), some (va_rf r3), some (.int x4), o5, o6] [.int xk1, .int xk0] S Q := by
  exact aw_ic j98_456 (fun h => k_1 (of_decide_eq_true h)) (fun h => k_2 (of_decide_eq_false h))
theorem bk98_459 {r0 : Option Nat} {r1 : Option Nat} {r2 : Option Nat} {r3 : Option Nat} {x4 : Int32} {o5 : Option Value} {o6 : Option Value}  (k_1 : Q (some (.int (0 : Int32))) S) : aw ext d 98 459 [some (va_rf r0), some (va_rf r1), some (va_rf r2), some (va_rf r3), some (.int x4), o5, o6] [] S Q := by
  refine aw_con j98_459 ?_
  exact aw_ret j98_460 (by rw [rt98]; exact rfl) k_1
theorem bk98_461 {a0 : Nat} {a1 : Nat} {r2 : Option Nat} {r3 : Option Nat} {x4 : Int32} {o5 : Option Value} {o6 : Option Value} {n_1 : Nat} {i_4 : Nat} {y7 : Int32} {i_9 : Nat} {y12 : Int32} {P_14 : Int32 → av_St → Prop} (t_2 : S.1 a0 = some (.inr (50, n_1))) (b_3 : n_1 < 2147483648) (e_5 : (x4 + (1 : Int32)) = nI i_4) (c_6 : i_4 < n_1) (f_8 : S.2.1 a0 i_4 = .int y7) (e_10 : (x4 + (2 : Int32)) = nI i_9) (c_11 : i_9 < n_1) (f_13 : S.2.1 a0 i_9 = .int y12) (t_17 : S.1 a1 = some (.inl 0)) (m_18 : cti ext d 15 [.ref a1, .int y7, .int y12] S P_14) (k_19 : ∀ v_16 S_15, P_14 v_16 S_15 → aw ext (d + 1) 98 477 [some (.ref a0), some (.ref a1), some (va_rf r2), some (va_rf r3), some (.int x4), o5, o6] [.int v_16] S_15 Q) : aw ext (d + 1) 98 461 [some (.ref a0), some (.ref a1), some (va_rf r2), some (va_rf r3), some (.int x4), o5, o6] [] S Q := by
  refine aw_ald j98_461 rfl rfl ?_
  refine aw_ald j98_462 rfl rfl ?_
  refine aw_ild j98_463 rfl ?_
  refine aw_con j98_465 ?_
  refine aw_bin (z := (x4 + (1 : Int32))) j98_466 rfl ?_
  refine aw_xldR j98_467 t_2 e_5 c_6 b_3 f_8 ?_
  refine aw_ald j98_468 rfl rfl ?_
  refine aw_ild j98_469 rfl ?_
  refine aw_con j98_471 ?_
  refine aw_bin (z := (x4 + (2 : Int32))) j98_472 rfl ?_
  refine aw_xldR j98_473 t_2 e_10 c_11 b_3 f_13 ?_
  exact aw_calli (as := [.ref a1, .int y7, .int y12]) j98_474 rfl rfl (Nat.le_of_ble_eq_true rfl) cy15.1 cy15.2 (cs_cons rfl (cs_cons rfl (cs_cons rfl cs_nil))) (decide_eq_true t_17) m_18 k_19
theorem bk98_477 {a0 : Nat} {r1 : Option Nat} {a2 : Nat} {r3 : Option Nat} {x4 : Int32} {o5 : Option Value} {o6 : Option Value} {xk0 : Int32} {n_1 : Nat} {i_4 : Nat} {y7 : Int32} {i_9 : Nat} {y12 : Int32} {P_14 : Int32 → av_St → Prop} (t_2 : S.1 a0 = some (.inr (50, n_1))) (b_3 : n_1 < 2147483648) (e_5 : (x4 + (1 : Int32)) = nI i_4) (c_6 : i_4 < n_1) (f_8 : S.2.1 a0 i_4 = .int y7) (e_10 : (x4 + (2 : Int32)) = nI i_9) (c_11 : i_9 < n_1) (f_13 : S.2.1 a0 i_9 = .int y12) (t_17 : S.1 a2 = some (.inl 10)) (m_18 : cti ext d 85 [.ref a2, .int y7, .int y12] S P_14) (k_19 : ∀ v_16 S_15, P_14 v_16 S_15 → aw ext (d + 1) 98 493 [some (.ref a0), some (va_rf r1), some (.ref a2), some (va_rf r3), some (.int x4), o5, o6] [.int v_16, .int xk0] S_15 Q) : aw ext (d + 1) 98 477 [some (.ref a0), some (va_rf r1), some (.ref a2), some (va_rf r3), some (.int x4), o5, o6] [.int xk0] S Q := by
  refine aw_ald j98_477 rfl rfl ?_
  refine aw_ald j98_478 rfl rfl ?_
  refine aw_ild j98_479 rfl ?_
  refine aw_con j98_481 ?_
  refine aw_bin (z := (x4 + (1 : Int32))) j98_482 rfl ?_
  refine aw_xldR j98_483 t_2 e_5 c_6 b_3 f_8 ?_
  refine aw_ald j98_484 rfl rfl ?_
  refine aw_ild j98_485 rfl ?_
  refine aw_con j98_487 ?_
  refine aw_bin (z := (x4 + (2 : Int32))) j98_488 rfl ?_
  refine aw_xldR j98_489 t_2 e_10 c_11 b_3 f_13 ?_
  exact aw_calli (as := [.ref a2, .int y7, .int y12]) j98_490 rfl rfl (Nat.le_of_ble_eq_true rfl) cy85.1 cy85.2 (cs_cons rfl (cs_cons rfl (cs_cons rfl cs_nil))) (decide_eq_true t_17) m_18 k_19
theorem bk98_493 {r0 : Option Nat} {r1 : Option Nat} {r2 : Option Nat} {r3 : Option Nat} {x4 : Int32} {o5 : Option Value} {o6 : Option Value} {xk0 : Int32} {xk1 : Int32}  (k_1 : (xk0 = xk1) → aw ext d 98 715 [some (va_rf r0), some (va_rf r1), some (va_rf r2), some (va_rf r3), some (.int x4), o5, o6] [] S Q) (k_2 : (¬ (xk0 = xk1)) → aw ext d 98 496 [some (va_rf r0), some (va_rf r1), some (va_rf r2), some (va_rf r3), some (.int x4), o5, o6] [] S Q) : aw ext d 98 493 [some (va_rf r0), some (va_rf r1), some (va_rf r2), some (va_rf r3), some (.int x4), o5, o6] [.int xk1, .int xk0] S Q := by
  exact aw_ic j98_493 (fun h => k_1 (of_decide_eq_true h)) (fun h => k_2 (of_decide_eq_false h))
theorem bk98_496 {r0 : Option Nat} {r1 : Option Nat} {r2 : Option Nat} {r3 : Option Nat} {x4 : Int32} {o5 : Option Value} {o6 : Option Value}  (k_1 : Q (some (.int (0 : Int32))) S) : aw ext d 98 496 [some (va_rf r0), some (va_rf r1), some (va_rf r2), some (va_rf r3), some (.int x4), o5, o6] [] S Q := by
  refine aw_con j98_496 ?_
  exact aw_ret j98_497 (by rw [rt98]; exact rfl) k_1
theorem bk98_498 {a0 : Nat} {a1 : Nat} {r2 : Option Nat} {r3 : Option Nat} {x4 : Int32} {o5 : Option Value} {o6 : Option Value} {n_1 : Nat} {i_4 : Nat} {y7 : Int32} {P_9 : Int32 → av_St → Prop} (t_2 : S.1 a0 = some (.inr (50, n_1))) (b_3 : n_1 < 2147483648) (e_5 : (x4 + (1 : Int32)) = nI i_4) (c_6 : i_4 < n_1) (f_8 : S.2.1 a0 i_4 = .int y7) (t_12 : S.1 a1 = some (.inl 0)) (m_13 : cti ext d 16 [.ref a1, .int y7] S P_9) (k_14 : ∀ v_11 S_10, P_9 v_11 S_10 → aw ext (d + 1) 98 508 [some (.ref a0), some (.ref a1), some (va_rf r2), some (va_rf r3), some (.int x4), o5, o6] [.int v_11] S_10 Q) : aw ext (d + 1) 98 498 [some (.ref a0), some (.ref a1), some (va_rf r2), some (va_rf r3), some (.int x4), o5, o6] [] S Q := by
  refine aw_ald j98_498 rfl rfl ?_
  refine aw_ald j98_499 rfl rfl ?_
  refine aw_ild j98_500 rfl ?_
  refine aw_con j98_502 ?_
  refine aw_bin (z := (x4 + (1 : Int32))) j98_503 rfl ?_
  refine aw_xldR j98_504 t_2 e_5 c_6 b_3 f_8 ?_
  exact aw_calli (as := [.ref a1, .int y7]) j98_505 rfl rfl (Nat.le_of_ble_eq_true rfl) cy16.1 cy16.2 (cs_cons rfl (cs_cons rfl cs_nil)) (decide_eq_true t_12) m_13 k_14
theorem bk98_508 {a0 : Nat} {r1 : Option Nat} {a2 : Nat} {r3 : Option Nat} {x4 : Int32} {o5 : Option Value} {o6 : Option Value} {xk0 : Int32} {n_1 : Nat} {i_4 : Nat} {y7 : Int32} {P_9 : Int32 → av_St → Prop} (t_2 : S.1 a0 = some (.inr (50, n_1))) (b_3 : n_1 < 2147483648) (e_5 : (x4 + (1 : Int32)) = nI i_4) (c_6 : i_4 < n_1) (f_8 : S.2.1 a0 i_4 = .int y7) (t_12 : S.1 a2 = some (.inl 10)) (m_13 : cti ext d 86 [.ref a2, .int y7] S P_9) (k_14 : ∀ v_11 S_10, P_9 v_11 S_10 → aw ext (d + 1) 98 518 [some (.ref a0), some (va_rf r1), some (.ref a2), some (va_rf r3), some (.int x4), o5, o6] [.int v_11, .int xk0] S_10 Q) : aw ext (d + 1) 98 508 [some (.ref a0), some (va_rf r1), some (.ref a2), some (va_rf r3), some (.int x4), o5, o6] [.int xk0] S Q := by
  refine aw_ald j98_508 rfl rfl ?_
  refine aw_ald j98_509 rfl rfl ?_
  refine aw_ild j98_510 rfl ?_
  refine aw_con j98_512 ?_
  refine aw_bin (z := (x4 + (1 : Int32))) j98_513 rfl ?_
  refine aw_xldR j98_514 t_2 e_5 c_6 b_3 f_8 ?_
  exact aw_calli (as := [.ref a2, .int y7]) j98_515 rfl rfl (Nat.le_of_ble_eq_true rfl) cy86.1 cy86.2 (cs_cons rfl (cs_cons rfl cs_nil)) (decide_eq_true t_12) m_13 k_14
theorem bk98_518 {r0 : Option Nat} {r1 : Option Nat} {r2 : Option Nat} {r3 : Option Nat} {x4 : Int32} {o5 : Option Value} {o6 : Option Value} {xk0 : Int32} {xk1 : Int32}  (k_1 : (xk0 = xk1) → aw ext d 98 715 [some (va_rf r0), some (va_rf r1), some (va_rf r2), some (va_rf r3), some (.int x4), o5, o6] [] S Q) (k_2 : (¬ (xk0 = xk1)) → aw ext d 98 521 [some (va_rf r0), some (va_rf r1), some (va_rf r2), some (va_rf r3), some (.int x4), o5, o6] [] S Q) : aw ext d 98 518 [some (va_rf r0), some (va_rf r1), some (va_rf r2), some (va_rf r3), some (.int x4), o5, o6] [.int xk1, .int xk0] S Q := by
  exact aw_ic j98_518 (fun h => k_1 (of_decide_eq_true h)) (fun h => k_2 (of_decide_eq_false h))
theorem bk98_521 {r0 : Option Nat} {r1 : Option Nat} {r2 : Option Nat} {r3 : Option Nat} {x4 : Int32} {o5 : Option Value} {o6 : Option Value}  (k_1 : Q (some (.int (0 : Int32))) S) : aw ext d 98 521 [some (va_rf r0), some (va_rf r1), some (va_rf r2), some (va_rf r3), some (.int x4), o5, o6] [] S Q := by
  refine aw_con j98_521 ?_
  exact aw_ret j98_522 (by rw [rt98]; exact rfl) k_1
theorem bk98_523 {a0 : Nat} {r1 : Option Nat} {r2 : Option Nat} {r3 : Option Nat} {x4 : Int32} {o5 : Option Value} {o6 : Option Value} {n_1 : Nat} {i_4 : Nat} {y7 : Int32} {i_9 : Nat} {y12 : Int32} {v_16 : Int32} {S_15 : av_St} (t_2 : S.1 a0 = some (.inr (50, n_1))) (b_3 : n_1 < 2147483648) (e_5 : (x4 + (1 : Int32)) = nI i_4) (c_6 : i_4 < n_1) (f_8 : S.2.1 a0 i_4 = .int y7) (e_10 : (x4 + (2 : Int32)) = nI i_9) (c_11 : i_9 < n_1) (f_13 : S.2.1 a0 i_9 = .int y12) (x_17 : ext [va_rf r1, .int y7, .int y12, va_rf r3] S = some (some (.int v_16), S_15)) (z_18 : S.2.2.1 ≤ S_15.2.2.1 ∧ S.2.2.2 ≤ S_15.2.2.2) (d_19 : 8 ≤ d) (k_20 : aw ext (d + 1) 98 540 [some (.ref a0), some (va_rf r1), some (va_rf r2), some (va_rf r3), some (.int x4), o5, o6] [.int v_16] S_15 Q) : aw ext (d + 1) 98 523 [some (.ref a0), some (va_rf r1), some (va_rf r2), some (va_rf r3), some (.int x4), o5, o6] [] S Q := by
  refine aw_ald j98_523 rfl (av_isR_rf r1) ?_
  refine aw_ald j98_524 rfl rfl ?_
  refine aw_ild j98_525 rfl ?_
  refine aw_con j98_527 ?_
  refine aw_bin (z := (x4 + (1 : Int32))) j98_528 rfl ?_
  refine aw_xldR j98_529 t_2 e_5 c_6 b_3 f_8 ?_
  refine aw_ald j98_530 rfl rfl ?_
  refine aw_ild j98_531 rfl ?_
  refine aw_con j98_533 ?_
  refine aw_bin (z := (x4 + (2 : Int32))) j98_534 rfl ?_
  refine aw_xldR j98_535 t_2 e_10 c_11 b_3 f_13 ?_
  refine aw_ald j98_536 rfl (av_isR_rf r3) ?_
  exact aw_ext (as := [va_rf r1, .int y7, .int y12, va_rf r3]) j98_537 rfl rfl (Nat.le_of_ble_eq_true rfl) d_19 x_17 z_18 k_20
theorem bk98_540 {a0 : Nat} {r1 : Option Nat} {a2 : Nat} {r3 : Option Nat} {x4 : Int32} {o5 : Option Value} {o6 : Option Value} {xk0 : Int32} {n_1 : Nat} {i_4 : Nat} {y7 : Int32} {i_9 : Nat} {y12 : Int32} {P_14 : Int32 → av_St → Prop} (t_2 : S.1 a0 = some (.inr (50, n_1))) (b_3 : n_1 < 2147483648) (e_5 : (x4 + (1 : Int32)) = nI i_4) (c_6 : i_4 < n_1) (f_8 : S.2.1 a0 i_4 = .int y7) (e_10 : (x4 + (2 : Int32)) = nI i_9) (c_11 : i_9 < n_1) (f_13 : S.2.1 a0 i_9 = .int y12) (t_17 : S.1 a2 = some (.inl 10)) (m_18 : cti ext d 90 [.ref a2, .int y7, .int y12] S P_14) (k_19 : ∀ v_16 S_15, P_14 v_16 S_15 → aw ext (d + 1) 98 558 [some (.ref a0), some (va_rf r1), some (.ref a2), some (va_rf r3), some (.int x4), some (.int xk0), o6] [.int v_16] S_15 Q) : aw ext (d + 1) 98 540 [some (.ref a0), some (va_rf r1), some (.ref a2), some (va_rf r3), some (.int x4), o5, o6] [.int xk0] S Q := by
  refine aw_ist j98_540 (Nat.le_of_ble_eq_true rfl) ?_
  refine aw_ald j98_542 rfl rfl ?_
  refine aw_ald j98_543 rfl rfl ?_
  refine aw_ild j98_544 rfl ?_
  refine aw_con j98_546 ?_
  refine aw_bin (z := (x4 + (1 : Int32))) j98_547 rfl ?_
  refine aw_xldR j98_548 t_2 e_5 c_6 b_3 f_8 ?_
  refine aw_ald j98_549 rfl rfl ?_
  refine aw_ild j98_550 rfl ?_
  refine aw_con j98_552 ?_
  refine aw_bin (z := (x4 + (2 : Int32))) j98_553 rfl ?_
  refine aw_xldR j98_554 t_2 e_10 c_11 b_3 f_13 ?_
  exact aw_calli (as := [.ref a2, .int y7, .int y12]) j98_555 rfl rfl (Nat.le_of_ble_eq_true rfl) cy90.1 cy90.2 (cs_cons rfl (cs_cons rfl (cs_cons rfl cs_nil))) (decide_eq_true t_17) m_18 k_19
theorem bk98_558 {r0 : Option Nat} {r1 : Option Nat} {a2 : Nat} {r3 : Option Nat} {x4 : Int32} {x5 : Int32} {o6 : Option Value} {xk0 : Int32} {P_1 : Int32 → av_St → Prop} (t_4 : S.1 a2 = some (.inl 10)) (m_5 : cti ext d 63 [.ref a2] S P_1) (k_6 : ∀ v_3 S_2, P_1 v_3 S_2 → aw ext (d + 1) 98 564 [some (va_rf r0), some (va_rf r1), some (.ref a2), some (va_rf r3), some (.int x4), some (.int x5), some (.int xk0)] [.int v_3] S_2 Q) : aw ext (d + 1) 98 558 [some (va_rf r0), some (va_rf r1), some (.ref a2), some (va_rf r3), some (.int x4), some (.int x5), o6] [.int xk0] S Q := by
  refine aw_ist j98_558 (Nat.le_of_ble_eq_true rfl) ?_
  refine aw_ald j98_560 rfl rfl ?_
  exact aw_calli (as := [.ref a2]) j98_561 rfl rfl (Nat.le_of_ble_eq_true rfl) cy63.1 cy63.2 (cs_cons rfl cs_nil) (decide_eq_true t_4) m_5 k_6
theorem bk98_564 {r0 : Option Nat} {r1 : Option Nat} {r2 : Option Nat} {r3 : Option Nat} {x4 : Int32} {x5 : Int32} {x6 : Int32} {xk0 : Int32}  (k_1 : (xk0 = x5) → aw ext d 98 571 [some (va_rf r0), some (va_rf r1), some (va_rf r2), some (va_rf r3), some (.int x4), some (.int x5), some (.int x6)] [] S Q) (k_2 : (¬ (xk0 = x5)) → aw ext d 98 569 [some (va_rf r0), some (va_rf r1), some (va_rf r2), some (va_rf r3), some (.int x4), some (.int x5), some (.int x6)] [] S Q) : aw ext d 98 564 [some (va_rf r0), some (va_rf r1), some (va_rf r2), some (va_rf r3), some (.int x4), some (.int x5), some (.int x6)] [.int xk0] S Q := by
  refine aw_ild j98_564 rfl ?_
  exact aw_ic j98_566 (fun h => k_1 (of_decide_eq_true h)) (fun h => k_2 (of_decide_eq_false h))
theorem bk98_569 {r0 : Option Nat} {r1 : Option Nat} {r2 : Option Nat} {r3 : Option Nat} {x4 : Int32} {x5 : Int32} {x6 : Int32}  (k_1 : Q (some (.int (0 : Int32))) S) : aw ext d 98 569 [some (va_rf r0), some (va_rf r1), some (va_rf r2), some (va_rf r3), some (.int x4), some (.int x5), some (.int x6)] [] S Q := by
  refine aw_con j98_569 ?_
  exact aw_ret j98_570 (by rw [rt98]; exact rfl) k_1
theorem bk98_571 {r0 : Option Nat} {r1 : Option Nat} {r2 : Option Nat} {r3 : Option Nat} {x4 : Int32} {x5 : Int32} {x6 : Int32}  (k_1 : (¬ x5 = 0) → aw ext d 98 588 [some (va_rf r0), some (va_rf r1), some (va_rf r2), some (va_rf r3), some (.int x4), some (.int x5), some (.int x6)] [] S Q) (k_2 : (x5 = 0) → aw ext d 98 576 [some (va_rf r0), some (va_rf r1), some (va_rf r2), some (va_rf r3), some (.int x4), some (.int x5), some (.int x6)] [] S Q) : aw ext d 98 571 [some (va_rf r0), some (va_rf r1), some (va_rf r2), some (va_rf r3), some (.int x4), some (.int x5), some (.int x6)] [] S Q := by
  refine aw_ild j98_571 rfl ?_
  exact aw_if j98_573 (fun h => k_1 (of_decide_eq_true h)) (fun h => k_2 (Decidable.of_not_not (of_decide_eq_false h)))
theorem bk98_576 {r0 : Option Nat} {r1 : Option Nat} {r2 : Option Nat} {a3 : Nat} {x4 : Int32} {x5 : Int32} {x6 : Int32} {n_1 : Nat} {z5 : Int64} (t_2 : S.1 a3 = some (.inr (4, n_1))) (b_3 : n_1 < 2147483648) (c_4 : 0 < n_1) (f_6 : S.2.1 a3 0 = .long z5) (k_7 : ((lg_cmp z5 (x6).toInt64) = 0) → aw ext d 98 588 [some (va_rf r0), some (va_rf r1), some (va_rf r2), some (.ref a3), some (.int x4), some (.int x5), some (.int x6)] [] S Q) (k_8 : (¬ ((lg_cmp z5 (x6).toInt64) = 0)) → aw ext d 98 586 [some (va_rf r0), some (va_rf r1), some (va_rf r2), some (.ref a3), some (.int x4), some (.int x5), some (.int x6)] [] S Q) : aw ext d 98 576 [some (va_rf r0), some (va_rf r1), some (va_rf r2), some (.ref a3), some (.int x4), some (.int x5), some (.int x6)] [] S Q := by
  refine aw_ald j98_576 rfl rfl ?_
  refine aw_con j98_577 ?_
  refine aw_xld j98_578 t_2 (by decide) c_4 b_3 f_6 ?_
  refine aw_ild j98_579 rfl ?_
  refine aw_i2l j98_581 ?_
  refine aw_lcmp j98_582 ?_
  exact aw_if j98_583 (fun h => k_7 (of_decide_eq_true h)) (fun h => k_8 (of_decide_eq_false h))
theorem bk98_586 {r0 : Option Nat} {r1 : Option Nat} {r2 : Option Nat} {r3 : Option Nat} {x4 : Int32} {x5 : Int32} {x6 : Int32}  (k_1 : Q (some (.int (0 : Int32))) S) : aw ext d 98 586 [some (va_rf r0), some (va_rf r1), some (va_rf r2), some (va_rf r3), some (.int x4), some (.int x5), some (.int x6)] [] S Q := by
  refine aw_con j98_586 ?_
  exact aw_ret j98_587 (by rw [rt98]; exact rfl) k_1
theorem bk98_588 {r0 : Option Nat} {r1 : Option Nat} {r2 : Option Nat} {r3 : Option Nat} {x4 : Int32} {x5 : Int32} {x6 : Int32}  (k_1 : aw ext d 98 715 [some (va_rf r0), some (va_rf r1), some (va_rf r2), some (va_rf r3), some (.int x4), some (.int x5), some (.int x6)] [] S Q) : aw ext d 98 588 [some (va_rf r0), some (va_rf r1), some (va_rf r2), some (va_rf r3), some (.int x4), some (.int x5), some (.int x6)] [] S Q := by
  exact aw_goto j98_588 k_1
theorem bk98_591 {a0 : Nat} {a1 : Nat} {r2 : Option Nat} {r3 : Option Nat} {x4 : Int32} {o5 : Option Value} {o6 : Option Value} {n_1 : Nat} {i_4 : Nat} {y7 : Int32} {P_9 : Int32 → av_St → Prop} (t_2 : S.1 a0 = some (.inr (50, n_1))) (b_3 : n_1 < 2147483648) (e_5 : (x4 + (1 : Int32)) = nI i_4) (c_6 : i_4 < n_1) (f_8 : S.2.1 a0 i_4 = .int y7) (t_12 : S.1 a1 = some (.inl 0)) (m_13 : cti ext d 19 [.ref a1, .int y7] S P_9) (k_14 : ∀ v_11 S_10, P_9 v_11 S_10 → aw ext (d + 1) 98 601 [some (.ref a0), some (.ref a1), some (va_rf r2), some (va_rf r3), some (.int x4), o5, o6] [.int v_11] S_10 Q) : aw ext (d + 1) 98 591 [some (.ref a0), some (.ref a1), some (va_rf r2), some (va_rf r3), some (.int x4), o5, o6] [] S Q := by
  refine aw_ald j98_591 rfl rfl ?_
  refine aw_ald j98_592 rfl rfl ?_
  refine aw_ild j98_593 rfl ?_
  refine aw_con j98_595 ?_
  refine aw_bin (z := (x4 + (1 : Int32))) j98_596 rfl ?_
  refine aw_xldR j98_597 t_2 e_5 c_6 b_3 f_8 ?_
  exact aw_calli (as := [.ref a1, .int y7]) j98_598 rfl rfl (Nat.le_of_ble_eq_true rfl) cy19.1 cy19.2 (cs_cons rfl (cs_cons rfl cs_nil)) (decide_eq_true t_12) m_13 k_14
theorem bk98_601 {a0 : Nat} {r1 : Option Nat} {a2 : Nat} {r3 : Option Nat} {x4 : Int32} {o5 : Option Value} {o6 : Option Value} {xk0 : Int32} {n_1 : Nat} {i_4 : Nat} {y7 : Int32} {P_9 : Int32 → av_St → Prop} (t_2 : S.1 a0 = some (.inr (50, n_1))) (b_3 : n_1 < 2147483648) (e_5 : (x4 + (1 : Int32)) = nI i_4) (c_6 : i_4 < n_1) (f_8 : S.2.1 a0 i_4 = .int y7) (t_12 : S.1 a2 = some (.inl 10)) (m_13 : cti ext d 91 [.ref a2, .int y7] S P_9) (k_14 : ∀ v_11 S_10, P_9 v_11 S_10 → aw ext (d + 1) 98 611 [some (.ref a0), some (va_rf r1), some (.ref a2), some (va_rf r3), some (.int x4), o5, o6] [.int v_11, .int xk0] S_10 Q) : aw ext (d + 1) 98 601 [some (.ref a0), some (va_rf r1), some (.ref a2), some (va_rf r3), some (.int x4), o5, o6] [.int xk0] S Q := by
  refine aw_ald j98_601 rfl rfl ?_
  refine aw_ald j98_602 rfl rfl ?_
  refine aw_ild j98_603 rfl ?_
  refine aw_con j98_605 ?_
  refine aw_bin (z := (x4 + (1 : Int32))) j98_606 rfl ?_
  refine aw_xldR j98_607 t_2 e_5 c_6 b_3 f_8 ?_
  exact aw_calli (as := [.ref a2, .int y7]) j98_608 rfl rfl (Nat.le_of_ble_eq_true rfl) cy91.1 cy91.2 (cs_cons rfl (cs_cons rfl cs_nil)) (decide_eq_true t_12) m_13 k_14
theorem bk98_611 {r0 : Option Nat} {r1 : Option Nat} {r2 : Option Nat} {r3 : Option Nat} {x4 : Int32} {o5 : Option Value} {o6 : Option Value} {xk0 : Int32} {xk1 : Int32}  (k_1 : (xk0 = xk1) → aw ext d 98 715 [some (va_rf r0), some (va_rf r1), some (va_rf r2), some (va_rf r3), some (.int x4), o5, o6] [] S Q) (k_2 : (¬ (xk0 = xk1)) → aw ext d 98 614 [some (va_rf r0), some (va_rf r1), some (va_rf r2), some (va_rf r3), some (.int x4), o5, o6] [] S Q) : aw ext d 98 611 [some (va_rf r0), some (va_rf r1), some (va_rf r2), some (va_rf r3), some (.int x4), o5, o6] [.int xk1, .int xk0] S Q := by
  exact aw_ic j98_611 (fun h => k_1 (of_decide_eq_true h)) (fun h => k_2 (of_decide_eq_false h))
theorem bk98_614 {r0 : Option Nat} {r1 : Option Nat} {r2 : Option Nat} {r3 : Option Nat} {x4 : Int32} {o5 : Option Value} {o6 : Option Value}  (k_1 : Q (some (.int (0 : Int32))) S) : aw ext d 98 614 [some (va_rf r0), some (va_rf r1), some (va_rf r2), some (va_rf r3), some (.int x4), o5, o6] [] S Q := by
  refine aw_con j98_614 ?_
  exact aw_ret j98_615 (by rw [rt98]; exact rfl) k_1
theorem bk98_616 {a0 : Nat} {a1 : Nat} {r2 : Option Nat} {r3 : Option Nat} {x4 : Int32} {o5 : Option Value} {o6 : Option Value} {n_1 : Nat} {i_4 : Nat} {y7 : Int32} {P_9 : Int32 → av_St → Prop} (t_2 : S.1 a0 = some (.inr (50, n_1))) (b_3 : n_1 < 2147483648) (e_5 : (x4 + (1 : Int32)) = nI i_4) (c_6 : i_4 < n_1) (f_8 : S.2.1 a0 i_4 = .int y7) (t_12 : S.1 a1 = some (.inl 0)) (m_13 : cti ext d 20 [.ref a1, .int y7] S P_9) (k_14 : ∀ v_11 S_10, P_9 v_11 S_10 → aw ext (d + 1) 98 626 [some (.ref a0), some (.ref a1), some (va_rf r2), some (va_rf r3), some (.int x4), o5, o6] [.int v_11] S_10 Q) : aw ext (d + 1) 98 616 [some (.ref a0), some (.ref a1), some (va_rf r2), some (va_rf r3), some (.int x4), o5, o6] [] S Q := by
  refine aw_ald j98_616 rfl rfl ?_
  refine aw_ald j98_617 rfl rfl ?_
  refine aw_ild j98_618 rfl ?_
  refine aw_con j98_620 ?_
  refine aw_bin (z := (x4 + (1 : Int32))) j98_621 rfl ?_
  refine aw_xldR j98_622 t_2 e_5 c_6 b_3 f_8 ?_
  exact aw_calli (as := [.ref a1, .int y7]) j98_623 rfl rfl (Nat.le_of_ble_eq_true rfl) cy20.1 cy20.2 (cs_cons rfl (cs_cons rfl cs_nil)) (decide_eq_true t_12) m_13 k_14
theorem bk98_626 {a0 : Nat} {r1 : Option Nat} {a2 : Nat} {r3 : Option Nat} {x4 : Int32} {o5 : Option Value} {o6 : Option Value} {xk0 : Int32} {n_1 : Nat} {i_4 : Nat} {y7 : Int32} {P_9 : Int32 → av_St → Prop} (t_2 : S.1 a0 = some (.inr (50, n_1))) (b_3 : n_1 < 2147483648) (e_5 : (x4 + (1 : Int32)) = nI i_4) (c_6 : i_4 < n_1) (f_8 : S.2.1 a0 i_4 = .int y7) (t_12 : S.1 a2 = some (.inl 10)) (m_13 : cti ext d 93 [.ref a2, .int y7] S P_9) (k_14 : ∀ v_11 S_10, P_9 v_11 S_10 → aw ext (d + 1) 98 636 [some (.ref a0), some (va_rf r1), some (.ref a2), some (va_rf r3), some (.int x4), o5, o6] [.int v_11, .int xk0] S_10 Q) : aw ext (d + 1) 98 626 [some (.ref a0), some (va_rf r1), some (.ref a2), some (va_rf r3), some (.int x4), o5, o6] [.int xk0] S Q := by
  refine aw_ald j98_626 rfl rfl ?_
  refine aw_ald j98_627 rfl rfl ?_
  refine aw_ild j98_628 rfl ?_
  refine aw_con j98_630 ?_
  refine aw_bin (z := (x4 + (1 : Int32))) j98_631 rfl ?_
  refine aw_xldR j98_632 t_2 e_5 c_6 b_3 f_8 ?_
  exact aw_calli (as := [.ref a2, .int y7]) j98_633 rfl rfl (Nat.le_of_ble_eq_true rfl) cy93.1 cy93.2 (cs_cons rfl (cs_cons rfl cs_nil)) (decide_eq_true t_12) m_13 k_14
theorem bk98_636 {r0 : Option Nat} {r1 : Option Nat} {r2 : Option Nat} {r3 : Option Nat} {x4 : Int32} {o5 : Option Value} {o6 : Option Value} {xk0 : Int32} {xk1 : Int32}  (k_1 : (xk0 = xk1) → aw ext d 98 715 [some (va_rf r0), some (va_rf r1), some (va_rf r2), some (va_rf r3), some (.int x4), o5, o6] [] S Q) (k_2 : (¬ (xk0 = xk1)) → aw ext d 98 639 [some (va_rf r0), some (va_rf r1), some (va_rf r2), some (va_rf r3), some (.int x4), o5, o6] [] S Q) : aw ext d 98 636 [some (va_rf r0), some (va_rf r1), some (va_rf r2), some (va_rf r3), some (.int x4), o5, o6] [.int xk1, .int xk0] S Q := by
  exact aw_ic j98_636 (fun h => k_1 (of_decide_eq_true h)) (fun h => k_2 (of_decide_eq_false h))
theorem bk98_639 {r0 : Option Nat} {r1 : Option Nat} {r2 : Option Nat} {r3 : Option Nat} {x4 : Int32} {o5 : Option Value} {o6 : Option Value}  (k_1 : Q (some (.int (0 : Int32))) S) : aw ext d 98 639 [some (va_rf r0), some (va_rf r1), some (va_rf r2), some (va_rf r3), some (.int x4), o5, o6] [] S Q := by
  refine aw_con j98_639 ?_
  exact aw_ret j98_640 (by rw [rt98]; exact rfl) k_1
theorem bk98_641 {a0 : Nat} {a1 : Nat} {r2 : Option Nat} {r3 : Option Nat} {x4 : Int32} {o5 : Option Value} {o6 : Option Value} {n_1 : Nat} {i_4 : Nat} {y7 : Int32} {i_9 : Nat} {y12 : Int32} {P_14 : Int32 → av_St → Prop} (t_2 : S.1 a0 = some (.inr (50, n_1))) (b_3 : n_1 < 2147483648) (e_5 : (x4 + (1 : Int32)) = nI i_4) (c_6 : i_4 < n_1) (f_8 : S.2.1 a0 i_4 = .int y7) (e_10 : (x4 + (2 : Int32)) = nI i_9) (c_11 : i_9 < n_1) (f_13 : S.2.1 a0 i_9 = .int y12) (t_17 : S.1 a1 = some (.inl 0)) (m_18 : cti ext d 21 [.ref a1, .int y7, .int y12] S P_14) (k_19 : ∀ v_16 S_15, P_14 v_16 S_15 → aw ext (d + 1) 98 657 [some (.ref a0), some (.ref a1), some (va_rf r2), some (va_rf r3), some (.int x4), o5, o6] [.int v_16] S_15 Q) : aw ext (d + 1) 98 641 [some (.ref a0), some (.ref a1), some (va_rf r2), some (va_rf r3), some (.int x4), o5, o6] [] S Q := by
  refine aw_ald j98_641 rfl rfl ?_
  refine aw_ald j98_642 rfl rfl ?_
  refine aw_ild j98_643 rfl ?_
  refine aw_con j98_645 ?_
  refine aw_bin (z := (x4 + (1 : Int32))) j98_646 rfl ?_
  refine aw_xldR j98_647 t_2 e_5 c_6 b_3 f_8 ?_
  refine aw_ald j98_648 rfl rfl ?_
  refine aw_ild j98_649 rfl ?_
  refine aw_con j98_651 ?_
  refine aw_bin (z := (x4 + (2 : Int32))) j98_652 rfl ?_
  refine aw_xldR j98_653 t_2 e_10 c_11 b_3 f_13 ?_
  exact aw_calli (as := [.ref a1, .int y7, .int y12]) j98_654 rfl rfl (Nat.le_of_ble_eq_true rfl) cy21.1 cy21.2 (cs_cons rfl (cs_cons rfl (cs_cons rfl cs_nil))) (decide_eq_true t_17) m_18 k_19
theorem bk98_657 {a0 : Nat} {r1 : Option Nat} {a2 : Nat} {r3 : Option Nat} {x4 : Int32} {o5 : Option Value} {o6 : Option Value} {xk0 : Int32} {n_1 : Nat} {i_4 : Nat} {y7 : Int32} {i_9 : Nat} {y12 : Int32} {P_14 : Int32 → av_St → Prop} (t_2 : S.1 a0 = some (.inr (50, n_1))) (b_3 : n_1 < 2147483648) (e_5 : (x4 + (1 : Int32)) = nI i_4) (c_6 : i_4 < n_1) (f_8 : S.2.1 a0 i_4 = .int y7) (e_10 : (x4 + (2 : Int32)) = nI i_9) (c_11 : i_9 < n_1) (f_13 : S.2.1 a0 i_9 = .int y12) (t_17 : S.1 a2 = some (.inl 10)) (m_18 : cti ext d 94 [.ref a2, .int y7, .int y12] S P_14) (k_19 : ∀ v_16 S_15, P_14 v_16 S_15 → aw ext (d + 1) 98 673 [some (.ref a0), some (va_rf r1), some (.ref a2), some (va_rf r3), some (.int x4), o5, o6] [.int v_16, .int xk0] S_15 Q) : aw ext (d + 1) 98 657 [some (.ref a0), some (va_rf r1), some (.ref a2), some (va_rf r3), some (.int x4), o5, o6] [.int xk0] S Q := by
  refine aw_ald j98_657 rfl rfl ?_
  refine aw_ald j98_658 rfl rfl ?_
  refine aw_ild j98_659 rfl ?_
  refine aw_con j98_661 ?_
  refine aw_bin (z := (x4 + (1 : Int32))) j98_662 rfl ?_
  refine aw_xldR j98_663 t_2 e_5 c_6 b_3 f_8 ?_
  refine aw_ald j98_664 rfl rfl ?_
  refine aw_ild j98_665 rfl ?_
  refine aw_con j98_667 ?_
  refine aw_bin (z := (x4 + (2 : Int32))) j98_668 rfl ?_
  refine aw_xldR j98_669 t_2 e_10 c_11 b_3 f_13 ?_
  exact aw_calli (as := [.ref a2, .int y7, .int y12]) j98_670 rfl rfl (Nat.le_of_ble_eq_true rfl) cy94.1 cy94.2 (cs_cons rfl (cs_cons rfl (cs_cons rfl cs_nil))) (decide_eq_true t_17) m_18 k_19
theorem bk98_673 {r0 : Option Nat} {r1 : Option Nat} {r2 : Option Nat} {r3 : Option Nat} {x4 : Int32} {o5 : Option Value} {o6 : Option Value} {xk0 : Int32} {xk1 : Int32}  (k_1 : (xk0 = xk1) → aw ext d 98 715 [some (va_rf r0), some (va_rf r1), some (va_rf r2), some (va_rf r3), some (.int x4), o5, o6] [] S Q) (k_2 : (¬ (xk0 = xk1)) → aw ext d 98 676 [some (va_rf r0), some (va_rf r1), some (va_rf r2), some (va_rf r3), some (.int x4), o5, o6] [] S Q) : aw ext d 98 673 [some (va_rf r0), some (va_rf r1), some (va_rf r2), some (va_rf r3), some (.int x4), o5, o6] [.int xk1, .int xk0] S Q := by
  exact aw_ic j98_673 (fun h => k_1 (of_decide_eq_true h)) (fun h => k_2 (of_decide_eq_false h))
theorem bk98_676 {r0 : Option Nat} {r1 : Option Nat} {r2 : Option Nat} {r3 : Option Nat} {x4 : Int32} {o5 : Option Value} {o6 : Option Value}  (k_1 : Q (some (.int (0 : Int32))) S) : aw ext d 98 676 [some (va_rf r0), some (va_rf r1), some (va_rf r2), some (va_rf r3), some (.int x4), o5, o6] [] S Q := by
  refine aw_con j98_676 ?_
  exact aw_ret j98_677 (by rw [rt98]; exact rfl) k_1
theorem bk98_678 {a0 : Nat} {a1 : Nat} {r2 : Option Nat} {r3 : Option Nat} {x4 : Int32} {o5 : Option Value} {o6 : Option Value} {n_1 : Nat} {i_4 : Nat} {y7 : Int32} {i_9 : Nat} {y12 : Int32} {P_14 : Int32 → av_St → Prop} (t_2 : S.1 a0 = some (.inr (50, n_1))) (b_3 : n_1 < 2147483648) (e_5 : (x4 + (1 : Int32)) = nI i_4) (c_6 : i_4 < n_1) (f_8 : S.2.1 a0 i_4 = .int y7) (e_10 : (x4 + (2 : Int32)) = nI i_9) (c_11 : i_9 < n_1) (f_13 : S.2.1 a0 i_9 = .int y12) (t_17 : S.1 a1 = some (.inl 0)) (m_18 : cti ext d 23 [.ref a1, .int y7, .int y12] S P_14) (k_19 : ∀ v_16 S_15, P_14 v_16 S_15 → aw ext (d + 1) 98 694 [some (.ref a0), some (.ref a1), some (va_rf r2), some (va_rf r3), some (.int x4), o5, o6] [.int v_16] S_15 Q) : aw ext (d + 1) 98 678 [some (.ref a0), some (.ref a1), some (va_rf r2), some (va_rf r3), some (.int x4), o5, o6] [] S Q := by
  refine aw_ald j98_678 rfl rfl ?_
  refine aw_ald j98_679 rfl rfl ?_
  refine aw_ild j98_680 rfl ?_
  refine aw_con j98_682 ?_
  refine aw_bin (z := (x4 + (1 : Int32))) j98_683 rfl ?_
  refine aw_xldR j98_684 t_2 e_5 c_6 b_3 f_8 ?_
  refine aw_ald j98_685 rfl rfl ?_
  refine aw_ild j98_686 rfl ?_
  refine aw_con j98_688 ?_
  refine aw_bin (z := (x4 + (2 : Int32))) j98_689 rfl ?_
  refine aw_xldR j98_690 t_2 e_10 c_11 b_3 f_13 ?_
  exact aw_calli (as := [.ref a1, .int y7, .int y12]) j98_691 rfl rfl (Nat.le_of_ble_eq_true rfl) cy23.1 cy23.2 (cs_cons rfl (cs_cons rfl (cs_cons rfl cs_nil))) (decide_eq_true t_17) m_18 k_19
theorem bk98_694 {a0 : Nat} {r1 : Option Nat} {a2 : Nat} {r3 : Option Nat} {x4 : Int32} {o5 : Option Value} {o6 : Option Value} {xk0 : Int32} {n_1 : Nat} {i_4 : Nat} {y7 : Int32} {i_9 : Nat} {y12 : Int32} {P_14 : Int32 → av_St → Prop} (t_2 : S.1 a0 = some (.inr (50, n_1))) (b_3 : n_1 < 2147483648) (e_5 : (x4 + (1 : Int32)) = nI i_4) (c_6 : i_4 < n_1) (f_8 : S.2.1 a0 i_4 = .int y7) (e_10 : (x4 + (2 : Int32)) = nI i_9) (c_11 : i_9 < n_1) (f_13 : S.2.1 a0 i_9 = .int y12) (t_17 : S.1 a2 = some (.inl 10)) (m_18 : cti ext d 95 [.ref a2, .int y7, .int y12] S P_14) (k_19 : ∀ v_16 S_15, P_14 v_16 S_15 → aw ext (d + 1) 98 710 [some (.ref a0), some (va_rf r1), some (.ref a2), some (va_rf r3), some (.int x4), o5, o6] [.int v_16, .int xk0] S_15 Q) : aw ext (d + 1) 98 694 [some (.ref a0), some (va_rf r1), some (.ref a2), some (va_rf r3), some (.int x4), o5, o6] [.int xk0] S Q := by
  refine aw_ald j98_694 rfl rfl ?_
  refine aw_ald j98_695 rfl rfl ?_
  refine aw_ild j98_696 rfl ?_
  refine aw_con j98_698 ?_
  refine aw_bin (z := (x4 + (1 : Int32))) j98_699 rfl ?_
  refine aw_xldR j98_700 t_2 e_5 c_6 b_3 f_8 ?_
  refine aw_ald j98_701 rfl rfl ?_
  refine aw_ild j98_702 rfl ?_
  refine aw_con j98_704 ?_
  refine aw_bin (z := (x4 + (2 : Int32))) j98_705 rfl ?_
  refine aw_xldR j98_706 t_2 e_10 c_11 b_3 f_13 ?_
  exact aw_calli (as := [.ref a2, .int y7, .int y12]) j98_707 rfl rfl (Nat.le_of_ble_eq_true rfl) cy95.1 cy95.2 (cs_cons rfl (cs_cons rfl (cs_cons rfl cs_nil))) (decide_eq_true t_17) m_18 k_19
theorem bk98_710 {r0 : Option Nat} {r1 : Option Nat} {r2 : Option Nat} {r3 : Option Nat} {x4 : Int32} {o5 : Option Value} {o6 : Option Value} {xk0 : Int32} {xk1 : Int32}  (k_1 : (xk0 = xk1) → aw ext d 98 715 [some (va_rf r0), some (va_rf r1), some (va_rf r2), some (va_rf r3), some (.int x4), o5, o6] [] S Q) (k_2 : (¬ (xk0 = xk1)) → aw ext d 98 713 [some (va_rf r0), some (va_rf r1), some (va_rf r2), some (va_rf r3), some (.int x4), o5, o6] [] S Q) : aw ext d 98 710 [some (va_rf r0), some (va_rf r1), some (va_rf r2), some (va_rf r3), some (.int x4), o5, o6] [.int xk1, .int xk0] S Q := by
  exact aw_ic j98_710 (fun h => k_1 (of_decide_eq_true h)) (fun h => k_2 (of_decide_eq_false h))
theorem bk98_713 {r0 : Option Nat} {r1 : Option Nat} {r2 : Option Nat} {r3 : Option Nat} {x4 : Int32} {o5 : Option Value} {o6 : Option Value}  (k_1 : Q (some (.int (0 : Int32))) S) : aw ext d 98 713 [some (va_rf r0), some (va_rf r1), some (va_rf r2), some (va_rf r3), some (.int x4), o5, o6] [] S Q := by
  refine aw_con j98_713 ?_
  exact aw_ret j98_714 (by rw [rt98]; exact rfl) k_1
theorem bk98_715 {r0 : Option Nat} {r1 : Option Nat} {r2 : Option Nat} {r3 : Option Nat} {x4 : Int32} {o5 : Option Value} {o6 : Option Value}  (k_1 : aw ext d 98 23 [some (va_rf r0), some (va_rf r1), some (va_rf r2), some (va_rf r3), some (.int (x4 + 5)), o5, o6] [] S Q) : aw ext d 98 715 [some (va_rf r0), some (va_rf r1), some (va_rf r2), some (va_rf r3), some (.int x4), o5, o6] [] S Q := by
  refine aw_inc j98_715 rfl ?_
  exact aw_goto j98_718 k_1
theorem bk98_721 {r0 : Option Nat} {r1 : Option Nat} {r2 : Option Nat} {r3 : Option Nat} {x4 : Int32} {o5 : Option Value} {o6 : Option Value}  (k_1 : Q (some (.int (1 : Int32))) S) : aw ext d 98 721 [some (va_rf r0), some (va_rf r1), some (va_rf r2), some (va_rf r3), some (.int x4), o5, o6] [] S Q := by
  refine aw_con j98_721 ?_
  exact aw_ret j98_722 (by rw [rt98]; exact rfl) k_1
end
