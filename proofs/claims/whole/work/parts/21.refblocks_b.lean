section
variable {ext : av_X} {X : rX} {d : Nat} {W : rW} {Q : Option Value → rW → Prop}
/-! Ref_goes -/
theorem br84_0 {x1 : Int32} {kr : Nat} {o3 : Option Value} {o4 : Option Value} {o5 : Option Value} {o6 : Option Value} {o7 : Option Value} {P_2 : rW → Prop} (w_1 : rl_ar kr = true ∧ rl_kd kr = 0 ∧ rl_len kr = 25000) (m_5 : rCv ext X d 81 [.ref X.1, .int ((-1 : Int32) - x1), .int (-1 : Int32)] (hset W 17 (0 : Int32)) P_2) (k_6 : ∀ W_3, P_2 W_3 → rA ext X (d + 1) 84 18 [some (.ref X.1), some (.int x1), some (.ref (X.2.1 kr)), some (.int (0 : Int32)), some (.int (0 : Int32)), o5, o6, o7] [] W_3 Q) : rA ext X (d + 1) 84 0 [some (.ref X.1), some (.int x1), some (.ref (X.2.1 kr)), o3, o4, o5, o6, o7] [] W Q := by
  intro S hS
  refine aw_con j84_0 ?_
  refine aw_ist j84_1 (Nat.le_of_ble_eq_true rfl) ?_
  refine aw_con j84_2 ?_
  refine aw_ist j84_3 (Nat.le_of_ble_eq_true rfl) ?_
  refine aw_ald j84_5 rfl rfl ?_
  refine aw_con j84_6 ?_
  refine aw_put j84_7 hS.to rfl ?_
  have hS := hS.seth 17 (0 : Int32) rfl
  refine aw_ald j84_10 rfl rfl ?_
  refine aw_con j84_11 ?_
  refine aw_ild j84_12 rfl ?_
  refine aw_bin (z := ((-1 : Int32) - x1)) j84_13 rfl ?_
  refine aw_con j84_14 ?_
  refine aw_callv (as := [.ref X.1, .int ((-1 : Int32) - x1), .int (-1 : Int32)]) j84_15 rfl rfl (Nat.le_of_ble_eq_true rfl) cy81.1 cy81.2 (cs_cons rfl (cs_cons rfl (cs_cons rfl cs_nil))) (decide_eq_true hS.to) (m_5 _ hS) (fun S1 h1 => ?_)
  obtain ⟨W1, h1, h2⟩ := h1
  exact k_6 W1 h2 S1 h1
theorem br84_18 {x1 : Int32} {kr : Nat} {x3 : Int32} {x4 : Int32} {o5 : Option Value} {o6 : Option Value} {o7 : Option Value} (w_1 : rl_ar kr = true ∧ rl_kd kr = 0 ∧ rl_len kr = 25000) (k_2 : ((W.2 17) ≤ 0) → rA ext X d 84 243 [some (.ref X.1), some (.int x1), some (.ref (X.2.1 kr)), some (.int x3), some (.int x4), o5, o6, o7] [] W Q) (k_3 : (¬ ((W.2 17) ≤ 0)) → rA ext X d 84 25 [some (.ref X.1), some (.int x1), some (.ref (X.2.1 kr)), some (.int x3), some (.int x4), o5, o6, o7] [] W Q) : rA ext X d 84 18 [some (.ref X.1), some (.int x1), some (.ref (X.2.1 kr)), some (.int x3), some (.int x4), o5, o6, o7] [] W Q := by
  intro S hS
  refine aw_ald j84_18 rfl rfl ?_
  refine aw_get j84_19 hS.to (hS.n 17 rfl) ?_
  exact aw_if j84_22 (fun h => k_2 (of_decide_eq_true h) _ hS) (fun h => k_3 (of_decide_eq_false h) _ hS)
theorem br84_25 {x1 : Int32} {kr : Nat} {x3 : Int32} {x4 : Int32} {o5 : Option Value} {o6 : Option Value} {o7 : Option Value} (w_1 : rl_ar kr = true ∧ rl_kd kr = 0 ∧ rl_len kr = 25000) (k_2 : ((1000 : Int32) ≤ x4) → rA ext X d 84 243 [some (.ref X.1), some (.int x1), some (.ref (X.2.1 kr)), some (.int x3), some (.int x4), o5, o6, o7] [] W Q) (k_3 : (¬ ((1000 : Int32) ≤ x4)) → rA ext X d 84 33 [some (.ref X.1), some (.int x1), some (.ref (X.2.1 kr)), some (.int x3), some (.int x4), o5, o6, o7] [] W Q) : rA ext X d 84 25 [some (.ref X.1), some (.int x1), some (.ref (X.2.1 kr)), some (.int x3), some (.int x4), o5, o6, o7] [] W Q := by
  intro S hS
  refine aw_ild j84_25 rfl ?_
  refine aw_con j84_27 ?_
  exact aw_ic j84_30 (fun h => k_2 (of_decide_eq_true h) _ hS) (fun h => k_3 (of_decide_eq_false h) _ hS)
theorem br84_33 {x1 : Int32} {kr : Nat} {x3 : Int32} {x4 : Int32} {o5 : Option Value} {o6 : Option Value} {o7 : Option Value} {i_2 : Nat} {i_5 : Nat} (w_1 : rl_ar kr = true ∧ rl_kd kr = 0 ∧ rl_len kr = 25000) (e_3 : ((hset W 17 ((W.2 17) - (1 : Int32))).2 17) = nI i_2) (c_4 : i_2 < 1000) (e_6 : ((hset W 17 ((W.2 17) - (1 : Int32))).2 17) = nI i_5) (c_7 : i_5 < 1000) (k_8 : (((hset W 17 ((W.2 17) - (1 : Int32))).1 16 i_5) < 0) → rA ext X d 84 81 [some (.ref X.1), some (.int x1), some (.ref (X.2.1 kr)), some (.int x3), some (.int (x4 + 1)), some (.int ((hset W 17 ((W.2 17) - (1 : Int32))).1 15 i_2)), o6, o7] [] (hset W 17 ((W.2 17) - (1 : Int32))) Q) (k_9 : (¬ (((hset W 17 ((W.2 17) - (1 : Int32))).1 16 i_5) < 0)) → rA ext X d 84 69 [some (.ref X.1), some (.int x1), some (.ref (X.2.1 kr)), some (.int x3), some (.int (x4 + 1)), some (.int ((hset W 17 ((W.2 17) - (1 : Int32))).1 15 i_2)), o6, o7] [] (hset W 17 ((W.2 17) - (1 : Int32))) Q) : rA ext X d 84 33 [some (.ref X.1), some (.int x1), some (.ref (X.2.1 kr)), some (.int x3), some (.int x4), o5, o6, o7] [] W Q := by
  intro S hS
  refine aw_ald j84_33 rfl rfl ?_
  refine aw_dup j84_34 rfl ?_
  refine aw_get j84_35 hS.to (hS.n 17 rfl) ?_
  refine aw_con j84_38 ?_
  refine aw_bin (z := ((W.2 17) - (1 : Int32))) j84_39 rfl ?_
  refine aw_put j84_40 hS.to rfl ?_
  have hS := hS.seth 17 ((W.2 17) - (1 : Int32)) rfl
  refine aw_inc j84_43 rfl ?_
  refine aw_ald j84_46 rfl rfl ?_
  refine aw_get j84_47 hS.to (hS.fa 15 rfl) ?_
  refine aw_ald j84_50 rfl rfl ?_
  refine aw_get j84_51 hS.to (hS.n 17 rfl) ?_
  refine aw_xld (n := 1000) j84_54 (hS.ta 15 rfl) e_3 c_4 (by decide) (hS.g 15 i_2 rfl c_4) ?_
  refine aw_ist j84_55 (Nat.le_of_ble_eq_true rfl) ?_
  refine aw_ald j84_57 rfl rfl ?_
  refine aw_get j84_58 hS.to (hS.fa 16 rfl) ?_
  refine aw_ald j84_61 rfl rfl ?_
  refine aw_get j84_62 hS.to (hS.n 17 rfl) ?_
  refine aw_xld (n := 1000) j84_65 (hS.ta 16 rfl) e_6 c_7 (by decide) (hS.g 16 i_5 rfl c_7) ?_
  exact aw_if j84_66 (fun h => k_8 (of_decide_eq_true h) _ hS) (fun h => k_9 (of_decide_eq_false h) _ hS)
theorem br84_69 {x1 : Int32} {kr : Nat} {x3 : Int32} {x4 : Int32} {x5 : Int32} {o6 : Option Value} {o7 : Option Value} {i_2 : Nat} (w_1 : rl_ar kr = true ∧ rl_kd kr = 0 ∧ rl_len kr = 25000) (e_3 : (W.2 17) = nI i_2) (c_4 : i_2 < 1000) (k_5 : rA ext X d 84 83 [some (.ref X.1), some (.int x1), some (.ref (X.2.1 kr)), some (.int x3), some (.int x4), some (.int x5), o6, o7] [.int (W.1 16 i_2)] W Q) : rA ext X d 84 69 [some (.ref X.1), some (.int x1), some (.ref (X.2.1 kr)), some (.int x3), some (.int x4), some (.int x5), o6, o7] [] W Q := by
  intro S hS
  refine aw_ald j84_69 rfl rfl ?_
  refine aw_get j84_70 hS.to (hS.fa 16 rfl) ?_
  refine aw_ald j84_73 rfl rfl ?_
  refine aw_get j84_74 hS.to (hS.n 17 rfl) ?_
  refine aw_xld (n := 1000) j84_77 (hS.ta 16 rfl) e_3 c_4 (by decide) (hS.g 16 i_2 rfl c_4) ?_
  exact aw_goto j84_78 (k_5 _ hS)
theorem br84_81 {x1 : Int32} {kr : Nat} {x3 : Int32} {x4 : Int32} {x5 : Int32} {o6 : Option Value} {o7 : Option Value} (w_1 : rl_ar kr = true ∧ rl_kd kr = 0 ∧ rl_len kr = 25000) (k_2 : rA ext X d 84 83 [some (.ref X.1), some (.int x1), some (.ref (X.2.1 kr)), some (.int x3), some (.int x4), some (.int x5), o6, o7] [.int x5] W Q) : rA ext X d 84 81 [some (.ref X.1), some (.int x1), some (.ref (X.2.1 kr)), some (.int x3), some (.int x4), some (.int x5), o6, o7] [] W Q := by
  intro S hS
  refine aw_ild j84_81 rfl ?_
  exact k_2 _ hS
theorem br84_83 {x1 : Int32} {kr : Nat} {x3 : Int32} {x4 : Int32} {x5 : Int32} {o6 : Option Value} {o7 : Option Value} {xk0 : Int32} (w_1 : rl_ar kr = true ∧ rl_kd kr = 0 ∧ rl_len kr = 25000) (k_2 : rA ext X d 84 91 [some (.ref X.1), some (.int x1), some (.ref (X.2.1 kr)), some (.int x3), some (.int x4), some (.int x5), some (.int xk0), some (.int ((5 : Int32) * x5))] [] W Q) : rA ext X d 84 83 [some (.ref X.1), some (.int x1), some (.ref (X.2.1 kr)), some (.int x3), some (.int x4), some (.int x5), o6, o7] [.int xk0] W Q := by
  intro S hS
  refine aw_ist j84_83 (Nat.le_of_ble_eq_true rfl) ?_
  refine aw_con j84_85 ?_
  refine aw_ild j84_86 rfl ?_
  refine aw_bin (z := ((5 : Int32) * x5)) j84_88 rfl ?_
  refine aw_ist j84_89 (Nat.le_of_ble_eq_true rfl) ?_
  exact k_2 _ hS
theorem br84_91 {x1 : Int32} {kr : Nat} {x3 : Int32} {x4 : Int32} {x5 : Int32} {x6 : Int32} {x7 : Int32} {i_2 : Nat} (w_1 : rl_ar kr = true ∧ rl_kd kr = 0 ∧ rl_len kr = 25000) (e_3 : x5 = nI i_2) (c_4 : i_2 < 120) (k_5 : ((((5 : Int32) * x5) + (W.1 11 i_2)) ≤ x7) → rA ext X d 84 175 [some (.ref X.1), some (.int x1), some (.ref (X.2.1 kr)), some (.int x3), some (.int x4), some (.int x5), some (.int x6), some (.int x7)] [] W Q) (k_6 : (¬ ((((5 : Int32) * x5) + (W.1 11 i_2)) ≤ x7)) → rA ext X d 84 108 [some (.ref X.1), some (.int x1), some (.ref (X.2.1 kr)), some (.int x3), some (.int x4), some (.int x5), some (.int x6), some (.int x7)] [] W Q) : rA ext X d 84 91 [some (.ref X.1), some (.int x1), some (.ref (X.2.1 kr)), some (.int x3), some (.int x4), some (.int x5), some (.int x6), some (.int x7)] [] W Q := by
  intro S hS
  refine aw_ild j84_91 rfl ?_
  refine aw_con j84_93 ?_
  refine aw_ild j84_94 rfl ?_
  refine aw_bin (z := ((5 : Int32) * x5)) j84_96 rfl ?_
  refine aw_ald j84_97 rfl rfl ?_
  refine aw_get j84_98 hS.to (hS.fa 11 rfl) ?_
  refine aw_ild j84_101 rfl ?_
  refine aw_xld (n := 120) j84_103 (hS.ta 11 rfl) e_3 c_4 (by decide) (hS.g 11 i_2 rfl c_4) ?_
  refine aw_bin (z := (((5 : Int32) * x5) + (W.1 11 i_2))) j84_104 rfl ?_
  exact aw_ic j84_105 (fun h => k_5 (of_decide_eq_true h) _ hS) (fun h => k_6 (of_decide_eq_false h) _ hS)
theorem br84_108 {x1 : Int32} {kr : Nat} {x3 : Int32} {x4 : Int32} {x5 : Int32} {x6 : Int32} {x7 : Int32} {i_2 : Nat} {i_5 : Nat} {i_8 : Nat} {i_11 : Nat} {i_14 : Nat} {i_17 : Nat} {i_20 : Nat} {i_23 : Nat} (w_1 : rl_ar kr = true ∧ rl_kd kr = 0 ∧ rl_len kr = 25000) (e_3 : ((5 : Int32) * x3) = nI i_2) (c_4 : i_2 < 25000) (e_6 : x7 = nI i_5) (c_7 : i_5 < 600) (e_9 : (((5 : Int32) * x3) + (1 : Int32)) = nI i_8) (c_10 : i_8 < 25000) (e_12 : x7 = nI i_11) (c_13 : i_11 < 600) (e_15 : (((5 : Int32) * x3) + (2 : Int32)) = nI i_14) (c_16 : i_14 < 25000) (e_18 : x7 = nI i_17) (c_19 : i_17 < 600) (e_21 : (((5 : Int32) * x3) + (3 : Int32)) = nI i_20) (c_22 : i_20 < 25000) (e_24 : (((5 : Int32) * x3) + (4 : Int32)) = nI i_23) (c_25 : i_23 < 25000) (k_26 : rA ext X d 84 91 [some (.ref X.1), some (.int x1), some (.ref (X.2.1 kr)), some (.int (x3 + 1)), some (.int x4), some (.int x5), some (.int x6), some (.int (x7 + 1))] [] (gset (gset (gset (gset (gset W kr i_2 x5) kr i_8 ((gset W kr i_2 x5).1 12 i_5)) kr i_14 ((gset (gset W kr i_2 x5) kr i_8 ((gset W kr i_2 x5).1 12 i_5)).1 13 i_11)) kr i_20 ((gset (gset (gset W kr i_2 x5) kr i_8 ((gset W kr i_2 x5).1 12 i_5)) kr i_14 ((gset (gset W kr i_2 x5) kr i_8 ((gset W kr i_2 x5).1 12 i_5)).1 13 i_11)).1 14 i_17)) kr i_23 x6) Q) : rA ext X d 84 108 [some (.ref X.1), some (.int x1), some (.ref (X.2.1 kr)), some (.int x3), some (.int x4), some (.int x5), some (.int x6), some (.int x7)] [] W Q := by
  intro S hS
  refine aw_ald j84_108 rfl rfl ?_
  refine aw_con j84_109 ?_
  refine aw_ild j84_110 rfl ?_
  refine aw_bin (z := ((5 : Int32) * x3)) j84_111 rfl ?_
  refine aw_ild j84_112 rfl ?_
  refine aw_xst (n := 25000) j84_114 ((hS.ta kr w_1.1).trans (by rw [w_1.2.1, w_1.2.2])) e_3 c_4 (by decide) ?_
  have hS := hS.seta kr i_2 x5 w_1.1
  refine aw_ald j84_115 rfl rfl ?_
  refine aw_con j84_116 ?_
  refine aw_ild j84_117 rfl ?_
  refine aw_bin (z := ((5 : Int32) * x3)) j84_118 rfl ?_
  refine aw_con j84_119 ?_
  refine aw_bin (z := (((5 : Int32) * x3) + (1 : Int32))) j84_120 rfl ?_
  refine aw_ald j84_121 rfl rfl ?_
  refine aw_get j84_122 hS.to (hS.fa 12 rfl) ?_
  refine aw_ild j84_125 rfl ?_
  refine aw_xld (n := 600) j84_127 (hS.ta 12 rfl) e_6 c_7 (by decide) (hS.g 12 i_5 rfl c_7) ?_
  refine aw_xst (n := 25000) j84_128 ((hS.ta kr w_1.1).trans (by rw [w_1.2.1, w_1.2.2])) e_9 c_10 (by decide) ?_
  have hS := hS.seta kr i_8 ((gset W kr i_2 x5).1 12 i_5) w_1.1
  refine aw_ald j84_129 rfl rfl ?_
  refine aw_con j84_130 ?_
  refine aw_ild j84_131 rfl ?_
  refine aw_bin (z := ((5 : Int32) * x3)) j84_132 rfl ?_
  refine aw_con j84_133 ?_
  refine aw_bin (z := (((5 : Int32) * x3) + (2 : Int32))) j84_134 rfl ?_
  refine aw_ald j84_135 rfl rfl ?_
  refine aw_get j84_136 hS.to (hS.fa 13 rfl) ?_
  refine aw_ild j84_139 rfl ?_
  refine aw_xld (n := 600) j84_141 (hS.ta 13 rfl) e_12 c_13 (by decide) (hS.g 13 i_11 rfl c_13) ?_
  refine aw_xst (n := 25000) j84_142 ((hS.ta kr w_1.1).trans (by rw [w_1.2.1, w_1.2.2])) e_15 c_16 (by decide) ?_
  have hS := hS.seta kr i_14 ((gset (gset W kr i_2 x5) kr i_8 ((gset W kr i_2 x5).1 12 i_5)).1 13 i_11) w_1.1
  refine aw_ald j84_143 rfl rfl ?_
  refine aw_con j84_144 ?_
  refine aw_ild j84_145 rfl ?_
  refine aw_bin (z := ((5 : Int32) * x3)) j84_146 rfl ?_
  refine aw_con j84_147 ?_
  refine aw_bin (z := (((5 : Int32) * x3) + (3 : Int32))) j84_148 rfl ?_
  refine aw_ald j84_149 rfl rfl ?_
  refine aw_get j84_150 hS.to (hS.fa 14 rfl) ?_
  refine aw_ild j84_153 rfl ?_
  refine aw_xld (n := 600) j84_155 (hS.ta 14 rfl) e_18 c_19 (by decide) (hS.g 14 i_17 rfl c_19) ?_
  refine aw_xst (n := 25000) j84_156 ((hS.ta kr w_1.1).trans (by rw [w_1.2.1, w_1.2.2])) e_21 c_22 (by decide) ?_
  have hS := hS.seta kr i_20 ((gset (gset (gset W kr i_2 x5) kr i_8 ((gset W kr i_2 x5).1 12 i_5)) kr i_14 ((gset (gset W kr i_2 x5) kr i_8 ((gset W kr i_2 x5).1 12 i_5)).1 13 i_11)).1 14 i_17) w_1.1
  refine aw_ald j84_157 rfl rfl ?_
  refine aw_con j84_158 ?_
  refine aw_ild j84_159 rfl ?_
  refine aw_bin (z := ((5 : Int32) * x3)) j84_160 rfl ?_
  refine aw_con j84_161 ?_
  refine aw_bin (z := (((5 : Int32) * x3) + (4 : Int32))) j84_162 rfl ?_
  refine aw_ild j84_163 rfl ?_
  refine aw_xst (n := 25000) j84_165 ((hS.ta kr w_1.1).trans (by rw [w_1.2.1, w_1.2.2])) e_24 c_25 (by decide) ?_
  have hS := hS.seta kr i_23 x6 w_1.1
  refine aw_inc j84_166 rfl ?_
  refine aw_inc j84_169 rfl ?_
  exact aw_goto j84_172 (k_26 _ hS)
theorem br84_175 {x1 : Int32} {kr : Nat} {x3 : Int32} {x4 : Int32} {x5 : Int32} {x6 : Int32} {x7 : Int32} {i_2 : Nat} (w_1 : rl_ar kr = true ∧ rl_kd kr = 0 ∧ rl_len kr = 25000) (e_3 : x5 = nI i_2) (c_4 : i_2 < 120) (k_5 : ((W.1 10 i_2) < 0) → rA ext X d 84 225 [some (.ref X.1), some (.int x1), some (.ref (X.2.1 kr)), some (.int x3), some (.int x4), some (.int x5), some (.int x6), some (.int x7)] [] W Q) (k_6 : (¬ ((W.1 10 i_2) < 0)) → rA ext X d 84 185 [some (.ref X.1), some (.int x1), some (.ref (X.2.1 kr)), some (.int x3), some (.int x4), some (.int x5), some (.int x6), some (.int x7)] [] W Q) : rA ext X d 84 175 [some (.ref X.1), some (.int x1), some (.ref (X.2.1 kr)), some (.int x3), some (.int x4), some (.int x5), some (.int x6), some (.int x7)] [] W Q := by
  intro S hS
  refine aw_ald j84_175 rfl rfl ?_
  refine aw_get j84_176 hS.to (hS.fa 10 rfl) ?_
  refine aw_ild j84_179 rfl ?_
  refine aw_xld (n := 120) j84_181 (hS.ta 10 rfl) e_3 c_4 (by decide) (hS.g 10 i_2 rfl c_4) ?_
  exact aw_if j84_182 (fun h => k_5 (of_decide_eq_true h) _ hS) (fun h => k_6 (of_decide_eq_false h) _ hS)
theorem br84_185 {x1 : Int32} {kr : Nat} {x3 : Int32} {x4 : Int32} {x5 : Int32} {x6 : Int32} {x7 : Int32} {i_2 : Nat} {i_5 : Nat} {i_8 : Nat} (w_1 : rl_ar kr = true ∧ rl_kd kr = 0 ∧ rl_len kr = 25000) (e_3 : x5 = nI i_2) (c_4 : i_2 < 120) (e_6 : (W.2 17) = nI i_5) (c_7 : i_5 < 1000) (e_9 : ((gset W 15 i_5 (W.1 10 i_2)).2 17) = nI i_8) (c_10 : i_8 < 1000) (k_11 : rA ext X d 84 240 [some (.ref X.1), some (.int x1), some (.ref (X.2.1 kr)), some (.int x3), some (.int x4), some (.int x5), some (.int x6), some (.int x7)] [] (hset (gset (gset W 15 i_5 (W.1 10 i_2)) 16 i_8 x6) 17 (((gset (gset W 15 i_5 (W.1 10 i_2)) 16 i_8 x6).2 17) + (1 : Int32))) Q) : rA ext X d 84 185 [some (.ref X.1), some (.int x1), some (.ref (X.2.1 kr)), some (.int x3), some (.int x4), some (.int x5), some (.int x6), some (.int x7)] [] W Q := by
  intro S hS
  refine aw_ald j84_185 rfl rfl ?_
  refine aw_get j84_186 hS.to (hS.fa 15 rfl) ?_
  refine aw_ald j84_189 rfl rfl ?_
  refine aw_get j84_190 hS.to (hS.n 17 rfl) ?_
  refine aw_ald j84_193 rfl rfl ?_
  refine aw_get j84_194 hS.to (hS.fa 10 rfl) ?_
  refine aw_ild j84_197 rfl ?_
  refine aw_xld (n := 120) j84_199 (hS.ta 10 rfl) e_3 c_4 (by decide) (hS.g 10 i_2 rfl c_4) ?_
  refine aw_xst (n := 1000) j84_200 (hS.ta 15 rfl) e_6 c_7 (by decide) ?_
  have hS := hS.seta 15 i_5 (W.1 10 i_2) rfl
  refine aw_ald j84_201 rfl rfl ?_
  refine aw_get j84_202 hS.to (hS.fa 16 rfl) ?_
  refine aw_ald j84_205 rfl rfl ?_
  refine aw_get j84_206 hS.to (hS.n 17 rfl) ?_
  refine aw_ild j84_209 rfl ?_
  refine aw_xst (n := 1000) j84_211 (hS.ta 16 rfl) e_9 c_10 (by decide) ?_
  have hS := hS.seta 16 i_8 x6 rfl
  refine aw_ald j84_212 rfl rfl ?_
  refine aw_dup j84_213 rfl ?_
  refine aw_get j84_214 hS.to (hS.n 17 rfl) ?_
  refine aw_con j84_217 ?_
  refine aw_bin (z := (((gset (gset W 15 i_5 (W.1 10 i_2)) 16 i_8 x6).2 17) + (1 : Int32))) j84_218 rfl ?_
  refine aw_put j84_219 hS.to rfl ?_
  have hS := hS.seth 17 (((gset (gset W 15 i_5 (W.1 10 i_2)) 16 i_8 x6).2 17) + (1 : Int32)) rfl
  exact aw_goto j84_222 (k_11 _ hS)
theorem br84_225 {x1 : Int32} {kr : Nat} {x3 : Int32} {x4 : Int32} {x5 : Int32} {x6 : Int32} {x7 : Int32} {i_2 : Nat} {P_5 : rW → Prop} (w_1 : rl_ar kr = true ∧ rl_kd kr = 0 ∧ rl_len kr = 25000) (e_3 : (W.2 17) = nI i_2) (c_4 : i_2 < 1000) (m_8 : rCv ext X d 81 [.ref X.1, .int x5, .int (W.1 16 i_2)] W P_5) (k_9 : ∀ W_6, P_5 W_6 → rA ext X (d + 1) 84 240 [some (.ref X.1), some (.int x1), some (.ref (X.2.1 kr)), some (.int x3), some (.int x4), some (.int x5), some (.int x6), some (.int x7)] [] W_6 Q) : rA ext X (d + 1) 84 225 [some (.ref X.1), some (.int x1), some (.ref (X.2.1 kr)), some (.int x3), some (.int x4), some (.int x5), some (.int x6), some (.int x7)] [] W Q := by
  intro S hS
  refine aw_ald j84_225 rfl rfl ?_
  refine aw_ild j84_226 rfl ?_
  refine aw_ald j84_228 rfl rfl ?_
  refine aw_get j84_229 hS.to (hS.fa 16 rfl) ?_
  refine aw_ald j84_232 rfl rfl ?_
  refine aw_get j84_233 hS.to (hS.n 17 rfl) ?_
  refine aw_xld (n := 1000) j84_236 (hS.ta 16 rfl) e_3 c_4 (by decide) (hS.g 16 i_2 rfl c_4) ?_
  refine aw_callv (as := [.ref X.1, .int x5, .int (W.1 16 i_2)]) j84_237 rfl rfl (Nat.le_of_ble_eq_true rfl) cy81.1 cy81.2 (cs_cons rfl (cs_cons rfl (cs_cons rfl cs_nil))) (decide_eq_true hS.to) (m_8 _ hS) (fun S1 h1 => ?_)
  obtain ⟨W1, h1, h2⟩ := h1
  exact k_9 W1 h2 S1 h1
theorem br84_240 {x1 : Int32} {kr : Nat} {x3 : Int32} {x4 : Int32} {x5 : Int32} {x6 : Int32} {x7 : Int32} (w_1 : rl_ar kr = true ∧ rl_kd kr = 0 ∧ rl_len kr = 25000) (k_2 : rA ext X d 84 18 [some (.ref X.1), some (.int x1), some (.ref (X.2.1 kr)), some (.int x3), some (.int x4), some (.int x5), some (.int x6), some (.int x7)] [] W Q) : rA ext X d 84 240 [some (.ref X.1), some (.int x1), some (.ref (X.2.1 kr)), some (.int x3), some (.int x4), some (.int x5), some (.int x6), some (.int x7)] [] W Q := by
  intro S hS
  exact aw_goto j84_240 (k_2 _ hS)
theorem br84_243 {x1 : Int32} {kr : Nat} {x3 : Int32} {x4 : Int32} {o5 : Option Value} {o6 : Option Value} {o7 : Option Value} (w_1 : rl_ar kr = true ∧ rl_kd kr = 0 ∧ rl_len kr = 25000) (k_2 : Q (some (.int x3)) W) : rA ext X d 84 243 [some (.ref X.1), some (.int x1), some (.ref (X.2.1 kr)), some (.int x3), some (.int x4), o5, o6, o7] [] W Q := by
  intro S hS
  refine aw_ild j84_243 rfl ?_
  exact aw_ret j84_244 (by rw [rt84]; exact rfl) ⟨_, hS, k_2⟩
/-! Ref_step -/
theorem br85_0 {x1 : Int32} {x2 : Int32} {P_1 : Int32 → rW → Prop} (m_4 : rCi ext X d 65 [.int x1, .int (0 : Int32), .int (((hset W 0 (0 : Int32)).2 25) - (1 : Int32))] (hset W 0 (0 : Int32)) P_1) (k_5 : ∀ v_3 W_2, P_1 v_3 W_2 → rA ext X (d + 1) 85 16 [some (.ref X.1), some (.int x1), some (.int x2)] [.int v_3] W_2 Q) : rA ext X (d + 1) 85 0 [some (.ref X.1), some (.int x1), some (.int x2)] [] W Q := by
  intro S hS
  refine aw_ald j85_0 rfl rfl ?_
  refine aw_con j85_1 ?_
  refine aw_put j85_2 hS.to rfl ?_
  have hS := hS.seth 0 (0 : Int32) rfl
  refine aw_ild j85_5 rfl ?_
  refine aw_con j85_6 ?_
  refine aw_ald j85_7 rfl rfl ?_
  refine aw_get j85_8 hS.to (hS.n 25 rfl) ?_
  refine aw_con j85_11 ?_
  refine aw_bin (z := (((hset W 0 (0 : Int32)).2 25) - (1 : Int32))) j85_12 rfl ?_
  refine aw_calli (as := [.int x1, .int (0 : Int32), .int (((hset W 0 (0 : Int32)).2 25) - (1 : Int32))]) j85_13 rfl rfl (Nat.le_of_ble_eq_true rfl) cy65.1 cy65.2 (cs_cons rfl (cs_cons rfl (cs_cons rfl cs_nil))) rfl (m_4 _ hS) (fun v1 S1 h1 => ?_)
  obtain ⟨W1, h1, h2⟩ := h1
  exact k_5 v1 W1 h2 S1 h1
theorem br85_16 {x1 : Int32} {x2 : Int32} {xk0 : Int32}  (k_1 : (xk0 = 0) → rA ext X d 85 41 [some (.ref X.1), some (.int x1), some (.int x2)] [] W Q) (k_2 : (¬ (xk0 = 0)) → rA ext X d 85 19 [some (.ref X.1), some (.int x1), some (.int x2)] [] W Q) : rA ext X d 85 16 [some (.ref X.1), some (.int x1), some (.int x2)] [.int xk0] W Q := by
  intro S hS
  exact aw_if j85_16 (fun h => k_1 (of_decide_eq_true h) _ hS) (fun h => k_2 (of_decide_eq_false h) _ hS)
theorem br85_19 {x1 : Int32} {x2 : Int32} {P_1 : Int32 → rW → Prop} (m_4 : rCi ext X d 65 [.int x2, .int (0 : Int32), .int (4 : Int32)] W P_1) (k_5 : ∀ v_3 W_2, P_1 v_3 W_2 → rA ext X (d + 1) 85 25 [some (.ref X.1), some (.int x1), some (.int x2)] [.int v_3] W_2 Q) : rA ext X (d + 1) 85 19 [some (.ref X.1), some (.int x1), some (.int x2)] [] W Q := by
  intro S hS
  refine aw_ild j85_19 rfl ?_
  refine aw_con j85_20 ?_
  refine aw_con j85_21 ?_
  refine aw_calli (as := [.int x2, .int (0 : Int32), .int (4 : Int32)]) j85_22 rfl rfl (Nat.le_of_ble_eq_true rfl) cy65.1 cy65.2 (cs_cons rfl (cs_cons rfl (cs_cons rfl cs_nil))) rfl (m_4 _ hS) (fun v1 S1 h1 => ?_)
  obtain ⟨W1, h1, h2⟩ := h1
  exact k_5 v1 W1 h2 S1 h1
theorem br85_25 {x1 : Int32} {x2 : Int32} {xk0 : Int32}  (k_1 : (xk0 = 0) → rA ext X d 85 41 [some (.ref X.1), some (.int x1), some (.int x2)] [] W Q) (k_2 : (¬ (xk0 = 0)) → rA ext X d 85 28 [some (.ref X.1), some (.int x1), some (.int x2)] [] W Q) : rA ext X d 85 25 [some (.ref X.1), some (.int x1), some (.int x2)] [.int xk0] W Q := by
  intro S hS
  exact aw_if j85_25 (fun h => k_1 (of_decide_eq_true h) _ hS) (fun h => k_2 (of_decide_eq_false h) _ hS)
theorem br85_28 {x1 : Int32} {x2 : Int32} {i_1 : Nat} (e_2 : (((5 : Int32) * x1) + x2) = nI i_1) (c_3 : i_1 < 25000) (k_4 : rA ext X d 85 42 [some (.ref X.1), some (.int x1), some (.int x2)] [.int (W.1 26 i_1)] W Q) : rA ext X d 85 28 [some (.ref X.1), some (.int x1), some (.int x2)] [] W Q := by
  intro S hS
  refine aw_ald j85_28 rfl rfl ?_
  refine aw_get j85_29 hS.to (hS.fa 26 rfl) ?_
  refine aw_con j85_32 ?_
  refine aw_ild j85_33 rfl ?_
  refine aw_bin (z := ((5 : Int32) * x1)) j85_34 rfl ?_
  refine aw_ild j85_35 rfl ?_
  refine aw_bin (z := (((5 : Int32) * x1) + x2)) j85_36 rfl ?_
  refine aw_xld (n := 25000) j85_37 (hS.ta 26 rfl) e_2 c_3 (by decide) (hS.g 26 i_1 rfl c_3) ?_
  exact aw_goto j85_38 (k_4 _ hS)
theorem br85_41 {x1 : Int32} {x2 : Int32}  (k_1 : rA ext X d 85 42 [some (.ref X.1), some (.int x1), some (.int x2)] [.int (-1 : Int32)] W Q) : rA ext X d 85 41 [some (.ref X.1), some (.int x1), some (.int x2)] [] W Q := by
  intro S hS
  refine aw_con j85_41 ?_
  exact k_1 _ hS
theorem br85_42 {x1 : Int32} {x2 : Int32} {xk0 : Int32}  (k_1 : Q (some (.int xk0)) W) : rA ext X d 85 42 [some (.ref X.1), some (.int x1), some (.int x2)] [.int xk0] W Q := by
  intro S hS
  exact aw_ret j85_42 (by rw [rt85]; exact rfl) ⟨_, hS, k_1⟩
/-! Ref_check -/
theorem br86_0 {x1 : Int32} {o2 : Option Value} {P_1 : Int32 → rW → Prop} (m_4 : rCi ext X d 70 [.ref X.1, .int x1] (hset W 0 (0 : Int32)) P_1) (k_5 : ∀ v_3 W_2, P_1 v_3 W_2 → rA ext X (d + 1) 86 10 [some (.ref X.1), some (.int x1), o2] [.int v_3] W_2 Q) : rA ext X (d + 1) 86 0 [some (.ref X.1), some (.int x1), o2] [] W Q := by
  intro S hS
  refine aw_ald j86_0 rfl rfl ?_
  refine aw_con j86_1 ?_
  refine aw_put j86_2 hS.to rfl ?_
  have hS := hS.seth 0 (0 : Int32) rfl
  refine aw_ald j86_5 rfl rfl ?_
  refine aw_ild j86_6 rfl ?_
  refine aw_calli (as := [.ref X.1, .int x1]) j86_7 rfl rfl (Nat.le_of_ble_eq_true rfl) cy70.1 cy70.2 (cs_cons rfl (cs_cons rfl cs_nil)) (decide_eq_true hS.to) (m_4 _ hS) (fun v1 S1 h1 => ?_)
  obtain ⟨W1, h1, h2⟩ := h1
  exact k_5 v1 W1 h2 S1 h1
theorem br86_10 {x1 : Int32} {o2 : Option Value} {xk0 : Int32}  (k_1 : (¬ xk0 = 0) → rA ext X d 86 15 [some (.ref X.1), some (.int x1), o2] [] W Q) (k_2 : (xk0 = 0) → rA ext X d 86 13 [some (.ref X.1), some (.int x1), o2] [] W Q) : rA ext X d 86 10 [some (.ref X.1), some (.int x1), o2] [.int xk0] W Q := by
  intro S hS
  exact aw_if j86_10 (fun h => k_1 (of_decide_eq_true h) _ hS) (fun h => k_2 (Decidable.of_not_not (of_decide_eq_false h)) _ hS)
theorem br86_13 {x1 : Int32} {o2 : Option Value}  (k_1 : Q (some (.int (-1 : Int32))) W) : rA ext X d 86 13 [some (.ref X.1), some (.int x1), o2] [] W Q := by
  intro S hS
  refine aw_con j86_13 ?_
  exact aw_ret j86_14 (by rw [rt86]; exact rfl) ⟨_, hS, k_1⟩
theorem br86_15 {x1 : Int32} {o2 : Option Value}  (k_1 : rA ext X d 86 22 [some (.ref X.1), some (.int x1), some (.int (0 : Int32))] [] (hset W 29 (0 : Int32)) Q) : rA ext X d 86 15 [some (.ref X.1), some (.int x1), o2] [] W Q := by
  intro S hS
  refine aw_ald j86_15 rfl rfl ?_
  refine aw_con j86_16 ?_
  refine aw_put j86_17 hS.to rfl ?_
  have hS := hS.seth 29 (0 : Int32) rfl
  refine aw_con j86_20 ?_
  refine aw_ist j86_21 (Nat.le_of_ble_eq_true rfl) ?_
  exact k_1 _ hS
theorem br86_22 {x1 : Int32} {x2 : Int32}  (k_1 : ((W.2 5) ≤ x2) → rA ext X d 86 51 [some (.ref X.1), some (.int x1), some (.int x2)] [] W Q) (k_2 : (¬ ((W.2 5) ≤ x2)) → rA ext X d 86 30 [some (.ref X.1), some (.int x1), some (.int x2)] [] W Q) : rA ext X d 86 22 [some (.ref X.1), some (.int x1), some (.int x2)] [] W Q := by
  intro S hS
  refine aw_ild j86_22 rfl ?_
  refine aw_ald j86_23 rfl rfl ?_
  refine aw_get j86_24 hS.to (hS.n 5 rfl) ?_
  exact aw_ic j86_27 (fun h => k_1 (of_decide_eq_true h) _ hS) (fun h => k_2 (of_decide_eq_false h) _ hS)
theorem br86_30 {x1 : Int32} {x2 : Int32} {i_1 : Nat} (e_2 : x2 = nI i_1) (c_3 : i_1 < 120) (k_4 : (¬ (W.1 6 i_1) = x1) → rA ext X d 86 45 [some (.ref X.1), some (.int x1), some (.int x2)] [] W Q) (k_5 : ((W.1 6 i_1) = x1) → rA ext X d 86 40 [some (.ref X.1), some (.int x1), some (.int x2)] [] W Q) : rA ext X d 86 30 [some (.ref X.1), some (.int x1), some (.int x2)] [] W Q := by
  intro S hS
  refine aw_ald j86_30 rfl rfl ?_
  refine aw_get j86_31 hS.to (hS.fa 6 rfl) ?_
  refine aw_ild j86_34 rfl ?_
  refine aw_xld (n := 120) j86_35 (hS.ta 6 rfl) e_2 c_3 (by decide) (hS.g 6 i_1 rfl c_3) ?_
  refine aw_ild j86_36 rfl ?_
  exact aw_ic j86_37 (fun h => k_4 (of_decide_eq_true h) _ hS) (fun h => k_5 (Decidable.of_not_not (of_decide_eq_false h)) _ hS)
theorem br86_40 {x1 : Int32} {x2 : Int32} {P_1 : rW → Prop} (m_4 : rCv ext X d 87 [.ref X.1, .int x2] W P_1) (k_5 : ∀ W_2, P_1 W_2 → rA ext X (d + 1) 86 45 [some (.ref X.1), some (.int x1), some (.int x2)] [] W_2 Q) : rA ext X (d + 1) 86 40 [some (.ref X.1), some (.int x1), some (.int x2)] [] W Q := by
  intro S hS
  refine aw_ald j86_40 rfl rfl ?_
  refine aw_ild j86_41 rfl ?_
  refine aw_callv (as := [.ref X.1, .int x2]) j86_42 rfl rfl (Nat.le_of_ble_eq_true rfl) cy87.1 cy87.2 (cs_cons rfl (cs_cons rfl cs_nil)) (decide_eq_true hS.to) (m_4 _ hS) (fun S1 h1 => ?_)
  obtain ⟨W1, h1, h2⟩ := h1
  exact k_5 W1 h2 S1 h1
theorem br86_45 {x1 : Int32} {x2 : Int32}  (k_1 : rA ext X d 86 22 [some (.ref X.1), some (.int x1), some (.int (x2 + 1))] [] W Q) : rA ext X d 86 45 [some (.ref X.1), some (.int x1), some (.int x2)] [] W Q := by
  intro S hS
  refine aw_inc j86_45 rfl ?_
  exact aw_goto j86_48 (k_1 _ hS)
theorem br86_51 {x1 : Int32} {x2 : Int32} {i_1 : Nat} (e_2 : x1 = nI i_1) (c_3 : i_1 < 5) (k_4 : (¬ (W.1 4 i_1) = 0) → rA ext X d 86 94 [some (.ref X.1), some (.int x1), some (.int x2)] [] W Q) (k_5 : ((W.1 4 i_1) = 0) → rA ext X d 86 60 [some (.ref X.1), some (.int x1), some (.int x2)] [] W Q) : rA ext X d 86 51 [some (.ref X.1), some (.int x1), some (.int x2)] [] W Q := by
  intro S hS
  refine aw_ald j86_51 rfl rfl ?_
  refine aw_get j86_52 hS.to (hS.fa 4 rfl) ?_
  refine aw_ild j86_55 rfl ?_
  refine aw_xld (n := 5) j86_56 (hS.ta 4 rfl) e_2 c_3 (by decide) (hS.g 4 i_1 rfl c_3) ?_
  exact aw_if j86_57 (fun h => k_4 (of_decide_eq_true h) _ hS) (fun h => k_5 (Decidable.of_not_not (of_decide_eq_false h)) _ hS)
theorem br86_60 {x1 : Int32} {x2 : Int32} {P_1 : Int32 → rW → Prop} (m_4 : rCi ext X d 84 [.ref X.1, .int x1, .ref (X.2.1 28)] W P_1) (k_5 : ∀ v_3 W_2, P_1 v_3 W_2 → rA ext X (d + 1) 86 70 [some (.ref X.1), some (.int x1), some (.int x2)] [.int v_3, .ref X.1] W_2 Q) : rA ext X (d + 1) 86 60 [some (.ref X.1), some (.int x1), some (.int x2)] [] W Q := by
  intro S hS
  refine aw_ald j86_60 rfl rfl ?_
  refine aw_ald j86_61 rfl rfl ?_
  refine aw_ild j86_62 rfl ?_
  refine aw_ald j86_63 rfl rfl ?_
  refine aw_get j86_64 hS.to (hS.fa 28 rfl) ?_
  refine aw_calli (as := [.ref X.1, .int x1, .ref (X.2.1 28)]) j86_67 rfl rfl (Nat.le_of_ble_eq_true rfl) cy84.1 cy84.2 (cs_cons rfl (cs_cons rfl (cs_cons rfl cs_nil))) (decide_eq_true hS.to) (m_4 _ hS) (fun v1 S1 h1 => ?_)
  obtain ⟨W1, h1, h2⟩ := h1
  exact k_5 v1 W1 h2 S1 h1
theorem br86_70 {x1 : Int32} {x2 : Int32} {xk1 : Int32}  (k_1 : rA ext X d 86 75 [some (.ref X.1), some (.int x1), some (.int (0 : Int32))] [] (hset W 27 xk1) Q) : rA ext X d 86 70 [some (.ref X.1), some (.int x1), some (.int x2)] [.int xk1, .ref X.1] W Q := by
  intro S hS
  refine aw_put j86_70 hS.to rfl ?_
  have hS := hS.seth 27 xk1 rfl
  refine aw_con j86_73 ?_
  refine aw_ist j86_74 (Nat.le_of_ble_eq_true rfl) ?_
  exact k_1 _ hS
theorem br86_75 {x1 : Int32} {x2 : Int32}  (k_1 : ((W.2 1) ≤ x2) → rA ext X d 86 94 [some (.ref X.1), some (.int x1), some (.int x2)] [] W Q) (k_2 : (¬ ((W.2 1) ≤ x2)) → rA ext X d 86 83 [some (.ref X.1), some (.int x1), some (.int x2)] [] W Q) : rA ext X d 86 75 [some (.ref X.1), some (.int x1), some (.int x2)] [] W Q := by
  intro S hS
  refine aw_ild j86_75 rfl ?_
  refine aw_ald j86_76 rfl rfl ?_
  refine aw_get j86_77 hS.to (hS.n 1 rfl) ?_
  exact aw_ic j86_80 (fun h => k_1 (of_decide_eq_true h) _ hS) (fun h => k_2 (of_decide_eq_false h) _ hS)
theorem br86_83 {x1 : Int32} {x2 : Int32} {P_1 : rW → Prop} (m_4 : rCv ext X d 89 [.ref X.1, .int x2] W P_1) (k_5 : ∀ W_2, P_1 W_2 → rA ext X (d + 1) 86 88 [some (.ref X.1), some (.int x1), some (.int x2)] [] W_2 Q) : rA ext X (d + 1) 86 83 [some (.ref X.1), some (.int x1), some (.int x2)] [] W Q := by
  intro S hS
  refine aw_ald j86_83 rfl rfl ?_
  refine aw_ild j86_84 rfl ?_
  refine aw_callv (as := [.ref X.1, .int x2]) j86_85 rfl rfl (Nat.le_of_ble_eq_true rfl) cy89.1 cy89.2 (cs_cons rfl (cs_cons rfl cs_nil)) (decide_eq_true hS.to) (m_4 _ hS) (fun S1 h1 => ?_)
  obtain ⟨W1, h1, h2⟩ := h1
  exact k_5 W1 h2 S1 h1
theorem br86_88 {x1 : Int32} {x2 : Int32}  (k_1 : rA ext X d 86 75 [some (.ref X.1), some (.int x1), some (.int (x2 + 1))] [] W Q) : rA ext X d 86 88 [some (.ref X.1), some (.int x1), some (.int x2)] [] W Q := by
  intro S hS
  refine aw_inc j86_88 rfl ?_
  exact aw_goto j86_91 (k_1 _ hS)
theorem br86_94 {x1 : Int32} {x2 : Int32}  (k_1 : Q (some (.int (W.2 29))) W) : rA ext X d 86 94 [some (.ref X.1), some (.int x1), some (.int x2)] [] W Q := by
  intro S hS
  refine aw_ald j86_94 rfl rfl ?_
  refine aw_get j86_95 hS.to (hS.n 29 rfl) ?_
  exact aw_ret j86_98 (by rw [rt86]; exact rfl) ⟨_, hS, k_1⟩
/-! Ref_checkDivision -/
theorem br87_0 {x1 : Int32} {o2 : Option Value} {o3 : Option Value} {o4 : Option Value} {i_1 : Nat} (e_2 : x1 = nI i_1) (c_3 : i_1 < 120) (k_4 : (¬ (W.1 11 i_1) = 0) → rA ext X d 87 32 [some (.ref X.1), some (.int x1), o2, o3, o4] [] W Q) (k_5 : ((W.1 11 i_1) = 0) → rA ext X d 87 9 [some (.ref X.1), some (.int x1), o2, o3, o4] [] W Q) : rA ext X d 87 0 [some (.ref X.1), some (.int x1), o2, o3, o4] [] W Q := by
  intro S hS
  refine aw_ald j87_0 rfl rfl ?_
  refine aw_get j87_1 hS.to (hS.fa 11 rfl) ?_
  refine aw_ild j87_4 rfl ?_
  refine aw_xld (n := 120) j87_5 (hS.ta 11 rfl) e_2 c_3 (by decide) (hS.g 11 i_1 rfl c_3) ?_
  exact aw_if j87_6 (fun h => k_4 (of_decide_eq_true h) _ hS) (fun h => k_5 (Decidable.of_not_not (of_decide_eq_false h)) _ hS)
theorem br87_9 {x1 : Int32} {o2 : Option Value} {o3 : Option Value} {o4 : Option Value} {P_1 : Int32 → rW → Prop} (m_4 : rCi ext X d 74 [.ref X.1, .int x1] W P_1) (k_5 : ∀ v_3 W_2, P_1 v_3 W_2 → rA ext X (d + 1) 87 14 [some (.ref X.1), some (.int x1), o2, o3, o4] [.int v_3] W_2 Q) : rA ext X (d + 1) 87 9 [some (.ref X.1), some (.int x1), o2, o3, o4] [] W Q := by
  intro S hS
  refine aw_ald j87_9 rfl rfl ?_
  refine aw_ild j87_10 rfl ?_
  refine aw_calli (as := [.ref X.1, .int x1]) j87_11 rfl rfl (Nat.le_of_ble_eq_true rfl) cy74.1 cy74.2 (cs_cons rfl (cs_cons rfl cs_nil)) (decide_eq_true hS.to) (m_4 _ hS) (fun v1 S1 h1 => ?_)
  obtain ⟨W1, h1, h2⟩ := h1
  exact k_5 v1 W1 h2 S1 h1
theorem br87_14 {x1 : Int32} {o2 : Option Value} {o3 : Option Value} {o4 : Option Value} {xk0 : Int32}  (k_1 : (¬ xk0 = 0) → rA ext X d 87 32 [some (.ref X.1), some (.int x1), o2, o3, o4] [] W Q) (k_2 : (xk0 = 0) → rA ext X d 87 17 [some (.ref X.1), some (.int x1), o2, o3, o4] [] W Q) : rA ext X d 87 14 [some (.ref X.1), some (.int x1), o2, o3, o4] [.int xk0] W Q := by
  intro S hS
  exact aw_if j87_14 (fun h => k_1 (of_decide_eq_true h) _ hS) (fun h => k_2 (Decidable.of_not_not (of_decide_eq_false h)) _ hS)
theorem br87_17 {x1 : Int32} {o2 : Option Value} {o3 : Option Value} {o4 : Option Value} {i_1 : Nat} (e_2 : x1 = nI i_1) (c_3 : i_1 < 120) (k_4 : (0 ≤ (W.1 10 i_1)) → rA ext X d 87 32 [some (.ref X.1), some (.int x1), o2, o3, o4] [] W Q) (k_5 : (¬ (0 ≤ (W.1 10 i_1))) → rA ext X d 87 26 [some (.ref X.1), some (.int x1), o2, o3, o4] [] W Q) : rA ext X d 87 17 [some (.ref X.1), some (.int x1), o2, o3, o4] [] W Q := by
  intro S hS
  refine aw_ald j87_17 rfl rfl ?_
  refine aw_get j87_18 hS.to (hS.fa 10 rfl) ?_
  refine aw_ild j87_21 rfl ?_
  refine aw_xld (n := 120) j87_22 (hS.ta 10 rfl) e_2 c_3 (by decide) (hS.g 10 i_1 rfl c_3) ?_
  exact aw_if j87_23 (fun h => k_4 (of_decide_eq_true h) _ hS) (fun h => k_5 (of_decide_eq_false h) _ hS)
theorem br87_26 {x1 : Int32} {o2 : Option Value} {o3 : Option Value} {o4 : Option Value} {P_1 : rW → Prop} (m_4 : rCv ext X d 88 [.ref X.1, .int (1 : Int32), .int x1] W P_1) (k_5 : ∀ W_2, P_1 W_2 → rA ext X (d + 1) 87 32 [some (.ref X.1), some (.int x1), o2, o3, o4] [] W_2 Q) : rA ext X (d + 1) 87 26 [some (.ref X.1), some (.int x1), o2, o3, o4] [] W Q := by
  intro S hS
  refine aw_ald j87_26 rfl rfl ?_
  refine aw_con j87_27 ?_
  refine aw_ild j87_28 rfl ?_
  refine aw_callv (as := [.ref X.1, .int (1 : Int32), .int x1]) j87_29 rfl rfl (Nat.le_of_ble_eq_true rfl) cy88.1 cy88.2 (cs_cons rfl (cs_cons rfl (cs_cons rfl cs_nil))) (decide_eq_true hS.to) (m_4 _ hS) (fun S1 h1 => ?_)
  obtain ⟨W1, h1, h2⟩ := h1
  exact k_5 W1 h2 S1 h1
theorem br87_32 {x1 : Int32} {o2 : Option Value} {o3 : Option Value} {o4 : Option Value}  (k_1 : rA ext X d 87 36 [some (.ref X.1), some (.int x1), some (.int (0 : Int32)), some (.int (0 : Int32)), o4] [] W Q) : rA ext X d 87 32 [some (.ref X.1), some (.int x1), o2, o3, o4] [] W Q := by
  intro S hS
  refine aw_con j87_32 ?_
  refine aw_ist j87_33 (Nat.le_of_ble_eq_true rfl) ?_
  refine aw_con j87_34 ?_
  refine aw_ist j87_35 (Nat.le_of_ble_eq_true rfl) ?_
  exact k_1 _ hS
theorem br87_36 {x1 : Int32} {x2 : Int32} {x3 : Int32} {o4 : Option Value}  (k_1 : (x1 ≤ x3) → rA ext X d 87 102 [some (.ref X.1), some (.int x1), some (.int x2), some (.int x3), o4] [] W Q) (k_2 : (¬ (x1 ≤ x3)) → rA ext X d 87 41 [some (.ref X.1), some (.int x1), some (.int x2), some (.int x3), o4] [] W Q) : rA ext X d 87 36 [some (.ref X.1), some (.int x1), some (.int x2), some (.int x3), o4] [] W Q := by
  intro S hS
  refine aw_ild j87_36 rfl ?_
  refine aw_ild j87_37 rfl ?_
  exact aw_ic j87_38 (fun h => k_1 (of_decide_eq_true h) _ hS) (fun h => k_2 (of_decide_eq_false h) _ hS)
theorem br87_41 {x1 : Int32} {x2 : Int32} {x3 : Int32} {o4 : Option Value}  (k_1 : (¬ x2 = 0) → rA ext X d 87 90 [some (.ref X.1), some (.int x1), some (.int x2), some (.int x3), o4] [] W Q) (k_2 : (x2 = 0) → rA ext X d 87 45 [some (.ref X.1), some (.int x1), some (.int x2), some (.int x3), o4] [] W Q) : rA ext X d 87 41 [some (.ref X.1), some (.int x1), some (.int x2), some (.int x3), o4] [] W Q := by
  intro S hS
  refine aw_ild j87_41 rfl ?_
  exact aw_if j87_42 (fun h => k_1 (of_decide_eq_true h) _ hS) (fun h => k_2 (Decidable.of_not_not (of_decide_eq_false h)) _ hS)
theorem br87_45 {x1 : Int32} {x2 : Int32} {x3 : Int32} {o4 : Option Value} {i_1 : Nat} {i_4 : Nat} (e_2 : x3 = nI i_1) (c_3 : i_1 < 120) (e_5 : x1 = nI i_4) (c_6 : i_4 < 120) (k_7 : (¬ (W.1 6 i_1) = (W.1 6 i_4)) → rA ext X d 87 94 [some (.ref X.1), some (.int x1), some (.int x2), some (.int x3), o4] [] W Q) (k_8 : ((W.1 6 i_1) = (W.1 6 i_4)) → rA ext X d 87 60 [some (.ref X.1), some (.int x1), some (.int x2), some (.int x3), o4] [] W Q) : rA ext X d 87 45 [some (.ref X.1), some (.int x1), some (.int x2), some (.int x3), o4] [] W Q := by
  intro S hS
  refine aw_ald j87_45 rfl rfl ?_
  refine aw_get j87_46 hS.to (hS.fa 6 rfl) ?_
  refine aw_ild j87_49 rfl ?_
  refine aw_xld (n := 120) j87_50 (hS.ta 6 rfl) e_2 c_3 (by decide) (hS.g 6 i_1 rfl c_3) ?_
  refine aw_ald j87_51 rfl rfl ?_
  refine aw_get j87_52 hS.to (hS.fa 6 rfl) ?_
  refine aw_ild j87_55 rfl ?_
  refine aw_xld (n := 120) j87_56 (hS.ta 6 rfl) e_5 c_6 (by decide) (hS.g 6 i_4 rfl c_6) ?_
  exact aw_ic j87_57 (fun h => k_7 (of_decide_eq_true h) _ hS) (fun h => k_8 (Decidable.of_not_not (of_decide_eq_false h)) _ hS)
theorem br87_60 {x1 : Int32} {x2 : Int32} {x3 : Int32} {o4 : Option Value} {i_1 : Nat} {i_4 : Nat} (e_2 : x3 = nI i_1) (c_3 : i_1 < 120) (e_5 : x1 = nI i_4) (c_6 : i_4 < 120) (k_7 : (¬ (W.1 7 i_1) = (W.1 7 i_4)) → rA ext X d 87 94 [some (.ref X.1), some (.int x1), some (.int x2), some (.int x3), o4] [] W Q) (k_8 : ((W.1 7 i_1) = (W.1 7 i_4)) → rA ext X d 87 75 [some (.ref X.1), some (.int x1), some (.int x2), some (.int x3), o4] [] W Q) : rA ext X d 87 60 [some (.ref X.1), some (.int x1), some (.int x2), some (.int x3), o4] [] W Q := by
  intro S hS
  refine aw_ald j87_60 rfl rfl ?_
  refine aw_get j87_61 hS.to (hS.fa 7 rfl) ?_
  refine aw_ild j87_64 rfl ?_
  refine aw_xld (n := 120) j87_65 (hS.ta 7 rfl) e_2 c_3 (by decide) (hS.g 7 i_1 rfl c_3) ?_
  refine aw_ald j87_66 rfl rfl ?_
  refine aw_get j87_67 hS.to (hS.fa 7 rfl) ?_
  refine aw_ild j87_70 rfl ?_
  refine aw_xld (n := 120) j87_71 (hS.ta 7 rfl) e_5 c_6 (by decide) (hS.g 7 i_4 rfl c_6) ?_
  exact aw_ic j87_72 (fun h => k_7 (of_decide_eq_true h) _ hS) (fun h => k_8 (Decidable.of_not_not (of_decide_eq_false h)) _ hS)
theorem br87_75 {x1 : Int32} {x2 : Int32} {x3 : Int32} {o4 : Option Value} {i_1 : Nat} {i_4 : Nat} (e_2 : x3 = nI i_1) (c_3 : i_1 < 120) (e_5 : x1 = nI i_4) (c_6 : i_4 < 120) (k_7 : (¬ (W.1 8 i_1) = (W.1 8 i_4)) → rA ext X d 87 94 [some (.ref X.1), some (.int x1), some (.int x2), some (.int x3), o4] [] W Q) (k_8 : ((W.1 8 i_1) = (W.1 8 i_4)) → rA ext X d 87 90 [some (.ref X.1), some (.int x1), some (.int x2), some (.int x3), o4] [] W Q) : rA ext X d 87 75 [some (.ref X.1), some (.int x1), some (.int x2), some (.int x3), o4] [] W Q := by
  intro S hS
  refine aw_ald j87_75 rfl rfl ?_
  refine aw_get j87_76 hS.to (hS.fa 8 rfl) ?_
  refine aw_ild j87_79 rfl ?_
  refine aw_xld (n := 120) j87_80 (hS.ta 8 rfl) e_2 c_3 (by decide) (hS.g 8 i_1 rfl c_3) ?_
  refine aw_ald j87_81 rfl rfl ?_
  refine aw_get j87_82 hS.to (hS.fa 8 rfl) ?_
  refine aw_ild j87_85 rfl ?_
  refine aw_xld (n := 120) j87_86 (hS.ta 8 rfl) e_5 c_6 (by decide) (hS.g 8 i_4 rfl c_6) ?_
  exact aw_ic j87_87 (fun h => k_7 (of_decide_eq_true h) _ hS) (fun h => k_8 (Decidable.of_not_not (of_decide_eq_false h)) _ hS)
theorem br87_90 {x1 : Int32} {x2 : Int32} {x3 : Int32} {o4 : Option Value}  (k_1 : rA ext X d 87 95 [some (.ref X.1), some (.int x1), some (.int x2), some (.int x3), o4] [.int (1 : Int32)] W Q) : rA ext X d 87 90 [some (.ref X.1), some (.int x1), some (.int x2), some (.int x3), o4] [] W Q := by
  intro S hS
  refine aw_con j87_90 ?_
  exact aw_goto j87_91 (k_1 _ hS)
theorem br87_94 {x1 : Int32} {x2 : Int32} {x3 : Int32} {o4 : Option Value}  (k_1 : rA ext X d 87 95 [some (.ref X.1), some (.int x1), some (.int x2), some (.int x3), o4] [.int (0 : Int32)] W Q) : rA ext X d 87 94 [some (.ref X.1), some (.int x1), some (.int x2), some (.int x3), o4] [] W Q := by
  intro S hS
  refine aw_con j87_94 ?_
  exact k_1 _ hS
theorem br87_95 {x1 : Int32} {x2 : Int32} {x3 : Int32} {o4 : Option Value} {xk0 : Int32}  (k_1 : rA ext X d 87 36 [some (.ref X.1), some (.int x1), some (.int xk0), some (.int (x3 + 1)), o4] [] W Q) : rA ext X d 87 95 [some (.ref X.1), some (.int x1), some (.int x2), some (.int x3), o4] [.int xk0] W Q := by
  intro S hS
  refine aw_ist j87_95 (Nat.le_of_ble_eq_true rfl) ?_
  refine aw_inc j87_96 rfl ?_
  exact aw_goto j87_99 (k_1 _ hS)
theorem br87_102 {x1 : Int32} {x2 : Int32} {x3 : Int32} {o4 : Option Value}  (k_1 : (x2 = 0) → rA ext X d 87 112 [some (.ref X.1), some (.int x1), some (.int x2), some (.int x3), o4] [] W Q) (k_2 : (¬ (x2 = 0)) → rA ext X d 87 106 [some (.ref X.1), some (.int x1), some (.int x2), some (.int x3), o4] [] W Q) : rA ext X d 87 102 [some (.ref X.1), some (.int x1), some (.int x2), some (.int x3), o4] [] W Q := by
  intro S hS
  refine aw_ild j87_102 rfl ?_
  exact aw_if j87_103 (fun h => k_1 (of_decide_eq_true h) _ hS) (fun h => k_2 (of_decide_eq_false h) _ hS)
theorem br87_106 {x1 : Int32} {x2 : Int32} {x3 : Int32} {o4 : Option Value} {P_1 : rW → Prop} (m_4 : rCv ext X d 88 [.ref X.1, .int (2 : Int32), .int x1] W P_1) (k_5 : ∀ W_2, P_1 W_2 → rA ext X (d + 1) 87 112 [some (.ref X.1), some (.int x1), some (.int x2), some (.int x3), o4] [] W_2 Q) : rA ext X (d + 1) 87 106 [some (.ref X.1), some (.int x1), some (.int x2), some (.int x3), o4] [] W Q := by
  intro S hS
  refine aw_ald j87_106 rfl rfl ?_
  refine aw_con j87_107 ?_
  refine aw_ild j87_108 rfl ?_
  refine aw_callv (as := [.ref X.1, .int (2 : Int32), .int x1]) j87_109 rfl rfl (Nat.le_of_ble_eq_true rfl) cy88.1 cy88.2 (cs_cons rfl (cs_cons rfl (cs_cons rfl cs_nil))) (decide_eq_true hS.to) (m_4 _ hS) (fun S1 h1 => ?_)
  obtain ⟨W1, h1, h2⟩ := h1
  exact k_5 W1 h2 S1 h1
theorem br87_112 {x1 : Int32} {x2 : Int32} {x3 : Int32} {o4 : Option Value}  (k_1 : rA ext X d 87 119 [some (.ref X.1), some (.int x1), some (.int x2), some (.int (0 : Int32)), some (.int ((5 : Int32) * x1))] [] W Q) : rA ext X d 87 112 [some (.ref X.1), some (.int x1), some (.int x2), some (.int x3), o4] [] W Q := by
  intro S hS
  refine aw_con j87_112 ?_
  refine aw_ist j87_113 (Nat.le_of_ble_eq_true rfl) ?_
  refine aw_con j87_114 ?_
  refine aw_ild j87_115 rfl ?_
  refine aw_bin (z := ((5 : Int32) * x1)) j87_116 rfl ?_
  refine aw_ist j87_117 (Nat.le_of_ble_eq_true rfl) ?_
  exact k_1 _ hS
theorem br87_119 {x1 : Int32} {x2 : Int32} {x3 : Int32} {x4 : Int32} {i_1 : Nat} (e_2 : x1 = nI i_1) (c_3 : i_1 < 120) (k_4 : ((((5 : Int32) * x1) + (W.1 11 i_1)) ≤ x4) → rA ext X d 87 172 [some (.ref X.1), some (.int x1), some (.int x2), some (.int x3), some (.int x4)] [] W Q) (k_5 : (¬ ((((5 : Int32) * x1) + (W.1 11 i_1)) ≤ x4)) → rA ext X d 87 134 [some (.ref X.1), some (.int x1), some (.int x2), some (.int x3), some (.int x4)] [] W Q) : rA ext X d 87 119 [some (.ref X.1), some (.int x1), some (.int x2), some (.int x3), some (.int x4)] [] W Q := by
  intro S hS
  refine aw_ild j87_119 rfl ?_
  refine aw_con j87_121 ?_
  refine aw_ild j87_122 rfl ?_
  refine aw_bin (z := ((5 : Int32) * x1)) j87_123 rfl ?_
  refine aw_ald j87_124 rfl rfl ?_
  refine aw_get j87_125 hS.to (hS.fa 11 rfl) ?_
  refine aw_ild j87_128 rfl ?_
  refine aw_xld (n := 120) j87_129 (hS.ta 11 rfl) e_2 c_3 (by decide) (hS.g 11 i_1 rfl c_3) ?_
  refine aw_bin (z := (((5 : Int32) * x1) + (W.1 11 i_1))) j87_130 rfl ?_
  exact aw_ic j87_131 (fun h => k_4 (of_decide_eq_true h) _ hS) (fun h => k_5 (of_decide_eq_false h) _ hS)
theorem br87_134 {x1 : Int32} {x2 : Int32} {x3 : Int32} {x4 : Int32}  (k_1 : (¬ x3 = 0) → rA ext X d 87 160 [some (.ref X.1), some (.int x1), some (.int x2), some (.int x3), some (.int x4)] [] W Q) (k_2 : (x3 = 0) → rA ext X d 87 138 [some (.ref X.1), some (.int x1), some (.int x2), some (.int x3), some (.int x4)] [] W Q) : rA ext X d 87 134 [some (.ref X.1), some (.int x1), some (.int x2), some (.int x3), some (.int x4)] [] W Q := by
  intro S hS
  refine aw_ild j87_134 rfl ?_
  exact aw_if j87_135 (fun h => k_1 (of_decide_eq_true h) _ hS) (fun h => k_2 (Decidable.of_not_not (of_decide_eq_false h)) _ hS)
theorem br87_138 {x1 : Int32} {x2 : Int32} {x3 : Int32} {x4 : Int32} {i_1 : Nat} {i_4 : Nat} {i_7 : Nat} (e_2 : x4 = nI i_1) (c_3 : i_1 < 600) (e_5 : x4 = nI i_4) (c_6 : i_4 < 600) (e_8 : (W.1 12 i_4) = nI i_7) (c_9 : i_7 < 30) (k_10 : ((W.1 14 i_1) ≤ (W.1 2 i_7)) → rA ext X d 87 164 [some (.ref X.1), some (.int x1), some (.int x2), some (.int x3), some (.int x4)] [] W Q) (k_11 : (¬ ((W.1 14 i_1) ≤ (W.1 2 i_7))) → rA ext X d 87 160 [some (.ref X.1), some (.int x1), some (.int x2), some (.int x3), some (.int x4)] [] W Q) : rA ext X d 87 138 [some (.ref X.1), some (.int x1), some (.int x2), some (.int x3), some (.int x4)] [] W Q := by
  intro S hS
  refine aw_ald j87_138 rfl rfl ?_
  refine aw_get j87_139 hS.to (hS.fa 14 rfl) ?_
  refine aw_ild j87_142 rfl ?_
  refine aw_xld (n := 600) j87_144 (hS.ta 14 rfl) e_2 c_3 (by decide) (hS.g 14 i_1 rfl c_3) ?_
  refine aw_ald j87_145 rfl rfl ?_
  refine aw_get j87_146 hS.to (hS.fa 2 rfl) ?_
  refine aw_ald j87_149 rfl rfl ?_
  refine aw_get j87_150 hS.to (hS.fa 12 rfl) ?_
  refine aw_ild j87_153 rfl ?_
  refine aw_xld (n := 600) j87_155 (hS.ta 12 rfl) e_5 c_6 (by decide) (hS.g 12 i_4 rfl c_6) ?_
  refine aw_xld (n := 30) j87_156 (hS.ta 2 rfl) e_8 c_9 (by decide) (hS.g 2 i_7 rfl c_9) ?_
  exact aw_ic j87_157 (fun h => k_10 (of_decide_eq_true h) _ hS) (fun h => k_11 (of_decide_eq_false h) _ hS)
theorem br87_160 {x1 : Int32} {x2 : Int32} {x3 : Int32} {x4 : Int32}  (k_1 : rA ext X d 87 165 [some (.ref X.1), some (.int x1), some (.int x2), some (.int x3), some (.int x4)] [.int (1 : Int32)] W Q) : rA ext X d 87 160 [some (.ref X.1), some (.int x1), some (.int x2), some (.int x3), some (.int x4)] [] W Q := by
  intro S hS
  refine aw_con j87_160 ?_
  exact aw_goto j87_161 (k_1 _ hS)
theorem br87_164 {x1 : Int32} {x2 : Int32} {x3 : Int32} {x4 : Int32}  (k_1 : rA ext X d 87 165 [some (.ref X.1), some (.int x1), some (.int x2), some (.int x3), some (.int x4)] [.int (0 : Int32)] W Q) : rA ext X d 87 164 [some (.ref X.1), some (.int x1), some (.int x2), some (.int x3), some (.int x4)] [] W Q := by
  intro S hS
  refine aw_con j87_164 ?_
  exact k_1 _ hS
theorem br87_165 {x1 : Int32} {x2 : Int32} {x3 : Int32} {x4 : Int32} {xk0 : Int32}  (k_1 : rA ext X d 87 119 [some (.ref X.1), some (.int x1), some (.int x2), some (.int xk0), some (.int (x4 + 1))] [] W Q) : rA ext X d 87 165 [some (.ref X.1), some (.int x1), some (.int x2), some (.int x3), some (.int x4)] [.int xk0] W Q := by
  intro S hS
  refine aw_ist j87_165 (Nat.le_of_ble_eq_true rfl) ?_
  refine aw_inc j87_166 rfl ?_
  exact aw_goto j87_169 (k_1 _ hS)
theorem br87_172 {x1 : Int32} {x2 : Int32} {x3 : Int32} {x4 : Int32}  (k_1 : (x3 = 0) → rA ext X d 87 182 [some (.ref X.1), some (.int x1), some (.int x2), some (.int x3), some (.int x4)] [] W Q) (k_2 : (¬ (x3 = 0)) → rA ext X d 87 176 [some (.ref X.1), some (.int x1), some (.int x2), some (.int x3), some (.int x4)] [] W Q) : rA ext X d 87 172 [some (.ref X.1), some (.int x1), some (.int x2), some (.int x3), some (.int x4)] [] W Q := by
  intro S hS
  refine aw_ild j87_172 rfl ?_
  exact aw_if j87_173 (fun h => k_1 (of_decide_eq_true h) _ hS) (fun h => k_2 (of_decide_eq_false h) _ hS)
theorem br87_176 {x1 : Int32} {x2 : Int32} {x3 : Int32} {x4 : Int32} {P_1 : rW → Prop} (m_4 : rCv ext X d 88 [.ref X.1, .int (3 : Int32), .int x1] W P_1) (k_5 : ∀ W_2, P_1 W_2 → rA ext X (d + 1) 87 182 [some (.ref X.1), some (.int x1), some (.int x2), some (.int x3), some (.int x4)] [] W_2 Q) : rA ext X (d + 1) 87 176 [some (.ref X.1), some (.int x1), some (.int x2), some (.int x3), some (.int x4)] [] W Q := by
  intro S hS
  refine aw_ald j87_176 rfl rfl ?_
  refine aw_con j87_177 ?_
  refine aw_ild j87_178 rfl ?_
  refine aw_callv (as := [.ref X.1, .int (3 : Int32), .int x1]) j87_179 rfl rfl (Nat.le_of_ble_eq_true rfl) cy88.1 cy88.2 (cs_cons rfl (cs_cons rfl (cs_cons rfl cs_nil))) (decide_eq_true hS.to) (m_4 _ hS) (fun S1 h1 => ?_)
  obtain ⟨W1, h1, h2⟩ := h1
  exact k_5 W1 h2 S1 h1
theorem br87_182 {x1 : Int32} {x2 : Int32} {x3 : Int32} {x4 : Int32}  (k_1 : Q none W) : rA ext X d 87 182 [some (.ref X.1), some (.int x1), some (.int x2), some (.int x3), some (.int x4)] [] W Q := by
  intro S hS
  exact aw_vret j87_182 rt87 ⟨_, hS, k_1⟩
/-! Ref_blame -/
theorem br88_0 {x1 : Int32} {x2 : Int32} {i_1 : Nat} {i_4 : Nat} (e_2 : (W.2 29) = nI i_1) (c_3 : i_1 < 500) (e_5 : ((gset W 30 i_1 x1).2 29) = nI i_4) (c_6 : i_4 < 500) (k_7 : Q none (hset (gset (gset W 30 i_1 x1) 31 i_4 x2) 29 (((gset (gset W 30 i_1 x1) 31 i_4 x2).2 29) + (1 : Int32)))) : rA ext X d 88 0 [some (.ref X.1), some (.int x1), some (.int x2)] [] W Q := by
  intro S hS
  refine aw_ald j88_0 rfl rfl ?_
  refine aw_get j88_1 hS.to (hS.fa 30 rfl) ?_
  refine aw_ald j88_4 rfl rfl ?_
  refine aw_get j88_5 hS.to (hS.n 29 rfl) ?_
  refine aw_ild j88_8 rfl ?_
  refine aw_xst (n := 500) j88_9 (hS.ta 30 rfl) e_2 c_3 (by decide) ?_
  have hS := hS.seta 30 i_1 x1 rfl
  refine aw_ald j88_10 rfl rfl ?_
  refine aw_get j88_11 hS.to (hS.fa 31 rfl) ?_
  refine aw_ald j88_14 rfl rfl ?_
  refine aw_get j88_15 hS.to (hS.n 29 rfl) ?_
  refine aw_ild j88_18 rfl ?_
  refine aw_xst (n := 500) j88_19 (hS.ta 31 rfl) e_5 c_6 (by decide) ?_
  have hS := hS.seta 31 i_4 x2 rfl
  refine aw_ald j88_20 rfl rfl ?_
  refine aw_dup j88_21 rfl ?_
  refine aw_get j88_22 hS.to (hS.n 29 rfl) ?_
  refine aw_con j88_25 ?_
  refine aw_bin (z := (((gset (gset W 30 i_1 x1) 31 i_4 x2).2 29) + (1 : Int32))) j88_26 rfl ?_
  refine aw_put j88_27 hS.to rfl ?_
  have hS := hS.seth 29 (((gset (gset W 30 i_1 x1) 31 i_4 x2).2 29) + (1 : Int32)) rfl
  exact aw_vret j88_30 rt88 ⟨_, hS, k_7⟩
/-! Ref_checkFile -/
theorem br89_0 {x1 : Int32} {o2 : Option Value} {o3 : Option Value} {o4 : Option Value} {o5 : Option Value} {o6 : Option Value} {o7 : Option Value} {o8 : Option Value} {o9 : Option Value}  (k_1 : rA ext X d 89 7 [some (.ref X.1), some (.int x1), some (.int (0 : Int32)), some (.int (0 : Int32)), some (.int (0 : Int32)), o5, o6, o7, o8, o9] [] W Q) : rA ext X d 89 0 [some (.ref X.1), some (.int x1), o2, o3, o4, o5, o6, o7, o8, o9] [] W Q := by
  intro S hS
  refine aw_con j89_0 ?_
  refine aw_ist j89_1 (Nat.le_of_ble_eq_true rfl) ?_
  refine aw_con j89_2 ?_
  refine aw_ist j89_3 (Nat.le_of_ble_eq_true rfl) ?_
  refine aw_con j89_4 ?_
  refine aw_ist j89_5 (Nat.le_of_ble_eq_true rfl) ?_
  exact k_1 _ hS
theorem br89_7 {x1 : Int32} {x2 : Int32} {x3 : Int32} {x4 : Int32} {o5 : Option Value} {o6 : Option Value} {o7 : Option Value} {o8 : Option Value} {o9 : Option Value} {i_1 : Nat} (e_2 : x1 = nI i_1) (c_3 : i_1 < 30) (k_4 : ((W.1 2 i_1) ≤ x4) → rA ext X d 89 199 [some (.ref X.1), some (.int x1), some (.int x2), some (.int x3), some (.int x4), o5, o6, o7, o8, o9] [] W Q) (k_5 : (¬ ((W.1 2 i_1) ≤ x4)) → rA ext X d 89 18 [some (.ref X.1), some (.int x1), some (.int x2), some (.int x3), some (.int x4), o5, o6, o7, o8, o9] [] W Q) : rA ext X d 89 7 [some (.ref X.1), some (.int x1), some (.int x2), some (.int x3), some (.int x4), o5, o6, o7, o8, o9] [] W Q := by
  intro S hS
  refine aw_ild j89_7 rfl ?_
  refine aw_ald j89_9 rfl rfl ?_
  refine aw_get j89_10 hS.to (hS.fa 2 rfl) ?_
  refine aw_ild j89_13 rfl ?_
  refine aw_xld (n := 30) j89_14 (hS.ta 2 rfl) e_2 c_3 (by decide) (hS.g 2 i_1 rfl c_3) ?_
  exact aw_ic j89_15 (fun h => k_4 (of_decide_eq_true h) _ hS) (fun h => k_5 (of_decide_eq_false h) _ hS)
theorem br89_18 {x1 : Int32} {x2 : Int32} {x3 : Int32} {x4 : Int32} {o5 : Option Value} {o6 : Option Value} {o7 : Option Value} {o8 : Option Value} {o9 : Option Value} {i_1 : Nat} (e_2 : x1 = nI i_1) (c_3 : i_1 < 30) (k_4 : rA ext X d 89 32 [some (.ref X.1), some (.int x1), some (.int x2), some (.int x3), some (.int x4), some (.int (0 : Int32)), some (.int (W.1 2 i_1)), some (.int (0 : Int32)), o8, o9] [] W Q) : rA ext X d 89 18 [some (.ref X.1), some (.int x1), some (.int x2), some (.int x3), some (.int x4), o5, o6, o7, o8, o9] [] W Q := by
  intro S hS
  refine aw_con j89_18 ?_
  refine aw_ist j89_19 (Nat.le_of_ble_eq_true rfl) ?_
  refine aw_ald j89_21 rfl rfl ?_
  refine aw_get j89_22 hS.to (hS.fa 2 rfl) ?_
  refine aw_ild j89_25 rfl ?_
  refine aw_xld (n := 30) j89_26 (hS.ta 2 rfl) e_2 c_3 (by decide) (hS.g 2 i_1 rfl c_3) ?_
  refine aw_ist j89_27 (Nat.le_of_ble_eq_true rfl) ?_
  refine aw_con j89_29 ?_
  refine aw_ist j89_30 (Nat.le_of_ble_eq_true rfl) ?_
  exact k_4 _ hS
theorem br89_32 {x1 : Int32} {x2 : Int32} {x3 : Int32} {x4 : Int32} {x5 : Int32} {x6 : Int32} {x7 : Int32} {o8 : Option Value} {o9 : Option Value}  (k_1 : ((W.2 27) ≤ x7) → rA ext X d 89 161 [some (.ref X.1), some (.int x1), some (.int x2), some (.int x3), some (.int x4), some (.int x5), some (.int x6), some (.int x7), o8, o9] [] W Q) (k_2 : (¬ ((W.2 27) ≤ x7)) → rA ext X d 89 41 [some (.ref X.1), some (.int x1), some (.int x2), some (.int x3), some (.int x4), some (.int x5), some (.int x6), some (.int x7), o8, o9] [] W Q) : rA ext X d 89 32 [some (.ref X.1), some (.int x1), some (.int x2), some (.int x3), some (.int x4), some (.int x5), some (.int x6), some (.int x7), o8, o9] [] W Q := by
  intro S hS
  refine aw_ild j89_32 rfl ?_
  refine aw_ald j89_34 rfl rfl ?_
  refine aw_get j89_35 hS.to (hS.n 27 rfl) ?_
  exact aw_ic j89_38 (fun h => k_1 (of_decide_eq_true h) _ hS) (fun h => k_2 (of_decide_eq_false h) _ hS)
theorem br89_41 {x1 : Int32} {x2 : Int32} {x3 : Int32} {x4 : Int32} {x5 : Int32} {x6 : Int32} {x7 : Int32} {o8 : Option Value} {o9 : Option Value} {i_1 : Nat} (e_2 : (((5 : Int32) * x7) + (1 : Int32)) = nI i_1) (c_3 : i_1 < 25000) (k_4 : ((W.1 28 i_1) = x1) → rA ext X d 89 59 [some (.ref X.1), some (.int x1), some (.int x2), some (.int x3), some (.int x4), some (.int x5), some (.int x6), some (.int x7), o8, o9] [] W Q) (k_5 : (¬ ((W.1 28 i_1) = x1)) → rA ext X d 89 56 [some (.ref X.1), some (.int x1), some (.int x2), some (.int x3), some (.int x4), some (.int x5), some (.int x6), some (.int x7), o8, o9] [] W Q) : rA ext X d 89 41 [some (.ref X.1), some (.int x1), some (.int x2), some (.int x3), some (.int x4), some (.int x5), some (.int x6), some (.int x7), o8, o9] [] W Q := by
  intro S hS
  refine aw_ald j89_41 rfl rfl ?_
  refine aw_get j89_42 hS.to (hS.fa 28 rfl) ?_
  refine aw_con j89_45 ?_
  refine aw_ild j89_46 rfl ?_
  refine aw_bin (z := ((5 : Int32) * x7)) j89_48 rfl ?_
  refine aw_con j89_49 ?_
  refine aw_bin (z := (((5 : Int32) * x7) + (1 : Int32))) j89_50 rfl ?_
  refine aw_xld (n := 25000) j89_51 (hS.ta 28 rfl) e_2 c_3 (by decide) (hS.g 28 i_1 rfl c_3) ?_
  refine aw_ild j89_52 rfl ?_
  exact aw_ic j89_53 (fun h => k_4 (of_decide_eq_true h) _ hS) (fun h => k_5 (of_decide_eq_false h) _ hS)
theorem br89_56 {x1 : Int32} {x2 : Int32} {x3 : Int32} {x4 : Int32} {x5 : Int32} {x6 : Int32} {x7 : Int32} {o8 : Option Value} {o9 : Option Value}  (k_1 : rA ext X d 89 155 [some (.ref X.1), some (.int x1), some (.int x2), some (.int x3), some (.int x4), some (.int x5), some (.int x6), some (.int x7), o8, o9] [] W Q) : rA ext X d 89 56 [some (.ref X.1), some (.int x1), some (.int x2), some (.int x3), some (.int x4), some (.int x5), some (.int x6), some (.int x7), o8, o9] [] W Q := by
  intro S hS
  exact aw_goto j89_56 (k_1 _ hS)
theorem br89_59 {x1 : Int32} {x2 : Int32} {x3 : Int32} {x4 : Int32} {x5 : Int32} {x6 : Int32} {x7 : Int32} {o8 : Option Value} {o9 : Option Value} {i_1 : Nat} {i_4 : Nat} (e_2 : (((5 : Int32) * x7) + (2 : Int32)) = nI i_1) (c_3 : i_1 < 25000) (e_5 : (((5 : Int32) * x7) + (3 : Int32)) = nI i_4) (c_6 : i_4 < 25000) (k_7 : (x4 < (W.1 28 i_1)) → rA ext X d 89 105 [some (.ref X.1), some (.int x1), some (.int x2), some (.int x3), some (.int x4), some (.int x5), some (.int x6), some (.int x7), some (.int (W.1 28 i_1)), some (.int (W.1 28 i_4))] [.int x5] W Q) (k_8 : (¬ (x4 < (W.1 28 i_1))) → rA ext X d 89 94 [some (.ref X.1), some (.int x1), some (.int x2), some (.int x3), some (.int x4), some (.int x5), some (.int x6), some (.int x7), some (.int (W.1 28 i_1)), some (.int (W.1 28 i_4))] [.int x5] W Q) : rA ext X d 89 59 [some (.ref X.1), some (.int x1), some (.int x2), some (.int x3), some (.int x4), some (.int x5), some (.int x6), some (.int x7), o8, o9] [] W Q := by
  intro S hS
  refine aw_ald j89_59 rfl rfl ?_
  refine aw_get j89_60 hS.to (hS.fa 28 rfl) ?_
  refine aw_con j89_63 ?_
  refine aw_ild j89_64 rfl ?_
  refine aw_bin (z := ((5 : Int32) * x7)) j89_66 rfl ?_
  refine aw_con j89_67 ?_
  refine aw_bin (z := (((5 : Int32) * x7) + (2 : Int32))) j89_68 rfl ?_
  refine aw_xld (n := 25000) j89_69 (hS.ta 28 rfl) e_2 c_3 (by decide) (hS.g 28 i_1 rfl c_3) ?_
  refine aw_ist j89_70 (Nat.le_of_ble_eq_true rfl) ?_
  refine aw_ald j89_72 rfl rfl ?_
  refine aw_get j89_73 hS.to (hS.fa 28 rfl) ?_
  refine aw_con j89_76 ?_
  refine aw_ild j89_77 rfl ?_
  refine aw_bin (z := ((5 : Int32) * x7)) j89_79 rfl ?_
  refine aw_con j89_80 ?_
  refine aw_bin (z := (((5 : Int32) * x7) + (3 : Int32))) j89_81 rfl ?_
  refine aw_xld (n := 25000) j89_82 (hS.ta 28 rfl) e_5 c_6 (by decide) (hS.g 28 i_4 rfl c_6) ?_
  refine aw_ist j89_83 (Nat.le_of_ble_eq_true rfl) ?_
  refine aw_ild j89_85 rfl ?_
  refine aw_ild j89_87 rfl ?_
  refine aw_ild j89_89 rfl ?_
  exact aw_ic j89_91 (fun h => k_7 (of_decide_eq_true h) _ hS) (fun h => k_8 (of_decide_eq_false h) _ hS)
theorem br89_94 {x1 : Int32} {x2 : Int32} {x3 : Int32} {x4 : Int32} {x5 : Int32} {x6 : Int32} {x7 : Int32} {x8 : Int32} {x9 : Int32} {xk0 : Int32}  (k_1 : (x9 ≤ x4) → rA ext X d 89 105 [some (.ref X.1), some (.int x1), some (.int x2), some (.int x3), some (.int x4), some (.int x5), some (.int x6), some (.int x7), some (.int x8), some (.int x9)] [.int xk0] W Q) (k_2 : (¬ (x9 ≤ x4)) → rA ext X d 89 101 [some (.ref X.1), some (.int x1), some (.int x2), some (.int x3), some (.int x4), some (.int x5), some (.int x6), some (.int x7), some (.int x8), some (.int x9)] [.int xk0] W Q) : rA ext X d 89 94 [some (.ref X.1), some (.int x1), some (.int x2), some (.int x3), some (.int x4), some (.int x5), some (.int x6), some (.int x7), some (.int x8), some (.int x9)] [.int xk0] W Q := by
  intro S hS
  refine aw_ild j89_94 rfl ?_
  refine aw_ild j89_96 rfl ?_
  exact aw_ic j89_98 (fun h => k_1 (of_decide_eq_true h) _ hS) (fun h => k_2 (of_decide_eq_false h) _ hS)
theorem br89_101 {x1 : Int32} {x2 : Int32} {x3 : Int32} {x4 : Int32} {x5 : Int32} {x6 : Int32} {x7 : Int32} {x8 : Int32} {x9 : Int32} {xk0 : Int32}  (k_1 : rA ext X d 89 106 [some (.ref X.1), some (.int x1), some (.int x2), some (.int x3), some (.int x4), some (.int x5), some (.int x6), some (.int x7), some (.int x8), some (.int x9)] [.int (1 : Int32), .int xk0] W Q) : rA ext X d 89 101 [some (.ref X.1), some (.int x1), some (.int x2), some (.int x3), some (.int x4), some (.int x5), some (.int x6), some (.int x7), some (.int x8), some (.int x9)] [.int xk0] W Q := by
  intro S hS
  refine aw_con j89_101 ?_
  exact aw_goto j89_102 (k_1 _ hS)
theorem br89_105 {x1 : Int32} {x2 : Int32} {x3 : Int32} {x4 : Int32} {x5 : Int32} {x6 : Int32} {x7 : Int32} {x8 : Int32} {x9 : Int32} {xk0 : Int32}  (k_1 : rA ext X d 89 106 [some (.ref X.1), some (.int x1), some (.int x2), some (.int x3), some (.int x4), some (.int x5), some (.int x6), some (.int x7), some (.int x8), some (.int x9)] [.int (0 : Int32), .int xk0] W Q) : rA ext X d 89 105 [some (.ref X.1), some (.int x1), some (.int x2), some (.int x3), some (.int x4), some (.int x5), some (.int x6), some (.int x7), some (.int x8), some (.int x9)] [.int xk0] W Q := by
  intro S hS
  refine aw_con j89_105 ?_
  exact k_1 _ hS
theorem br89_106 {x1 : Int32} {x2 : Int32} {x3 : Int32} {x4 : Int32} {x5 : Int32} {x6 : Int32} {x7 : Int32} {x8 : Int32} {x9 : Int32} {xk0 : Int32} {xk1 : Int32}  (k_1 : (x8 ≤ x4) → rA ext X d 89 128 [some (.ref X.1), some (.int x1), some (.int x2), some (.int x3), some (.int x4), some (.int (xk0 + xk1)), some (.int x6), some (.int x7), some (.int x8), some (.int x9)] [] W Q) (k_2 : (¬ (x8 ≤ x4)) → rA ext X d 89 116 [some (.ref X.1), some (.int x1), some (.int x2), some (.int x3), some (.int x4), some (.int (xk0 + xk1)), some (.int x6), some (.int x7), some (.int x8), some (.int x9)] [] W Q) : rA ext X d 89 106 [some (.ref X.1), some (.int x1), some (.int x2), some (.int x3), some (.int x4), some (.int x5), some (.int x6), some (.int x7), some (.int x8), some (.int x9)] [.int xk1, .int xk0] W Q := by
  intro S hS
  refine aw_bin (z := (xk0 + xk1)) j89_106 rfl ?_
  refine aw_ist j89_107 (Nat.le_of_ble_eq_true rfl) ?_
  refine aw_ild j89_109 rfl ?_
  refine aw_ild j89_111 rfl ?_
  exact aw_ic j89_113 (fun h => k_1 (of_decide_eq_true h) _ hS) (fun h => k_2 (of_decide_eq_false h) _ hS)
theorem br89_116 {x1 : Int32} {x2 : Int32} {x3 : Int32} {x4 : Int32} {x5 : Int32} {x6 : Int32} {x7 : Int32} {x8 : Int32} {x9 : Int32}  (k_1 : (x6 ≤ x8) → rA ext X d 89 128 [some (.ref X.1), some (.int x1), some (.int x2), some (.int x3), some (.int x4), some (.int x5), some (.int x6), some (.int x7), some (.int x8), some (.int x9)] [] W Q) (k_2 : (¬ (x6 ≤ x8)) → rA ext X d 89 123 [some (.ref X.1), some (.int x1), some (.int x2), some (.int x3), some (.int x4), some (.int x5), some (.int x6), some (.int x7), some (.int x8), some (.int x9)] [] W Q) : rA ext X d 89 116 [some (.ref X.1), some (.int x1), some (.int x2), some (.int x3), some (.int x4), some (.int x5), some (.int x6), some (.int x7), some (.int x8), some (.int x9)] [] W Q := by
  intro S hS
  refine aw_ild j89_116 rfl ?_
  refine aw_ild j89_118 rfl ?_
  exact aw_ic j89_120 (fun h => k_1 (of_decide_eq_true h) _ hS) (fun h => k_2 (of_decide_eq_false h) _ hS)
theorem br89_123 {x1 : Int32} {x2 : Int32} {x3 : Int32} {x4 : Int32} {x5 : Int32} {x6 : Int32} {x7 : Int32} {x8 : Int32} {x9 : Int32}  (k_1 : rA ext X d 89 130 [some (.ref X.1), some (.int x1), some (.int x2), some (.int x3), some (.int x4), some (.int x5), some (.int x6), some (.int x7), some (.int x8), some (.int x9)] [.int x8] W Q) : rA ext X d 89 123 [some (.ref X.1), some (.int x1), some (.int x2), some (.int x3), some (.int x4), some (.int x5), some (.int x6), some (.int x7), some (.int x8), some (.int x9)] [] W Q := by
  intro S hS
  refine aw_ild j89_123 rfl ?_
  exact aw_goto j89_125 (k_1 _ hS)
theorem br89_128 {x1 : Int32} {x2 : Int32} {x3 : Int32} {x4 : Int32} {x5 : Int32} {x6 : Int32} {x7 : Int32} {x8 : Int32} {x9 : Int32}  (k_1 : rA ext X d 89 130 [some (.ref X.1), some (.int x1), some (.int x2), some (.int x3), some (.int x4), some (.int x5), some (.int x6), some (.int x7), some (.int x8), some (.int x9)] [.int x6] W Q) : rA ext X d 89 128 [some (.ref X.1), some (.int x1), some (.int x2), some (.int x3), some (.int x4), some (.int x5), some (.int x6), some (.int x7), some (.int x8), some (.int x9)] [] W Q := by
  intro S hS
  refine aw_ild j89_128 rfl ?_
  exact k_1 _ hS
theorem br89_130 {x1 : Int32} {x2 : Int32} {x3 : Int32} {x4 : Int32} {x5 : Int32} {x6 : Int32} {x7 : Int32} {x8 : Int32} {x9 : Int32} {xk0 : Int32}  (k_1 : (x9 ≤ x4) → rA ext X d 89 151 [some (.ref X.1), some (.int x1), some (.int x2), some (.int x3), some (.int x4), some (.int x5), some (.int xk0), some (.int x7), some (.int x8), some (.int x9)] [] W Q) (k_2 : (¬ (x9 ≤ x4)) → rA ext X d 89 139 [some (.ref X.1), some (.int x1), some (.int x2), some (.int x3), some (.int x4), some (.int x5), some (.int xk0), some (.int x7), some (.int x8), some (.int x9)] [] W Q) : rA ext X d 89 130 [some (.ref X.1), some (.int x1), some (.int x2), some (.int x3), some (.int x4), some (.int x5), some (.int x6), some (.int x7), some (.int x8), some (.int x9)] [.int xk0] W Q := by
  intro S hS
  refine aw_ist j89_130 (Nat.le_of_ble_eq_true rfl) ?_
  refine aw_ild j89_132 rfl ?_
  refine aw_ild j89_134 rfl ?_
  exact aw_ic j89_136 (fun h => k_1 (of_decide_eq_true h) _ hS) (fun h => k_2 (of_decide_eq_false h) _ hS)
theorem br89_139 {x1 : Int32} {x2 : Int32} {x3 : Int32} {x4 : Int32} {x5 : Int32} {x6 : Int32} {x7 : Int32} {x8 : Int32} {x9 : Int32}  (k_1 : (x6 ≤ x9) → rA ext X d 89 151 [some (.ref X.1), some (.int x1), some (.int x2), some (.int x3), some (.int x4), some (.int x5), some (.int x6), some (.int x7), some (.int x8), some (.int x9)] [] W Q) (k_2 : (¬ (x6 ≤ x9)) → rA ext X d 89 146 [some (.ref X.1), some (.int x1), some (.int x2), some (.int x3), some (.int x4), some (.int x5), some (.int x6), some (.int x7), some (.int x8), some (.int x9)] [] W Q) : rA ext X d 89 139 [some (.ref X.1), some (.int x1), some (.int x2), some (.int x3), some (.int x4), some (.int x5), some (.int x6), some (.int x7), some (.int x8), some (.int x9)] [] W Q := by
  intro S hS
  refine aw_ild j89_139 rfl ?_
  refine aw_ild j89_141 rfl ?_
  exact aw_ic j89_143 (fun h => k_1 (of_decide_eq_true h) _ hS) (fun h => k_2 (of_decide_eq_false h) _ hS)
theorem br89_146 {x1 : Int32} {x2 : Int32} {x3 : Int32} {x4 : Int32} {x5 : Int32} {x6 : Int32} {x7 : Int32} {x8 : Int32} {x9 : Int32}  (k_1 : rA ext X d 89 153 [some (.ref X.1), some (.int x1), some (.int x2), some (.int x3), some (.int x4), some (.int x5), some (.int x6), some (.int x7), some (.int x8), some (.int x9)] [.int x9] W Q) : rA ext X d 89 146 [some (.ref X.1), some (.int x1), some (.int x2), some (.int x3), some (.int x4), some (.int x5), some (.int x6), some (.int x7), some (.int x8), some (.int x9)] [] W Q := by
  intro S hS
  refine aw_ild j89_146 rfl ?_
  exact aw_goto j89_148 (k_1 _ hS)
theorem br89_151 {x1 : Int32} {x2 : Int32} {x3 : Int32} {x4 : Int32} {x5 : Int32} {x6 : Int32} {x7 : Int32} {x8 : Int32} {x9 : Int32}  (k_1 : rA ext X d 89 153 [some (.ref X.1), some (.int x1), some (.int x2), some (.int x3), some (.int x4), some (.int x5), some (.int x6), some (.int x7), some (.int x8), some (.int x9)] [.int x6] W Q) : rA ext X d 89 151 [some (.ref X.1), some (.int x1), some (.int x2), some (.int x3), some (.int x4), some (.int x5), some (.int x6), some (.int x7), some (.int x8), some (.int x9)] [] W Q := by
  intro S hS
  refine aw_ild j89_151 rfl ?_
  exact k_1 _ hS
theorem br89_153 {x1 : Int32} {x2 : Int32} {x3 : Int32} {x4 : Int32} {x5 : Int32} {x6 : Int32} {x7 : Int32} {x8 : Int32} {x9 : Int32} {xk0 : Int32}  (k_1 : rA ext X d 89 155 [some (.ref X.1), some (.int x1), some (.int x2), some (.int x3), some (.int x4), some (.int x5), some (.int xk0), some (.int x7), some (.int x8), some (.int x9)] [] W Q) : rA ext X d 89 153 [some (.ref X.1), some (.int x1), some (.int x2), some (.int x3), some (.int x4), some (.int x5), some (.int x6), some (.int x7), some (.int x8), some (.int x9)] [.int xk0] W Q := by
  intro S hS
  refine aw_ist j89_153 (Nat.le_of_ble_eq_true rfl) ?_
  exact k_1 _ hS
theorem br89_155 {x1 : Int32} {x2 : Int32} {x3 : Int32} {x4 : Int32} {x5 : Int32} {x6 : Int32} {x7 : Int32} {o8 : Option Value} {o9 : Option Value}  (k_1 : rA ext X d 89 32 [some (.ref X.1), some (.int x1), some (.int x2), some (.int x3), some (.int x4), some (.int x5), some (.int x6), some (.int (x7 + 1)), o8, o9] [] W Q) : rA ext X d 89 155 [some (.ref X.1), some (.int x1), some (.int x2), some (.int x3), some (.int x4), some (.int x5), some (.int x6), some (.int x7), o8, o9] [] W Q := by
  intro S hS
  refine aw_inc j89_155 rfl ?_
  exact aw_goto j89_158 (k_1 _ hS)
theorem br89_161 {x1 : Int32} {x2 : Int32} {x3 : Int32} {x4 : Int32} {x5 : Int32} {x6 : Int32} {x7 : Int32} {o8 : Option Value} {o9 : Option Value}  (k_1 : (¬ x2 = 0) → rA ext X d 89 171 [some (.ref X.1), some (.int x1), some (.int x2), some (.int x3), some (.int x4), some (.int x5), some (.int x6), some (.int x7), o8, o9] [] W Q) (k_2 : (x2 = 0) → rA ext X d 89 165 [some (.ref X.1), some (.int x1), some (.int x2), some (.int x3), some (.int x4), some (.int x5), some (.int x6), some (.int x7), o8, o9] [] W Q) : rA ext X d 89 161 [some (.ref X.1), some (.int x1), some (.int x2), some (.int x3), some (.int x4), some (.int x5), some (.int x6), some (.int x7), o8, o9] [] W Q := by
  intro S hS
  refine aw_ild j89_161 rfl ?_
  exact aw_if j89_162 (fun h => k_1 (of_decide_eq_true h) _ hS) (fun h => k_2 (Decidable.of_not_not (of_decide_eq_false h)) _ hS)
theorem br89_165 {x1 : Int32} {x2 : Int32} {x3 : Int32} {x4 : Int32} {x5 : Int32} {x6 : Int32} {x7 : Int32} {o8 : Option Value} {o9 : Option Value}  (k_1 : (x5 ≤ (1 : Int32)) → rA ext X d 89 175 [some (.ref X.1), some (.int x1), some (.int x2), some (.int x3), some (.int x4), some (.int x5), some (.int x6), some (.int x7), o8, o9] [] W Q) (k_2 : (¬ (x5 ≤ (1 : Int32))) → rA ext X d 89 171 [some (.ref X.1), some (.int x1), some (.int x2), some (.int x3), some (.int x4), some (.int x5), some (.int x6), some (.int x7), o8, o9] [] W Q) : rA ext X d 89 165 [some (.ref X.1), some (.int x1), some (.int x2), some (.int x3), some (.int x4), some (.int x5), some (.int x6), some (.int x7), o8, o9] [] W Q := by
  intro S hS
  refine aw_ild j89_165 rfl ?_
  refine aw_con j89_167 ?_
  exact aw_ic j89_168 (fun h => k_1 (of_decide_eq_true h) _ hS) (fun h => k_2 (of_decide_eq_false h) _ hS)
theorem br89_171 {x1 : Int32} {x2 : Int32} {x3 : Int32} {x4 : Int32} {x5 : Int32} {x6 : Int32} {x7 : Int32} {o8 : Option Value} {o9 : Option Value}  (k_1 : rA ext X d 89 176 [some (.ref X.1), some (.int x1), some (.int x2), some (.int x3), some (.int x4), some (.int x5), some (.int x6), some (.int x7), o8, o9] [.int (1 : Int32)] W Q) : rA ext X d 89 171 [some (.ref X.1), some (.int x1), some (.int x2), some (.int x3), some (.int x4), some (.int x5), some (.int x6), some (.int x7), o8, o9] [] W Q := by
  intro S hS
  refine aw_con j89_171 ?_
  exact aw_goto j89_172 (k_1 _ hS)
theorem br89_175 {x1 : Int32} {x2 : Int32} {x3 : Int32} {x4 : Int32} {x5 : Int32} {x6 : Int32} {x7 : Int32} {o8 : Option Value} {o9 : Option Value}  (k_1 : rA ext X d 89 176 [some (.ref X.1), some (.int x1), some (.int x2), some (.int x3), some (.int x4), some (.int x5), some (.int x6), some (.int x7), o8, o9] [.int (0 : Int32)] W Q) : rA ext X d 89 175 [some (.ref X.1), some (.int x1), some (.int x2), some (.int x3), some (.int x4), some (.int x5), some (.int x6), some (.int x7), o8, o9] [] W Q := by
  intro S hS
  refine aw_con j89_175 ?_
  exact k_1 _ hS
theorem br89_176 {x1 : Int32} {x2 : Int32} {x3 : Int32} {x4 : Int32} {x5 : Int32} {x6 : Int32} {x7 : Int32} {o8 : Option Value} {o9 : Option Value} {xk0 : Int32}  (k_1 : (¬ x3 = 0) → rA ext X d 89 186 [some (.ref X.1), some (.int x1), some (.int xk0), some (.int x3), some (.int x4), some (.int x5), some (.int x6), some (.int x7), o8, o9] [] W Q) (k_2 : (x3 = 0) → rA ext X d 89 181 [some (.ref X.1), some (.int x1), some (.int xk0), some (.int x3), some (.int x4), some (.int x5), some (.int x6), some (.int x7), o8, o9] [] W Q) : rA ext X d 89 176 [some (.ref X.1), some (.int x1), some (.int x2), some (.int x3), some (.int x4), some (.int x5), some (.int x6), some (.int x7), o8, o9] [.int xk0] W Q := by
  intro S hS
  refine aw_ist j89_176 (Nat.le_of_ble_eq_true rfl) ?_
  refine aw_ild j89_177 rfl ?_
  exact aw_if j89_178 (fun h => k_1 (of_decide_eq_true h) _ hS) (fun h => k_2 (Decidable.of_not_not (of_decide_eq_false h)) _ hS)
theorem br89_181 {x1 : Int32} {x2 : Int32} {x3 : Int32} {x4 : Int32} {x5 : Int32} {x6 : Int32} {x7 : Int32} {o8 : Option Value} {o9 : Option Value}  (k_1 : (¬ x5 = 0) → rA ext X d 89 190 [some (.ref X.1), some (.int x1), some (.int x2), some (.int x3), some (.int x4), some (.int x5), some (.int x6), some (.int x7), o8, o9] [] W Q) (k_2 : (x5 = 0) → rA ext X d 89 186 [some (.ref X.1), some (.int x1), some (.int x2), some (.int x3), some (.int x4), some (.int x5), some (.int x6), some (.int x7), o8, o9] [] W Q) : rA ext X d 89 181 [some (.ref X.1), some (.int x1), some (.int x2), some (.int x3), some (.int x4), some (.int x5), some (.int x6), some (.int x7), o8, o9] [] W Q := by
  intro S hS
  refine aw_ild j89_181 rfl ?_
  exact aw_if j89_183 (fun h => k_1 (of_decide_eq_true h) _ hS) (fun h => k_2 (Decidable.of_not_not (of_decide_eq_false h)) _ hS)
theorem br89_186 {x1 : Int32} {x2 : Int32} {x3 : Int32} {x4 : Int32} {x5 : Int32} {x6 : Int32} {x7 : Int32} {o8 : Option Value} {o9 : Option Value}  (k_1 : rA ext X d 89 191 [some (.ref X.1), some (.int x1), some (.int x2), some (.int x3), some (.int x4), some (.int x5), some (.int x6), some (.int x7), o8, o9] [.int (1 : Int32)] W Q) : rA ext X d 89 186 [some (.ref X.1), some (.int x1), some (.int x2), some (.int x3), some (.int x4), some (.int x5), some (.int x6), some (.int x7), o8, o9] [] W Q := by
  intro S hS
  refine aw_con j89_186 ?_
  exact aw_goto j89_187 (k_1 _ hS)
theorem br89_190 {x1 : Int32} {x2 : Int32} {x3 : Int32} {x4 : Int32} {x5 : Int32} {x6 : Int32} {x7 : Int32} {o8 : Option Value} {o9 : Option Value}  (k_1 : rA ext X d 89 191 [some (.ref X.1), some (.int x1), some (.int x2), some (.int x3), some (.int x4), some (.int x5), some (.int x6), some (.int x7), o8, o9] [.int (0 : Int32)] W Q) : rA ext X d 89 190 [some (.ref X.1), some (.int x1), some (.int x2), some (.int x3), some (.int x4), some (.int x5), some (.int x6), some (.int x7), o8, o9] [] W Q := by
  intro S hS
  refine aw_con j89_190 ?_
  exact k_1 _ hS
theorem br89_191 {x1 : Int32} {x2 : Int32} {x3 : Int32} {x4 : Int32} {x5 : Int32} {x6 : Int32} {x7 : Int32} {o8 : Option Value} {o9 : Option Value} {xk0 : Int32}  (k_1 : rA ext X d 89 7 [some (.ref X.1), some (.int x1), some (.int x2), some (.int xk0), some (.int x6), some (.int x5), some (.int x6), some (.int x7), o8, o9] [] W Q) : rA ext X d 89 191 [some (.ref X.1), some (.int x1), some (.int x2), some (.int x3), some (.int x4), some (.int x5), some (.int x6), some (.int x7), o8, o9] [.int xk0] W Q := by
  intro S hS
  refine aw_ist j89_191 (Nat.le_of_ble_eq_true rfl) ?_
  refine aw_ild j89_192 rfl ?_
  refine aw_ist j89_194 (Nat.le_of_ble_eq_true rfl) ?_
  exact aw_goto j89_196 (k_1 _ hS)
theorem br89_199 {x1 : Int32} {x2 : Int32} {x3 : Int32} {x4 : Int32} {o5 : Option Value} {o6 : Option Value} {o7 : Option Value} {o8 : Option Value} {o9 : Option Value}  (k_1 : (x2 = 0) → rA ext X d 89 209 [some (.ref X.1), some (.int x1), some (.int x2), some (.int x3), some (.int x4), o5, o6, o7, o8, o9] [] W Q) (k_2 : (¬ (x2 = 0)) → rA ext X d 89 203 [some (.ref X.1), some (.int x1), some (.int x2), some (.int x3), some (.int x4), o5, o6, o7, o8, o9] [] W Q) : rA ext X d 89 199 [some (.ref X.1), some (.int x1), some (.int x2), some (.int x3), some (.int x4), o5, o6, o7, o8, o9] [] W Q := by
  intro S hS
  refine aw_ild j89_199 rfl ?_
  exact aw_if j89_200 (fun h => k_1 (of_decide_eq_true h) _ hS) (fun h => k_2 (of_decide_eq_false h) _ hS)
theorem br89_203 {x1 : Int32} {x2 : Int32} {x3 : Int32} {x4 : Int32} {o5 : Option Value} {o6 : Option Value} {o7 : Option Value} {o8 : Option Value} {o9 : Option Value} {P_1 : rW → Prop} (m_4 : rCv ext X d 88 [.ref X.1, .int (4 : Int32), .int x1] W P_1) (k_5 : ∀ W_2, P_1 W_2 → rA ext X (d + 1) 89 209 [some (.ref X.1), some (.int x1), some (.int x2), some (.int x3), some (.int x4), o5, o6, o7, o8, o9] [] W_2 Q) : rA ext X (d + 1) 89 203 [some (.ref X.1), some (.int x1), some (.int x2), some (.int x3), some (.int x4), o5, o6, o7, o8, o9] [] W Q := by
  intro S hS
  refine aw_ald j89_203 rfl rfl ?_
  refine aw_con j89_204 ?_
  refine aw_ild j89_205 rfl ?_
  refine aw_callv (as := [.ref X.1, .int (4 : Int32), .int x1]) j89_206 rfl rfl (Nat.le_of_ble_eq_true rfl) cy88.1 cy88.2 (cs_cons rfl (cs_cons rfl (cs_cons rfl cs_nil))) (decide_eq_true hS.to) (m_4 _ hS) (fun S1 h1 => ?_)
  obtain ⟨W1, h1, h2⟩ := h1
  exact k_5 W1 h2 S1 h1
theorem br89_209 {x1 : Int32} {x2 : Int32} {x3 : Int32} {x4 : Int32} {o5 : Option Value} {o6 : Option Value} {o7 : Option Value} {o8 : Option Value} {o9 : Option Value}  (k_1 : (x3 = 0) → rA ext X d 89 219 [some (.ref X.1), some (.int x1), some (.int x2), some (.int x3), some (.int x4), o5, o6, o7, o8, o9] [] W Q) (k_2 : (¬ (x3 = 0)) → rA ext X d 89 213 [some (.ref X.1), some (.int x1), some (.int x2), some (.int x3), some (.int x4), o5, o6, o7, o8, o9] [] W Q) : rA ext X d 89 209 [some (.ref X.1), some (.int x1), some (.int x2), some (.int x3), some (.int x4), o5, o6, o7, o8, o9] [] W Q := by
  intro S hS
  refine aw_ild j89_209 rfl ?_
  exact aw_if j89_210 (fun h => k_1 (of_decide_eq_true h) _ hS) (fun h => k_2 (of_decide_eq_false h) _ hS)
theorem br89_213 {x1 : Int32} {x2 : Int32} {x3 : Int32} {x4 : Int32} {o5 : Option Value} {o6 : Option Value} {o7 : Option Value} {o8 : Option Value} {o9 : Option Value} {P_1 : rW → Prop} (m_4 : rCv ext X d 88 [.ref X.1, .int (5 : Int32), .int x1] W P_1) (k_5 : ∀ W_2, P_1 W_2 → rA ext X (d + 1) 89 219 [some (.ref X.1), some (.int x1), some (.int x2), some (.int x3), some (.int x4), o5, o6, o7, o8, o9] [] W_2 Q) : rA ext X (d + 1) 89 213 [some (.ref X.1), some (.int x1), some (.int x2), some (.int x3), some (.int x4), o5, o6, o7, o8, o9] [] W Q := by
  intro S hS
  refine aw_ald j89_213 rfl rfl ?_
  refine aw_con j89_214 ?_
  refine aw_ild j89_215 rfl ?_
  refine aw_callv (as := [.ref X.1, .int (5 : Int32), .int x1]) j89_216 rfl rfl (Nat.le_of_ble_eq_true rfl) cy88.1 cy88.2 (cs_cons rfl (cs_cons rfl (cs_cons rfl cs_nil))) (decide_eq_true hS.to) (m_4 _ hS) (fun S1 h1 => ?_)
  obtain ⟨W1, h1, h2⟩ := h1
  exact k_5 W1 h2 S1 h1
theorem br89_219 {x1 : Int32} {x2 : Int32} {x3 : Int32} {x4 : Int32} {o5 : Option Value} {o6 : Option Value} {o7 : Option Value} {o8 : Option Value} {o9 : Option Value}  (k_1 : Q none W) : rA ext X d 89 219 [some (.ref X.1), some (.int x1), some (.int x2), some (.int x3), some (.int x4), o5, o6, o7, o8, o9] [] W Q := by
  intro S hS
  exact aw_vret j89_219 rt89 ⟨_, hS, k_1⟩
/-! Ref_fault -/
theorem br90_0 {x1 : Int32} {x2 : Int32} {P_1 : Int32 → rW → Prop} (m_4 : rCi ext X d 65 [.int x1, .int (0 : Int32), .int ((W.2 29) - (1 : Int32))] W P_1) (k_5 : ∀ v_3 W_2, P_1 v_3 W_2 → rA ext X (d + 1) 90 12 [some (.ref X.1), some (.int x1), some (.int x2)] [.int v_3, .ref X.1] W_2 Q) : rA ext X (d + 1) 90 0 [some (.ref X.1), some (.int x1), some (.int x2)] [] W Q := by
  intro S hS
  refine aw_ald j90_0 rfl rfl ?_
  refine aw_ild j90_1 rfl ?_
  refine aw_con j90_2 ?_
  refine aw_ald j90_3 rfl rfl ?_
  refine aw_get j90_4 hS.to (hS.n 29 rfl) ?_
  refine aw_con j90_7 ?_
  refine aw_bin (z := ((W.2 29) - (1 : Int32))) j90_8 rfl ?_
  refine aw_calli (as := [.int x1, .int (0 : Int32), .int ((W.2 29) - (1 : Int32))]) j90_9 rfl rfl (Nat.le_of_ble_eq_true rfl) cy65.1 cy65.2 (cs_cons rfl (cs_cons rfl (cs_cons rfl cs_nil))) rfl (m_4 _ hS) (fun v1 S1 h1 => ?_)
  obtain ⟨W1, h1, h2⟩ := h1
  exact k_5 v1 W1 h2 S1 h1
theorem br90_12 {x1 : Int32} {x2 : Int32} {xk1 : Int32}  (k_1 : (xk1 = 0) → rA ext X d 90 24 [some (.ref X.1), some (.int x1), some (.int x2)] [.ref X.1] W Q) (k_2 : (¬ (xk1 = 0)) → rA ext X d 90 15 [some (.ref X.1), some (.int x1), some (.int x2)] [.ref X.1] W Q) : rA ext X d 90 12 [some (.ref X.1), some (.int x1), some (.int x2)] [.int xk1, .ref X.1] W Q := by
  intro S hS
  exact aw_if j90_12 (fun h => k_1 (of_decide_eq_true h) _ hS) (fun h => k_2 (of_decide_eq_false h) _ hS)
theorem br90_15 {x1 : Int32} {x2 : Int32} {P_1 : Int32 → rW → Prop} (m_4 : rCi ext X d 65 [.int x2, .int (0 : Int32), .int (1 : Int32)] W P_1) (k_5 : ∀ v_3 W_2, P_1 v_3 W_2 → rA ext X (d + 1) 90 21 [some (.ref X.1), some (.int x1), some (.int x2)] [.int v_3, .ref X.1] W_2 Q) : rA ext X (d + 1) 90 15 [some (.ref X.1), some (.int x1), some (.int x2)] [.ref X.1] W Q := by
  intro S hS
  refine aw_ild j90_15 rfl ?_
  refine aw_con j90_16 ?_
  refine aw_con j90_17 ?_
  refine aw_calli (as := [.int x2, .int (0 : Int32), .int (1 : Int32)]) j90_18 rfl rfl (Nat.le_of_ble_eq_true rfl) cy65.1 cy65.2 (cs_cons rfl (cs_cons rfl (cs_cons rfl cs_nil))) rfl (m_4 _ hS) (fun v1 S1 h1 => ?_)
  obtain ⟨W1, h1, h2⟩ := h1
  exact k_5 v1 W1 h2 S1 h1
theorem br90_21 {x1 : Int32} {x2 : Int32} {xk1 : Int32}  (k_1 : (¬ xk1 = 0) → rA ext X d 90 28 [some (.ref X.1), some (.int x1), some (.int x2)] [.ref X.1] W Q) (k_2 : (xk1 = 0) → rA ext X d 90 24 [some (.ref X.1), some (.int x1), some (.int x2)] [.ref X.1] W Q) : rA ext X d 90 21 [some (.ref X.1), some (.int x1), some (.int x2)] [.int xk1, .ref X.1] W Q := by
  intro S hS
  exact aw_if j90_21 (fun h => k_1 (of_decide_eq_true h) _ hS) (fun h => k_2 (Decidable.of_not_not (of_decide_eq_false h)) _ hS)
theorem br90_24 {x1 : Int32} {x2 : Int32}  (k_1 : rA ext X d 90 29 [some (.ref X.1), some (.int x1), some (.int x2)] [.int (1 : Int32), .ref X.1] W Q) : rA ext X d 90 24 [some (.ref X.1), some (.int x1), some (.int x2)] [.ref X.1] W Q := by
  intro S hS
  refine aw_con j90_24 ?_
  exact aw_goto j90_25 (k_1 _ hS)
theorem br90_28 {x1 : Int32} {x2 : Int32}  (k_1 : rA ext X d 90 29 [some (.ref X.1), some (.int x1), some (.int x2)] [.int (0 : Int32), .ref X.1] W Q) : rA ext X d 90 28 [some (.ref X.1), some (.int x1), some (.int x2)] [.ref X.1] W Q := by
  intro S hS
  refine aw_con j90_28 ?_
  exact k_1 _ hS
theorem br90_29 {x1 : Int32} {x2 : Int32} {xk1 : Int32}  (k_1 : (((hset W 0 xk1).2 0) ≤ 0) → rA ext X d 90 41 [some (.ref X.1), some (.int x1), some (.int x2)] [] (hset W 0 xk1) Q) (k_2 : (¬ (((hset W 0 xk1).2 0) ≤ 0)) → rA ext X d 90 39 [some (.ref X.1), some (.int x1), some (.int x2)] [] (hset W 0 xk1) Q) : rA ext X d 90 29 [some (.ref X.1), some (.int x1), some (.int x2)] [.int xk1, .ref X.1] W Q := by
  intro S hS
  refine aw_put j90_29 hS.to rfl ?_
  have hS := hS.seth 0 xk1 rfl
  refine aw_ald j90_32 rfl rfl ?_
  refine aw_get j90_33 hS.to (hS.n 0 rfl) ?_
  exact aw_if j90_36 (fun h => k_1 (of_decide_eq_true h) _ hS) (fun h => k_2 (of_decide_eq_false h) _ hS)
theorem br90_39 {x1 : Int32} {x2 : Int32}  (k_1 : Q (some (.int (0 : Int32))) W) : rA ext X d 90 39 [some (.ref X.1), some (.int x1), some (.int x2)] [] W Q := by
  intro S hS
  refine aw_con j90_39 ?_
  exact aw_ret j90_40 (by rw [rt90]; exact rfl) ⟨_, hS, k_1⟩
theorem br90_41 {x1 : Int32} {x2 : Int32}  (k_1 : (¬ x2 = 0) → rA ext X d 90 54 [some (.ref X.1), some (.int x1), some (.int x2)] [] W Q) (k_2 : (x2 = 0) → rA ext X d 90 45 [some (.ref X.1), some (.int x1), some (.int x2)] [] W Q) : rA ext X d 90 41 [some (.ref X.1), some (.int x1), some (.int x2)] [] W Q := by
  intro S hS
  refine aw_ild j90_41 rfl ?_
  exact aw_if j90_42 (fun h => k_1 (of_decide_eq_true h) _ hS) (fun h => k_2 (Decidable.of_not_not (of_decide_eq_false h)) _ hS)
theorem br90_45 {x1 : Int32} {x2 : Int32} {i_1 : Nat} (e_2 : x1 = nI i_1) (c_3 : i_1 < 500) (k_4 : rA ext X d 90 60 [some (.ref X.1), some (.int x1), some (.int x2)] [.int (W.1 30 i_1)] W Q) : rA ext X d 90 45 [some (.ref X.1), some (.int x1), some (.int x2)] [] W Q := by
  intro S hS
  refine aw_ald j90_45 rfl rfl ?_
  refine aw_get j90_46 hS.to (hS.fa 30 rfl) ?_
  refine aw_ild j90_49 rfl ?_
  refine aw_xld (n := 500) j90_50 (hS.ta 30 rfl) e_2 c_3 (by decide) (hS.g 30 i_1 rfl c_3) ?_
  exact aw_goto j90_51 (k_4 _ hS)
theorem br90_54 {x1 : Int32} {x2 : Int32} {i_1 : Nat} (e_2 : x1 = nI i_1) (c_3 : i_1 < 500) (k_4 : rA ext X d 90 60 [some (.ref X.1), some (.int x1), some (.int x2)] [.int (W.1 31 i_1)] W Q) : rA ext X d 90 54 [some (.ref X.1), some (.int x1), some (.int x2)] [] W Q := by
  intro S hS
  refine aw_ald j90_54 rfl rfl ?_
  refine aw_get j90_55 hS.to (hS.fa 31 rfl) ?_
  refine aw_ild j90_58 rfl ?_
  refine aw_xld (n := 500) j90_59 (hS.ta 31 rfl) e_2 c_3 (by decide) (hS.g 31 i_1 rfl c_3) ?_
  exact k_4 _ hS
theorem br90_60 {x1 : Int32} {x2 : Int32} {xk0 : Int32}  (k_1 : Q (some (.int xk0)) W) : rA ext X d 90 60 [some (.ref X.1), some (.int x1), some (.int x2)] [.int xk0] W Q := by
  intro S hS
  exact aw_ret j90_60 (by rw [rt90]; exact rfl) ⟨_, hS, k_1⟩
/-! Ref_print -/
theorem br91_0 {x1 : Int32} {o2 : Option Value} {o3 : Option Value} {o4 : Option Value} {P_1 : Int32 → rW → Prop} (m_4 : rCi ext X d 70 [.ref X.1, .int x1] (hset W 0 (0 : Int32)) P_1) (k_5 : ∀ v_3 W_2, P_1 v_3 W_2 → rA ext X (d + 1) 91 10 [some (.ref X.1), some (.int x1), o2, o3, o4] [.int v_3] W_2 Q) : rA ext X (d + 1) 91 0 [some (.ref X.1), some (.int x1), o2, o3, o4] [] W Q := by
  intro S hS
  refine aw_ald j91_0 rfl rfl ?_
  refine aw_con j91_1 ?_
  refine aw_put j91_2 hS.to rfl ?_
  have hS := hS.seth 0 (0 : Int32) rfl
  refine aw_ald j91_5 rfl rfl ?_
  refine aw_ild j91_6 rfl ?_
  refine aw_calli (as := [.ref X.1, .int x1]) j91_7 rfl rfl (Nat.le_of_ble_eq_true rfl) cy70.1 cy70.2 (cs_cons rfl (cs_cons rfl cs_nil)) (decide_eq_true hS.to) (m_4 _ hS) (fun v1 S1 h1 => ?_)
  obtain ⟨W1, h1, h2⟩ := h1
  exact k_5 v1 W1 h2 S1 h1
theorem br91_10 {x1 : Int32} {o2 : Option Value} {o3 : Option Value} {o4 : Option Value} {xk0 : Int32}  (k_1 : (¬ xk0 = 0) → rA ext X d 91 15 [some (.ref X.1), some (.int x1), o2, o3, o4] [] W Q) (k_2 : (xk0 = 0) → rA ext X d 91 13 [some (.ref X.1), some (.int x1), o2, o3, o4] [] W Q) : rA ext X d 91 10 [some (.ref X.1), some (.int x1), o2, o3, o4] [.int xk0] W Q := by
  intro S hS
  exact aw_if j91_10 (fun h => k_1 (of_decide_eq_true h) _ hS) (fun h => k_2 (Decidable.of_not_not (of_decide_eq_false h)) _ hS)
theorem br91_13 {x1 : Int32} {o2 : Option Value} {o3 : Option Value} {o4 : Option Value}  (k_1 : Q (some (.int (-1 : Int32))) W) : rA ext X d 91 13 [some (.ref X.1), some (.int x1), o2, o3, o4] [] W Q := by
  intro S hS
  refine aw_con j91_13 ?_
  exact aw_ret j91_14 (by rw [rt91]; exact rfl) ⟨_, hS, k_1⟩
theorem br91_15 {x1 : Int32} {o2 : Option Value} {o3 : Option Value} {o4 : Option Value} {P_1 : rW → Prop} (m_4 : rCv ext X d 80 [.ref X.1, .int x1] W P_1) (k_5 : ∀ W_2, P_1 W_2 → rA ext X (d + 1) 91 20 [some (.ref X.1), some (.int x1), o2, o3, o4] [] W_2 Q) : rA ext X (d + 1) 91 15 [some (.ref X.1), some (.int x1), o2, o3, o4] [] W Q := by
  intro S hS
  refine aw_ald j91_15 rfl rfl ?_
  refine aw_ild j91_16 rfl ?_
  refine aw_callv (as := [.ref X.1, .int x1]) j91_17 rfl rfl (Nat.le_of_ble_eq_true rfl) cy80.1 cy80.2 (cs_cons rfl (cs_cons rfl cs_nil)) (decide_eq_true hS.to) (m_4 _ hS) (fun S1 h1 => ?_)
  obtain ⟨W1, h1, h2⟩ := h1
  exact k_5 W1 h2 S1 h1
theorem br91_20 {x1 : Int32} {o2 : Option Value} {o3 : Option Value} {o4 : Option Value}  (k_1 : rA ext X d 91 27 [some (.ref X.1), some (.int x1), some (.int (0 : Int32)), o3, o4] [] (hset W 32 (0 : Int32)) Q) : rA ext X d 91 20 [some (.ref X.1), some (.int x1), o2, o3, o4] [] W Q := by
  intro S hS
  refine aw_ald j91_20 rfl rfl ?_
  refine aw_con j91_21 ?_
  refine aw_put j91_22 hS.to rfl ?_
  have hS := hS.seth 32 (0 : Int32) rfl
  refine aw_con j91_25 ?_
  refine aw_ist j91_26 (Nat.le_of_ble_eq_true rfl) ?_
  exact k_1 _ hS
theorem br91_27 {x1 : Int32} {x2 : Int32} {o3 : Option Value} {o4 : Option Value}  (k_1 : ((W.2 19) ≤ x2) → rA ext X d 91 151 [some (.ref X.1), some (.int x1), some (.int x2), o3, o4] [] W Q) (k_2 : (¬ ((W.2 19) ≤ x2)) → rA ext X d 91 35 [some (.ref X.1), some (.int x1), some (.int x2), o3, o4] [] W Q) : rA ext X d 91 27 [some (.ref X.1), some (.int x1), some (.int x2), o3, o4] [] W Q := by
  intro S hS
  refine aw_ild j91_27 rfl ?_
  refine aw_ald j91_28 rfl rfl ?_
  refine aw_get j91_29 hS.to (hS.n 19 rfl) ?_
  exact aw_ic j91_32 (fun h => k_1 (of_decide_eq_true h) _ hS) (fun h => k_2 (of_decide_eq_false h) _ hS)
theorem br91_35 {x1 : Int32} {x2 : Int32} {o3 : Option Value} {o4 : Option Value} {i_1 : Nat} (e_2 : x2 = nI i_1) (c_3 : i_1 < 120) (k_4 : rA ext X d 91 45 [some (.ref X.1), some (.int x1), some (.int x2), some (.int (W.1 20 i_1)), some (.int (0 : Int32))] [] W Q) : rA ext X d 91 35 [some (.ref X.1), some (.int x1), some (.int x2), o3, o4] [] W Q := by
  intro S hS
  refine aw_ald j91_35 rfl rfl ?_
  refine aw_get j91_36 hS.to (hS.fa 20 rfl) ?_
  refine aw_ild j91_39 rfl ?_
  refine aw_xld (n := 120) j91_40 (hS.ta 20 rfl) e_2 c_3 (by decide) (hS.g 20 i_1 rfl c_3) ?_
  refine aw_ist j91_41 (Nat.le_of_ble_eq_true rfl) ?_
  refine aw_con j91_42 ?_
  refine aw_ist j91_43 (Nat.le_of_ble_eq_true rfl) ?_
  exact k_4 _ hS
theorem br91_45 {x1 : Int32} {x2 : Int32} {x3 : Int32} {x4 : Int32} {i_1 : Nat} (e_2 : x2 = nI i_1) (c_3 : i_1 < 120) (k_4 : ((W.1 21 i_1) ≤ x4) → rA ext X d 91 68 [some (.ref X.1), some (.int x1), some (.int x2), some (.int x3), some (.int x4)] [] W Q) (k_5 : (¬ ((W.1 21 i_1) ≤ x4)) → rA ext X d 91 56 [some (.ref X.1), some (.int x1), some (.int x2), some (.int x3), some (.int x4)] [] W Q) : rA ext X d 91 45 [some (.ref X.1), some (.int x1), some (.int x2), some (.int x3), some (.int x4)] [] W Q := by
  intro S hS
  refine aw_ild j91_45 rfl ?_
  refine aw_ald j91_47 rfl rfl ?_
  refine aw_get j91_48 hS.to (hS.fa 21 rfl) ?_
  refine aw_ild j91_51 rfl ?_
  refine aw_xld (n := 120) j91_52 (hS.ta 21 rfl) e_2 c_3 (by decide) (hS.g 21 i_1 rfl c_3) ?_
  exact aw_ic j91_53 (fun h => k_4 (of_decide_eq_true h) _ hS) (fun h => k_5 (of_decide_eq_false h) _ hS)
theorem br91_56 {x1 : Int32} {x2 : Int32} {x3 : Int32} {x4 : Int32} {P_1 : rW → Prop} (m_4 : rCv ext X d 92 [.ref X.1, .int (32 : Int32)] W P_1) (k_5 : ∀ W_2, P_1 W_2 → rA ext X (d + 1) 91 62 [some (.ref X.1), some (.int x1), some (.int x2), some (.int x3), some (.int x4)] [] W_2 Q) : rA ext X (d + 1) 91 56 [some (.ref X.1), some (.int x1), some (.int x2), some (.int x3), some (.int x4)] [] W Q := by
  intro S hS
  refine aw_ald j91_56 rfl rfl ?_
  refine aw_con j91_57 ?_
  refine aw_callv (as := [.ref X.1, .int (32 : Int32)]) j91_59 rfl rfl (Nat.le_of_ble_eq_true rfl) cy92.1 cy92.2 (cs_cons rfl (cs_cons rfl cs_nil)) (decide_eq_true hS.to) (m_4 _ hS) (fun S1 h1 => ?_)
  obtain ⟨W1, h1, h2⟩ := h1
  exact k_5 W1 h2 S1 h1
theorem br91_62 {x1 : Int32} {x2 : Int32} {x3 : Int32} {x4 : Int32}  (k_1 : rA ext X d 91 45 [some (.ref X.1), some (.int x1), some (.int x2), some (.int x3), some (.int (x4 + 1))] [] W Q) : rA ext X d 91 62 [some (.ref X.1), some (.int x1), some (.int x2), some (.int x3), some (.int x4)] [] W Q := by
  intro S hS
  refine aw_inc j91_62 rfl ?_
  exact aw_goto j91_65 (k_1 _ hS)
theorem br91_68 {x1 : Int32} {x2 : Int32} {x3 : Int32} {x4 : Int32}  (k_1 : rA ext X d 91 73 [some (.ref X.1), some (.int x1), some (.int x2), some (.int x3), some (.int (1000 : Int32))] [] W Q) : rA ext X d 91 68 [some (.ref X.1), some (.int x1), some (.int x2), some (.int x3), some (.int x4)] [] W Q := by
  intro S hS
  refine aw_con j91_68 ?_
  refine aw_ist j91_71 (Nat.le_of_ble_eq_true rfl) ?_
  exact k_1 _ hS
theorem br91_73 {x1 : Int32} {x2 : Int32} {x3 : Int32} {x4 : Int32}  (k_1 : (x4 ≤ 0) → rA ext X d 91 124 [some (.ref X.1), some (.int x1), some (.int x2), some (.int x3), some (.int x4)] [] W Q) (k_2 : (¬ (x4 ≤ 0)) → rA ext X d 91 78 [some (.ref X.1), some (.int x1), some (.int x2), some (.int x3), some (.int x4)] [] W Q) : rA ext X d 91 73 [some (.ref X.1), some (.int x1), some (.int x2), some (.int x3), some (.int x4)] [] W Q := by
  intro S hS
  refine aw_ild j91_73 rfl ?_
  exact aw_if j91_75 (fun h => k_1 (of_decide_eq_true h) _ hS) (fun h => k_2 (of_decide_eq_false h) _ hS)
theorem br91_78 {x1 : Int32} {x2 : Int32} {x3 : Int32} {x4 : Int32} {i_1 : Nat} (e_2 : x3 = nI i_1) (c_3 : i_1 < 120) (k_4 : (x4 ≤ (W.1 9 i_1)) → rA ext X d 91 95 [some (.ref X.1), some (.int x1), some (.int x2), some (.int x3), some (.int x4)] [] W Q) (k_5 : (¬ (x4 ≤ (W.1 9 i_1))) → rA ext X d 91 89 [some (.ref X.1), some (.int x1), some (.int x2), some (.int x3), some (.int x4)] [] W Q) : rA ext X d 91 78 [some (.ref X.1), some (.int x1), some (.int x2), some (.int x3), some (.int x4)] [] W Q := by
  intro S hS
  refine aw_ald j91_78 rfl rfl ?_
  refine aw_get j91_79 hS.to (hS.fa 9 rfl) ?_
  refine aw_ild j91_82 rfl ?_
  refine aw_xld (n := 120) j91_83 (hS.ta 9 rfl) e_2 c_3 (by decide) (hS.g 9 i_1 rfl c_3) ?_
  refine aw_ild j91_84 rfl ?_
  exact aw_ic j91_86 (fun h => k_4 (of_decide_eq_true h) _ hS) (fun h => k_5 (of_decide_eq_false h) _ hS)
theorem br91_89 {x1 : Int32} {x2 : Int32} {x3 : Int32} {x4 : Int32}  (k_1 : (¬ x4 = (1 : Int32)) → rA ext X d 91 114 [some (.ref X.1), some (.int x1), some (.int x2), some (.int x3), some (.int x4)] [] W Q) (k_2 : (x4 = (1 : Int32)) → rA ext X d 91 95 [some (.ref X.1), some (.int x1), some (.int x2), some (.int x3), some (.int x4)] [] W Q) : rA ext X d 91 89 [some (.ref X.1), some (.int x1), some (.int x2), some (.int x3), some (.int x4)] [] W Q := by
  intro S hS
  refine aw_ild j91_89 rfl ?_
  refine aw_con j91_91 ?_
  exact aw_ic j91_92 (fun h => k_1 (of_decide_eq_true h) _ hS) (fun h => k_2 (Decidable.of_not_not (of_decide_eq_false h)) _ hS)
theorem br91_95 {x1 : Int32} {x2 : Int32} {x3 : Int32} {x4 : Int32} {i_1 : Nat} {P_5 : rW → Prop} (e_2 : x3 = nI i_1) (c_3 : i_1 < 120) (z_4 : ¬ x4 = 0) (m_8 : rCv ext X d 92 [.ref X.1, .int ((48 : Int32) + (((W.1 9 i_1) / x4) - ((W.1 9 i_1) / x4) / (10 : Int32) * (10 : Int32)))] W P_5) (k_9 : ∀ W_6, P_5 W_6 → rA ext X (d + 1) 91 114 [some (.ref X.1), some (.int x1), some (.int x2), some (.int x3), some (.int x4)] [] W_6 Q) : rA ext X (d + 1) 91 95 [some (.ref X.1), some (.int x1), some (.int x2), some (.int x3), some (.int x4)] [] W Q := by
  intro S hS
  refine aw_ald j91_95 rfl rfl ?_
  refine aw_con j91_96 ?_
  refine aw_ald j91_98 rfl rfl ?_
  refine aw_get j91_99 hS.to (hS.fa 9 rfl) ?_
  refine aw_ild j91_102 rfl ?_
  refine aw_xld (n := 120) j91_103 (hS.ta 9 rfl) e_2 c_3 (by decide) (hS.g 9 i_1 rfl c_3) ?_
  refine aw_ild j91_104 rfl ?_
  refine aw_bin (z := ((W.1 9 i_1) / x4)) j91_106 (by simp only [av_bin]; exact if_neg z_4) ?_
  refine aw_con j91_107 ?_
  refine aw_bin (z := (((W.1 9 i_1) / x4) - ((W.1 9 i_1) / x4) / (10 : Int32) * (10 : Int32))) j91_109 (by simp only [av_bin]; exact if_neg (by decide)) ?_
  refine aw_bin (z := ((48 : Int32) + (((W.1 9 i_1) / x4) - ((W.1 9 i_1) / x4) / (10 : Int32) * (10 : Int32)))) j91_110 rfl ?_
  refine aw_callv (as := [.ref X.1, .int ((48 : Int32) + (((W.1 9 i_1) / x4) - ((W.1 9 i_1) / x4) / (10 : Int32) * (10 : Int32)))]) j91_111 rfl rfl (Nat.le_of_ble_eq_true rfl) cy92.1 cy92.2 (cs_cons rfl (cs_cons rfl cs_nil)) (decide_eq_true hS.to) (m_8 _ hS) (fun S1 h1 => ?_)
  obtain ⟨W1, h1, h2⟩ := h1
  exact k_9 W1 h2 S1 h1
theorem br91_114 {x1 : Int32} {x2 : Int32} {x3 : Int32} {x4 : Int32}  (k_1 : rA ext X d 91 73 [some (.ref X.1), some (.int x1), some (.int x2), some (.int x3), some (.int (x4 / (10 : Int32)))] [] W Q) : rA ext X d 91 114 [some (.ref X.1), some (.int x1), some (.int x2), some (.int x3), some (.int x4)] [] W Q := by
  intro S hS
  refine aw_ild j91_114 rfl ?_
  refine aw_con j91_116 ?_
  refine aw_bin (z := (x4 / (10 : Int32))) j91_118 (by simp only [av_bin]; exact if_neg (by decide)) ?_
  refine aw_ist j91_119 (Nat.le_of_ble_eq_true rfl) ?_
  exact aw_goto j91_121 (k_1 _ hS)
theorem br91_124 {x1 : Int32} {x2 : Int32} {x3 : Int32} {x4 : Int32} {i_1 : Nat} (e_2 : x3 = nI i_1) (c_3 : i_1 < 120) (k_4 : ((W.1 10 i_1) < 0) → rA ext X d 91 139 [some (.ref X.1), some (.int x1), some (.int x2), some (.int x3), some (.int x4)] [] W Q) (k_5 : (¬ ((W.1 10 i_1) < 0)) → rA ext X d 91 133 [some (.ref X.1), some (.int x1), some (.int x2), some (.int x3), some (.int x4)] [] W Q) : rA ext X d 91 124 [some (.ref X.1), some (.int x1), some (.int x2), some (.int x3), some (.int x4)] [] W Q := by
  intro S hS
  refine aw_ald j91_124 rfl rfl ?_
  refine aw_get j91_125 hS.to (hS.fa 10 rfl) ?_
  refine aw_ild j91_128 rfl ?_
  refine aw_xld (n := 120) j91_129 (hS.ta 10 rfl) e_2 c_3 (by decide) (hS.g 10 i_1 rfl c_3) ?_
  exact aw_if j91_130 (fun h => k_4 (of_decide_eq_true h) _ hS) (fun h => k_5 (of_decide_eq_false h) _ hS)
theorem br91_133 {x1 : Int32} {x2 : Int32} {x3 : Int32} {x4 : Int32} {P_1 : rW → Prop} (m_4 : rCv ext X d 92 [.ref X.1, .int (61 : Int32)] W P_1) (k_5 : ∀ W_2, P_1 W_2 → rA ext X (d + 1) 91 139 [some (.ref X.1), some (.int x1), some (.int x2), some (.int x3), some (.int x4)] [] W_2 Q) : rA ext X (d + 1) 91 133 [some (.ref X.1), some (.int x1), some (.int x2), some (.int x3), some (.int x4)] [] W Q := by
  intro S hS
  refine aw_ald j91_133 rfl rfl ?_
  refine aw_con j91_134 ?_
  refine aw_callv (as := [.ref X.1, .int (61 : Int32)]) j91_136 rfl rfl (Nat.le_of_ble_eq_true rfl) cy92.1 cy92.2 (cs_cons rfl (cs_cons rfl cs_nil)) (decide_eq_true hS.to) (m_4 _ hS) (fun S1 h1 => ?_)
  obtain ⟨W1, h1, h2⟩ := h1
  exact k_5 W1 h2 S1 h1
theorem br91_139 {x1 : Int32} {x2 : Int32} {x3 : Int32} {x4 : Int32} {P_1 : rW → Prop} (m_4 : rCv ext X d 92 [.ref X.1, .int (10 : Int32)] W P_1) (k_5 : ∀ W_2, P_1 W_2 → rA ext X (d + 1) 91 145 [some (.ref X.1), some (.int x1), some (.int x2), some (.int x3), some (.int x4)] [] W_2 Q) : rA ext X (d + 1) 91 139 [some (.ref X.1), some (.int x1), some (.int x2), some (.int x3), some (.int x4)] [] W Q := by
  intro S hS
  refine aw_ald j91_139 rfl rfl ?_
  refine aw_con j91_140 ?_
  refine aw_callv (as := [.ref X.1, .int (10 : Int32)]) j91_142 rfl rfl (Nat.le_of_ble_eq_true rfl) cy92.1 cy92.2 (cs_cons rfl (cs_cons rfl cs_nil)) (decide_eq_true hS.to) (m_4 _ hS) (fun S1 h1 => ?_)
  obtain ⟨W1, h1, h2⟩ := h1
  exact k_5 W1 h2 S1 h1
theorem br91_145 {x1 : Int32} {x2 : Int32} {x3 : Int32} {x4 : Int32}  (k_1 : rA ext X d 91 27 [some (.ref X.1), some (.int x1), some (.int (x2 + 1)), some (.int x3), some (.int x4)] [] W Q) : rA ext X d 91 145 [some (.ref X.1), some (.int x1), some (.int x2), some (.int x3), some (.int x4)] [] W Q := by
  intro S hS
  refine aw_inc j91_145 rfl ?_
  exact aw_goto j91_148 (k_1 _ hS)
theorem br91_151 {x1 : Int32} {x2 : Int32} {o3 : Option Value} {o4 : Option Value}  (k_1 : Q (some (.int (W.2 32))) W) : rA ext X d 91 151 [some (.ref X.1), some (.int x1), some (.int x2), o3, o4] [] W Q := by
  intro S hS
  refine aw_ald j91_151 rfl rfl ?_
  refine aw_get j91_152 hS.to (hS.n 32 rfl) ?_
  exact aw_ret j91_155 (by rw [rt91]; exact rfl) ⟨_, hS, k_1⟩
/-! Ref_put -/
theorem br92_0 {x1 : Int32} {i_1 : Nat} (e_2 : (W.2 32) = nI i_1) (c_3 : i_1 < 9000) (k_4 : Q none (hset (gset W 33 i_1 ((x1).toInt8.toInt32).toInt8.toInt32) 32 (((gset W 33 i_1 ((x1).toInt8.toInt32).toInt8.toInt32).2 32) + (1 : Int32)))) : rA ext X d 92 0 [some (.ref X.1), some (.int x1)] [] W Q := by
  intro S hS
  refine aw_ald j92_0 rfl rfl ?_
  refine aw_get j92_1 hS.to (hS.fa 33 rfl) ?_
  refine aw_ald j92_4 rfl rfl ?_
  refine aw_get j92_5 hS.to (hS.n 32 rfl) ?_
  refine aw_ild j92_8 rfl ?_
  refine aw_i2b j92_9 ?_
  refine aw_xst (n := 9000) j92_10 (hS.ta 33 rfl) e_2 c_3 (by decide) ?_
  have hS := hS.seta 33 i_1 ((x1).toInt8.toInt32).toInt8.toInt32 rfl
  refine aw_ald j92_11 rfl rfl ?_
  refine aw_dup j92_12 rfl ?_
  refine aw_get j92_13 hS.to (hS.n 32 rfl) ?_
  refine aw_con j92_16 ?_
  refine aw_bin (z := (((gset W 33 i_1 ((x1).toInt8.toInt32).toInt8.toInt32).2 32) + (1 : Int32))) j92_17 rfl ?_
  refine aw_put j92_18 hS.to rfl ?_
  have hS := hS.seth 32 (((gset W 33 i_1 ((x1).toInt8.toInt32).toInt8.toInt32).2 32) + (1 : Int32)) rfl
  exact aw_vret j92_21 rt92 ⟨_, hS, k_4⟩
/-! Ref_at -/
theorem br93_0 {x1 : Int32} {P_1 : Int32 → rW → Prop} (m_4 : rCi ext X d 65 [.int x1, .int (0 : Int32), .int (((hset W 0 (0 : Int32)).2 32) - (1 : Int32))] (hset W 0 (0 : Int32)) P_1) (k_5 : ∀ v_3 W_2, P_1 v_3 W_2 → rA ext X (d + 1) 93 16 [some (.ref X.1), some (.int x1)] [.int v_3] W_2 Q) : rA ext X (d + 1) 93 0 [some (.ref X.1), some (.int x1)] [] W Q := by
  intro S hS
  refine aw_ald j93_0 rfl rfl ?_
  refine aw_con j93_1 ?_
  refine aw_put j93_2 hS.to rfl ?_
  have hS := hS.seth 0 (0 : Int32) rfl
  refine aw_ild j93_5 rfl ?_
  refine aw_con j93_6 ?_
  refine aw_ald j93_7 rfl rfl ?_
  refine aw_get j93_8 hS.to (hS.n 32 rfl) ?_
  refine aw_con j93_11 ?_
  refine aw_bin (z := (((hset W 0 (0 : Int32)).2 32) - (1 : Int32))) j93_12 rfl ?_
  refine aw_calli (as := [.int x1, .int (0 : Int32), .int (((hset W 0 (0 : Int32)).2 32) - (1 : Int32))]) j93_13 rfl rfl (Nat.le_of_ble_eq_true rfl) cy65.1 cy65.2 (cs_cons rfl (cs_cons rfl (cs_cons rfl cs_nil))) rfl (m_4 _ hS) (fun v1 S1 h1 => ?_)
  obtain ⟨W1, h1, h2⟩ := h1
  exact k_5 v1 W1 h2 S1 h1
theorem br93_16 {x1 : Int32} {xk0 : Int32}  (k_1 : (xk0 = 0) → rA ext X d 93 28 [some (.ref X.1), some (.int x1)] [] W Q) (k_2 : (¬ (xk0 = 0)) → rA ext X d 93 19 [some (.ref X.1), some (.int x1)] [] W Q) : rA ext X d 93 16 [some (.ref X.1), some (.int x1)] [.int xk0] W Q := by
  intro S hS
  exact aw_if j93_16 (fun h => k_1 (of_decide_eq_true h) _ hS) (fun h => k_2 (of_decide_eq_false h) _ hS)
theorem br93_19 {x1 : Int32} {i_1 : Nat} (e_2 : x1 = nI i_1) (c_3 : i_1 < 9000) (k_4 : rA ext X d 93 29 [some (.ref X.1), some (.int x1)] [.int (W.1 33 i_1)] W Q) : rA ext X d 93 19 [some (.ref X.1), some (.int x1)] [] W Q := by
  intro S hS
  refine aw_ald j93_19 rfl rfl ?_
  refine aw_get j93_20 hS.to (hS.fa 33 rfl) ?_
  refine aw_ild j93_23 rfl ?_
  refine aw_xld (n := 9000) j93_24 (hS.ta 33 rfl) e_2 c_3 (by decide) (hS.g 33 i_1 rfl c_3) ?_
  exact aw_goto j93_25 (k_4 _ hS)
theorem br93_28 {x1 : Int32}  (k_1 : rA ext X d 93 29 [some (.ref X.1), some (.int x1)] [.int (-1 : Int32)] W Q) : rA ext X d 93 28 [some (.ref X.1), some (.int x1)] [] W Q := by
  intro S hS
  refine aw_con j93_28 ?_
  exact k_1 _ hS
theorem br93_29 {x1 : Int32} {xk0 : Int32}  (k_1 : Q (some (.int xk0)) W) : rA ext X d 93 29 [some (.ref X.1), some (.int x1)] [.int xk0] W Q := by
  intro S hS
  exact aw_ret j93_29 (by rw [rt93]; exact rfl) ⟨_, hS, k_1⟩
/-! Ref_differ -/
theorem br94_0 {x1 : Int32} {x2 : Int32} {o3 : Option Value} {o4 : Option Value} {o5 : Option Value} {P_1 : Int32 → rW → Prop} (m_4 : rCi ext X d 70 [.ref X.1, .int x1] (hset W 0 (0 : Int32)) P_1) (k_5 : ∀ v_3 W_2, P_1 v_3 W_2 → rA ext X (d + 1) 94 10 [some (.ref X.1), some (.int x1), some (.int x2), o3, o4, o5] [.int v_3] W_2 Q) : rA ext X (d + 1) 94 0 [some (.ref X.1), some (.int x1), some (.int x2), o3, o4, o5] [] W Q := by
  intro S hS
  refine aw_ald j94_0 rfl rfl ?_
  refine aw_con j94_1 ?_
  refine aw_put j94_2 hS.to rfl ?_
  have hS := hS.seth 0 (0 : Int32) rfl
  refine aw_ald j94_5 rfl rfl ?_
  refine aw_ild j94_6 rfl ?_
  refine aw_calli (as := [.ref X.1, .int x1]) j94_7 rfl rfl (Nat.le_of_ble_eq_true rfl) cy70.1 cy70.2 (cs_cons rfl (cs_cons rfl cs_nil)) (decide_eq_true hS.to) (m_4 _ hS) (fun v1 S1 h1 => ?_)
  obtain ⟨W1, h1, h2⟩ := h1
  exact k_5 v1 W1 h2 S1 h1
theorem br94_10 {x1 : Int32} {x2 : Int32} {o3 : Option Value} {o4 : Option Value} {o5 : Option Value} {xk0 : Int32}  (k_1 : (xk0 = 0) → rA ext X d 94 21 [some (.ref X.1), some (.int x1), some (.int x2), o3, o4, o5] [] W Q) (k_2 : (¬ (xk0 = 0)) → rA ext X d 94 13 [some (.ref X.1), some (.int x1), some (.int x2), o3, o4, o5] [] W Q) : rA ext X d 94 10 [some (.ref X.1), some (.int x1), some (.int x2), o3, o4, o5] [.int xk0] W Q := by
  intro S hS
  exact aw_if j94_10 (fun h => k_1 (of_decide_eq_true h) _ hS) (fun h => k_2 (of_decide_eq_false h) _ hS)
theorem br94_13 {x1 : Int32} {x2 : Int32} {o3 : Option Value} {o4 : Option Value} {o5 : Option Value} {P_1 : Int32 → rW → Prop} (m_4 : rCi ext X d 70 [.ref X.1, .int x2] W P_1) (k_5 : ∀ v_3 W_2, P_1 v_3 W_2 → rA ext X (d + 1) 94 18 [some (.ref X.1), some (.int x1), some (.int x2), o3, o4, o5] [.int v_3] W_2 Q) : rA ext X (d + 1) 94 13 [some (.ref X.1), some (.int x1), some (.int x2), o3, o4, o5] [] W Q := by
  intro S hS
  refine aw_ald j94_13 rfl rfl ?_
  refine aw_ild j94_14 rfl ?_
  refine aw_calli (as := [.ref X.1, .int x2]) j94_15 rfl rfl (Nat.le_of_ble_eq_true rfl) cy70.1 cy70.2 (cs_cons rfl (cs_cons rfl cs_nil)) (decide_eq_true hS.to) (m_4 _ hS) (fun v1 S1 h1 => ?_)
  obtain ⟨W1, h1, h2⟩ := h1
  exact k_5 v1 W1 h2 S1 h1
theorem br94_18 {x1 : Int32} {x2 : Int32} {o3 : Option Value} {o4 : Option Value} {o5 : Option Value} {xk0 : Int32}  (k_1 : (¬ xk0 = 0) → rA ext X d 94 23 [some (.ref X.1), some (.int x1), some (.int x2), o3, o4, o5] [] W Q) (k_2 : (xk0 = 0) → rA ext X d 94 21 [some (.ref X.1), some (.int x1), some (.int x2), o3, o4, o5] [] W Q) : rA ext X d 94 18 [some (.ref X.1), some (.int x1), some (.int x2), o3, o4, o5] [.int xk0] W Q := by
  intro S hS
  exact aw_if j94_18 (fun h => k_1 (of_decide_eq_true h) _ hS) (fun h => k_2 (Decidable.of_not_not (of_decide_eq_false h)) _ hS)
theorem br94_21 {x1 : Int32} {x2 : Int32} {o3 : Option Value} {o4 : Option Value} {o5 : Option Value}  (k_1 : Q (some (.int (-1 : Int32))) W) : rA ext X d 94 21 [some (.ref X.1), some (.int x1), some (.int x2), o3, o4, o5] [] W Q := by
  intro S hS
  refine aw_con j94_21 ?_
  exact aw_ret j94_22 (by rw [rt94]; exact rfl) ⟨_, hS, k_1⟩
theorem br94_23 {x1 : Int32} {x2 : Int32} {o3 : Option Value} {o4 : Option Value} {o5 : Option Value} {P_1 : rW → Prop} (m_4 : rCv ext X d 80 [.ref X.1, .int x1] W P_1) (k_5 : ∀ W_2, P_1 W_2 → rA ext X (d + 1) 94 28 [some (.ref X.1), some (.int x1), some (.int x2), o3, o4, o5] [] W_2 Q) : rA ext X (d + 1) 94 23 [some (.ref X.1), some (.int x1), some (.int x2), o3, o4, o5] [] W Q := by
  intro S hS
  refine aw_ald j94_23 rfl rfl ?_
  refine aw_ild j94_24 rfl ?_
  refine aw_callv (as := [.ref X.1, .int x1]) j94_25 rfl rfl (Nat.le_of_ble_eq_true rfl) cy80.1 cy80.2 (cs_cons rfl (cs_cons rfl cs_nil)) (decide_eq_true hS.to) (m_4 _ hS) (fun S1 h1 => ?_)
  obtain ⟨W1, h1, h2⟩ := h1
  exact k_5 W1 h2 S1 h1
theorem br94_28 {x1 : Int32} {x2 : Int32} {o3 : Option Value} {o4 : Option Value} {o5 : Option Value}  (k_1 : rA ext X d 94 38 [some (.ref X.1), some (.int x1), some (.int x2), some (.int (0 : Int32)), o4, o5] [] (hset W 22 (W.2 19)) Q) : rA ext X d 94 28 [some (.ref X.1), some (.int x1), some (.int x2), o3, o4, o5] [] W Q := by
  intro S hS
  refine aw_ald j94_28 rfl rfl ?_
  refine aw_ald j94_29 rfl rfl ?_
  refine aw_get j94_30 hS.to (hS.n 19 rfl) ?_
  refine aw_put j94_33 hS.to rfl ?_
  have hS := hS.seth 22 (W.2 19) rfl
  refine aw_con j94_36 ?_
  refine aw_ist j94_37 (Nat.le_of_ble_eq_true rfl) ?_
  exact k_1 _ hS
theorem br94_38 {x1 : Int32} {x2 : Int32} {x3 : Int32} {o4 : Option Value} {o5 : Option Value}  (k_1 : ((W.2 19) ≤ x3) → rA ext X d 94 76 [some (.ref X.1), some (.int x1), some (.int x2), some (.int x3), o4, o5] [] W Q) (k_2 : (¬ ((W.2 19) ≤ x3)) → rA ext X d 94 46 [some (.ref X.1), some (.int x1), some (.int x2), some (.int x3), o4, o5] [] W Q) : rA ext X d 94 38 [some (.ref X.1), some (.int x1), some (.int x2), some (.int x3), o4, o5] [] W Q := by
  intro S hS
  refine aw_ild j94_38 rfl ?_
  refine aw_ald j94_39 rfl rfl ?_
  refine aw_get j94_40 hS.to (hS.n 19 rfl) ?_
  exact aw_ic j94_43 (fun h => k_1 (of_decide_eq_true h) _ hS) (fun h => k_2 (of_decide_eq_false h) _ hS)
theorem br94_46 {x1 : Int32} {x2 : Int32} {x3 : Int32} {o4 : Option Value} {o5 : Option Value} {i_1 : Nat} {i_4 : Nat} {i_7 : Nat} {i_10 : Nat} (e_2 : x3 = nI i_1) (c_3 : i_1 < 120) (e_5 : x3 = nI i_4) (c_6 : i_4 < 120) (e_8 : x3 = nI i_7) (c_9 : i_7 < 120) (e_11 : x3 = nI i_10) (c_12 : i_10 < 120) (k_13 : rA ext X d 94 38 [some (.ref X.1), some (.int x1), some (.int x2), some (.int (x3 + 1)), o4, o5] [] (gset (gset W 23 i_4 (W.1 20 i_1)) 24 i_10 ((gset W 23 i_4 (W.1 20 i_1)).1 21 i_7)) Q) : rA ext X d 94 46 [some (.ref X.1), some (.int x1), some (.int x2), some (.int x3), o4, o5] [] W Q := by
  intro S hS
  refine aw_ald j94_46 rfl rfl ?_
  refine aw_get j94_47 hS.to (hS.fa 23 rfl) ?_
  refine aw_ild j94_50 rfl ?_
  refine aw_ald j94_51 rfl rfl ?_
  refine aw_get j94_52 hS.to (hS.fa 20 rfl) ?_
  refine aw_ild j94_55 rfl ?_
  refine aw_xld (n := 120) j94_56 (hS.ta 20 rfl) e_2 c_3 (by decide) (hS.g 20 i_1 rfl c_3) ?_
  refine aw_xst (n := 120) j94_57 (hS.ta 23 rfl) e_5 c_6 (by decide) ?_
  have hS := hS.seta 23 i_4 (W.1 20 i_1) rfl
  refine aw_ald j94_58 rfl rfl ?_
  refine aw_get j94_59 hS.to (hS.fa 24 rfl) ?_
  refine aw_ild j94_62 rfl ?_
  refine aw_ald j94_63 rfl rfl ?_
  refine aw_get j94_64 hS.to (hS.fa 21 rfl) ?_
  refine aw_ild j94_67 rfl ?_
  refine aw_xld (n := 120) j94_68 (hS.ta 21 rfl) e_8 c_9 (by decide) (hS.g 21 i_7 rfl c_9) ?_
  refine aw_xst (n := 120) j94_69 (hS.ta 24 rfl) e_11 c_12 (by decide) ?_
  have hS := hS.seta 24 i_10 ((gset W 23 i_4 (W.1 20 i_1)).1 21 i_7) rfl
  refine aw_inc j94_70 rfl ?_
  exact aw_goto j94_73 (k_13 _ hS)
theorem br94_76 {x1 : Int32} {x2 : Int32} {x3 : Int32} {o4 : Option Value} {o5 : Option Value} {P_1 : rW → Prop} (m_4 : rCv ext X d 80 [.ref X.1, .int x2] W P_1) (k_5 : ∀ W_2, P_1 W_2 → rA ext X (d + 1) 94 81 [some (.ref X.1), some (.int x1), some (.int x2), some (.int x3), o4, o5] [] W_2 Q) : rA ext X (d + 1) 94 76 [some (.ref X.1), some (.int x1), some (.int x2), some (.int x3), o4, o5] [] W Q := by
  intro S hS
  refine aw_ald j94_76 rfl rfl ?_
  refine aw_ild j94_77 rfl ?_
  refine aw_callv (as := [.ref X.1, .int x2]) j94_78 rfl rfl (Nat.le_of_ble_eq_true rfl) cy80.1 cy80.2 (cs_cons rfl (cs_cons rfl cs_nil)) (decide_eq_true hS.to) (m_4 _ hS) (fun S1 h1 => ?_)
  obtain ⟨W1, h1, h2⟩ := h1
  exact k_5 W1 h2 S1 h1
theorem br94_81 {x1 : Int32} {x2 : Int32} {x3 : Int32} {o4 : Option Value} {o5 : Option Value}  (k_1 : rA ext X d 94 86 [some (.ref X.1), some (.int x1), some (.int x2), some (.int (0 : Int32)), some (.int (0 : Int32)), o5] [] W Q) : rA ext X d 94 81 [some (.ref X.1), some (.int x1), some (.int x2), some (.int x3), o4, o5] [] W Q := by
  intro S hS
  refine aw_con j94_81 ?_
  refine aw_ist j94_82 (Nat.le_of_ble_eq_true rfl) ?_
  refine aw_con j94_83 ?_
  refine aw_ist j94_84 (Nat.le_of_ble_eq_true rfl) ?_
  exact k_1 _ hS
theorem br94_86 {x1 : Int32} {x2 : Int32} {x3 : Int32} {x4 : Int32} {o5 : Option Value}  (k_1 : (x4 < (W.2 19)) → rA ext X d 94 104 [some (.ref X.1), some (.int x1), some (.int x2), some (.int x3), some (.int x4), o5] [] W Q) (k_2 : (¬ (x4 < (W.2 19))) → rA ext X d 94 95 [some (.ref X.1), some (.int x1), some (.int x2), some (.int x3), some (.int x4), o5] [] W Q) : rA ext X d 94 86 [some (.ref X.1), some (.int x1), some (.int x2), some (.int x3), some (.int x4), o5] [] W Q := by
  intro S hS
  refine aw_ild j94_86 rfl ?_
  refine aw_ald j94_88 rfl rfl ?_
  refine aw_get j94_89 hS.to (hS.n 19 rfl) ?_
  exact aw_ic j94_92 (fun h => k_1 (of_decide_eq_true h) _ hS) (fun h => k_2 (of_decide_eq_false h) _ hS)
theorem br94_95 {x1 : Int32} {x2 : Int32} {x3 : Int32} {x4 : Int32} {o5 : Option Value}  (k_1 : ((W.2 22) ≤ x4) → rA ext X d 94 192 [some (.ref X.1), some (.int x1), some (.int x2), some (.int x3), some (.int x4), o5] [] W Q) (k_2 : (¬ ((W.2 22) ≤ x4)) → rA ext X d 94 104 [some (.ref X.1), some (.int x1), some (.int x2), some (.int x3), some (.int x4), o5] [] W Q) : rA ext X d 94 95 [some (.ref X.1), some (.int x1), some (.int x2), some (.int x3), some (.int x4), o5] [] W Q := by
  intro S hS
  refine aw_ild j94_95 rfl ?_
  refine aw_ald j94_97 rfl rfl ?_
  refine aw_get j94_98 hS.to (hS.n 22 rfl) ?_
  exact aw_ic j94_101 (fun h => k_1 (of_decide_eq_true h) _ hS) (fun h => k_2 (of_decide_eq_false h) _ hS)
theorem br94_104 {x1 : Int32} {x2 : Int32} {x3 : Int32} {x4 : Int32} {o5 : Option Value}  (k_1 : ((W.2 19) ≤ x4) → rA ext X d 94 126 [some (.ref X.1), some (.int x1), some (.int x2), some (.int x3), some (.int x4), o5] [] W Q) (k_2 : (¬ ((W.2 19) ≤ x4)) → rA ext X d 94 113 [some (.ref X.1), some (.int x1), some (.int x2), some (.int x3), some (.int x4), o5] [] W Q) : rA ext X d 94 104 [some (.ref X.1), some (.int x1), some (.int x2), some (.int x3), some (.int x4), o5] [] W Q := by
  intro S hS
  refine aw_ild j94_104 rfl ?_
  refine aw_ald j94_106 rfl rfl ?_
  refine aw_get j94_107 hS.to (hS.n 19 rfl) ?_
  exact aw_ic j94_110 (fun h => k_1 (of_decide_eq_true h) _ hS) (fun h => k_2 (of_decide_eq_false h) _ hS)
theorem br94_113 {x1 : Int32} {x2 : Int32} {x3 : Int32} {x4 : Int32} {o5 : Option Value}  (k_1 : ((W.2 22) ≤ x4) → rA ext X d 94 126 [some (.ref X.1), some (.int x1), some (.int x2), some (.int x3), some (.int x4), o5] [] W Q) (k_2 : (¬ ((W.2 22) ≤ x4)) → rA ext X d 94 122 [some (.ref X.1), some (.int x1), some (.int x2), some (.int x3), some (.int x4), o5] [] W Q) : rA ext X d 94 113 [some (.ref X.1), some (.int x1), some (.int x2), some (.int x3), some (.int x4), o5] [] W Q := by
  intro S hS
  refine aw_ild j94_113 rfl ?_
  refine aw_ald j94_115 rfl rfl ?_
  refine aw_get j94_116 hS.to (hS.n 22 rfl) ?_
  exact aw_ic j94_119 (fun h => k_1 (of_decide_eq_true h) _ hS) (fun h => k_2 (of_decide_eq_false h) _ hS)
theorem br94_122 {x1 : Int32} {x2 : Int32} {x3 : Int32} {x4 : Int32} {o5 : Option Value}  (k_1 : rA ext X d 94 127 [some (.ref X.1), some (.int x1), some (.int x2), some (.int x3), some (.int x4), o5] [.int (1 : Int32)] W Q) : rA ext X d 94 122 [some (.ref X.1), some (.int x1), some (.int x2), some (.int x3), some (.int x4), o5] [] W Q := by
  intro S hS
  refine aw_con j94_122 ?_
  exact aw_goto j94_123 (k_1 _ hS)
theorem br94_126 {x1 : Int32} {x2 : Int32} {x3 : Int32} {x4 : Int32} {o5 : Option Value}  (k_1 : rA ext X d 94 127 [some (.ref X.1), some (.int x1), some (.int x2), some (.int x3), some (.int x4), o5] [.int (0 : Int32)] W Q) : rA ext X d 94 126 [some (.ref X.1), some (.int x1), some (.int x2), some (.int x3), some (.int x4), o5] [] W Q := by
  intro S hS
  refine aw_con j94_126 ?_
  exact k_1 _ hS
theorem br94_127 {x1 : Int32} {x2 : Int32} {x3 : Int32} {x4 : Int32} {o5 : Option Value} {xk0 : Int32}  (k_1 : (xk0 = 0) → rA ext X d 94 179 [some (.ref X.1), some (.int x1), some (.int x2), some (.int x3), some (.int x4), some (.int xk0)] [.int x3] W Q) (k_2 : (¬ (xk0 = 0)) → rA ext X d 94 135 [some (.ref X.1), some (.int x1), some (.int x2), some (.int x3), some (.int x4), some (.int xk0)] [.int x3] W Q) : rA ext X d 94 127 [some (.ref X.1), some (.int x1), some (.int x2), some (.int x3), some (.int x4), o5] [.int xk0] W Q := by
  intro S hS
  refine aw_ist j94_127 (Nat.le_of_ble_eq_true rfl) ?_
  refine aw_ild j94_129 rfl ?_
  refine aw_ild j94_130 rfl ?_
  exact aw_if j94_132 (fun h => k_1 (of_decide_eq_true h) _ hS) (fun h => k_2 (of_decide_eq_false h) _ hS)
theorem br94_135 {x1 : Int32} {x2 : Int32} {x3 : Int32} {x4 : Int32} {x5 : Int32} {xk0 : Int32} {i_1 : Nat} {i_4 : Nat} {i_7 : Nat} {i_10 : Nat} (e_2 : x4 = nI i_1) (c_3 : i_1 < 120) (e_5 : (W.1 20 i_1) = nI i_4) (c_6 : i_4 < 120) (e_8 : x4 = nI i_7) (c_9 : i_7 < 120) (e_11 : (W.1 23 i_7) = nI i_10) (c_12 : i_10 < 120) (k_13 : (¬ (W.1 9 i_4) = (W.1 9 i_10)) → rA ext X d 94 179 [some (.ref X.1), some (.int x1), some (.int x2), some (.int x3), some (.int x4), some (.int x5)] [.int xk0] W Q) (k_14 : ((W.1 9 i_4) = (W.1 9 i_10)) → rA ext X d 94 162 [some (.ref X.1), some (.int x1), some (.int x2), some (.int x3), some (.int x4), some (.int x5)] [.int xk0] W Q) : rA ext X d 94 135 [some (.ref X.1), some (.int x1), some (.int x2), some (.int x3), some (.int x4), some (.int x5)] [.int xk0] W Q := by
  intro S hS
  refine aw_ald j94_135 rfl rfl ?_
  refine aw_get j94_136 hS.to (hS.fa 9 rfl) ?_
  refine aw_ald j94_139 rfl rfl ?_
  refine aw_get j94_140 hS.to (hS.fa 20 rfl) ?_
  refine aw_ild j94_143 rfl ?_
  refine aw_xld (n := 120) j94_145 (hS.ta 20 rfl) e_2 c_3 (by decide) (hS.g 20 i_1 rfl c_3) ?_
  refine aw_xld (n := 120) j94_146 (hS.ta 9 rfl) e_5 c_6 (by decide) (hS.g 9 i_4 rfl c_6) ?_
  refine aw_ald j94_147 rfl rfl ?_
  refine aw_get j94_148 hS.to (hS.fa 9 rfl) ?_
  refine aw_ald j94_151 rfl rfl ?_
  refine aw_get j94_152 hS.to (hS.fa 23 rfl) ?_
  refine aw_ild j94_155 rfl ?_
  refine aw_xld (n := 120) j94_157 (hS.ta 23 rfl) e_8 c_9 (by decide) (hS.g 23 i_7 rfl c_9) ?_
  refine aw_xld (n := 120) j94_158 (hS.ta 9 rfl) e_11 c_12 (by decide) (hS.g 9 i_10 rfl c_12) ?_
  exact aw_ic j94_159 (fun h => k_13 (of_decide_eq_true h) _ hS) (fun h => k_14 (Decidable.of_not_not (of_decide_eq_false h)) _ hS)
theorem br94_162 {x1 : Int32} {x2 : Int32} {x3 : Int32} {x4 : Int32} {x5 : Int32} {xk0 : Int32} {i_1 : Nat} {i_4 : Nat} (e_2 : x4 = nI i_1) (c_3 : i_1 < 120) (e_5 : x4 = nI i_4) (c_6 : i_4 < 120) (k_7 : ((W.1 21 i_1) = (W.1 24 i_4)) → rA ext X d 94 183 [some (.ref X.1), some (.int x1), some (.int x2), some (.int x3), some (.int x4), some (.int x5)] [.int xk0] W Q) (k_8 : (¬ ((W.1 21 i_1) = (W.1 24 i_4))) → rA ext X d 94 179 [some (.ref X.1), some (.int x1), some (.int x2), some (.int x3), some (.int x4), some (.int x5)] [.int xk0] W Q) : rA ext X d 94 162 [some (.ref X.1), some (.int x1), some (.int x2), some (.int x3), some (.int x4), some (.int x5)] [.int xk0] W Q := by
  intro S hS
  refine aw_ald j94_162 rfl rfl ?_
  refine aw_get j94_163 hS.to (hS.fa 21 rfl) ?_
  refine aw_ild j94_166 rfl ?_
  refine aw_xld (n := 120) j94_168 (hS.ta 21 rfl) e_2 c_3 (by decide) (hS.g 21 i_1 rfl c_3) ?_
  refine aw_ald j94_169 rfl rfl ?_
  refine aw_get j94_170 hS.to (hS.fa 24 rfl) ?_
  refine aw_ild j94_173 rfl ?_
  refine aw_xld (n := 120) j94_175 (hS.ta 24 rfl) e_5 c_6 (by decide) (hS.g 24 i_4 rfl c_6) ?_
  exact aw_ic j94_176 (fun h => k_7 (of_decide_eq_true h) _ hS) (fun h => k_8 (of_decide_eq_false h) _ hS)
theorem br94_179 {x1 : Int32} {x2 : Int32} {x3 : Int32} {x4 : Int32} {x5 : Int32} {xk0 : Int32}  (k_1 : rA ext X d 94 184 [some (.ref X.1), some (.int x1), some (.int x2), some (.int x3), some (.int x4), some (.int x5)] [.int (1 : Int32), .int xk0] W Q) : rA ext X d 94 179 [some (.ref X.1), some (.int x1), some (.int x2), some (.int x3), some (.int x4), some (.int x5)] [.int xk0] W Q := by
  intro S hS
  refine aw_con j94_179 ?_
  exact aw_goto j94_180 (k_1 _ hS)
theorem br94_183 {x1 : Int32} {x2 : Int32} {x3 : Int32} {x4 : Int32} {x5 : Int32} {xk0 : Int32}  (k_1 : rA ext X d 94 184 [some (.ref X.1), some (.int x1), some (.int x2), some (.int x3), some (.int x4), some (.int x5)] [.int (0 : Int32), .int xk0] W Q) : rA ext X d 94 183 [some (.ref X.1), some (.int x1), some (.int x2), some (.int x3), some (.int x4), some (.int x5)] [.int xk0] W Q := by
  intro S hS
  refine aw_con j94_183 ?_
  exact k_1 _ hS
theorem br94_184 {x1 : Int32} {x2 : Int32} {x3 : Int32} {x4 : Int32} {x5 : Int32} {xk0 : Int32} {xk1 : Int32}  (k_1 : rA ext X d 94 86 [some (.ref X.1), some (.int x1), some (.int x2), some (.int (xk0 + xk1)), some (.int (x4 + 1)), some (.int x5)] [] W Q) : rA ext X d 94 184 [some (.ref X.1), some (.int x1), some (.int x2), some (.int x3), some (.int x4), some (.int x5)] [.int xk1, .int xk0] W Q := by
  intro S hS
  refine aw_bin (z := (xk0 + xk1)) j94_184 rfl ?_
  refine aw_ist j94_185 (Nat.le_of_ble_eq_true rfl) ?_
  refine aw_inc j94_186 rfl ?_
  exact aw_goto j94_189 (k_1 _ hS)
theorem br94_192 {x1 : Int32} {x2 : Int32} {x3 : Int32} {x4 : Int32} {o5 : Option Value}  (k_1 : Q (some (.int x3)) W) : rA ext X d 94 192 [some (.ref X.1), some (.int x1), some (.int x2), some (.int x3), some (.int x4), o5] [] W Q := by
  intro S hS
  refine aw_ild j94_192 rfl ?_
  exact aw_ret j94_193 (by rw [rt94]; exact rfl) ⟨_, hS, k_1⟩
/-! Ref_about -/
theorem br95_0 {x1 : Int32} {x2 : Int32} {o3 : Option Value} {o4 : Option Value} {P_1 : Int32 → rW → Prop} (m_4 : rCi ext X d 71 [.ref X.1, .int x1] (hset W 0 (0 : Int32)) P_1) (k_5 : ∀ v_3 W_2, P_1 v_3 W_2 → rA ext X (d + 1) 95 10 [some (.ref X.1), some (.int x1), some (.int x2), o3, o4] [.int v_3] W_2 Q) : rA ext X (d + 1) 95 0 [some (.ref X.1), some (.int x1), some (.int x2), o3, o4] [] W Q := by
  intro S hS
  refine aw_ald j95_0 rfl rfl ?_
  refine aw_con j95_1 ?_
  refine aw_put j95_2 hS.to rfl ?_
  have hS := hS.seth 0 (0 : Int32) rfl
  refine aw_ald j95_5 rfl rfl ?_
  refine aw_ild j95_6 rfl ?_
  refine aw_calli (as := [.ref X.1, .int x1]) j95_7 rfl rfl (Nat.le_of_ble_eq_true rfl) cy71.1 cy71.2 (cs_cons rfl (cs_cons rfl cs_nil)) (decide_eq_true hS.to) (m_4 _ hS) (fun v1 S1 h1 => ?_)
  obtain ⟨W1, h1, h2⟩ := h1
  exact k_5 v1 W1 h2 S1 h1
theorem br95_10 {x1 : Int32} {x2 : Int32} {o3 : Option Value} {o4 : Option Value} {xk0 : Int32}  (k_1 : (¬ xk0 = 0) → rA ext X d 95 15 [some (.ref X.1), some (.int x1), some (.int x2), o3, o4] [] W Q) (k_2 : (xk0 = 0) → rA ext X d 95 13 [some (.ref X.1), some (.int x1), some (.int x2), o3, o4] [] W Q) : rA ext X d 95 10 [some (.ref X.1), some (.int x1), some (.int x2), o3, o4] [.int xk0] W Q := by
  intro S hS
  exact aw_if j95_10 (fun h => k_1 (of_decide_eq_true h) _ hS) (fun h => k_2 (Decidable.of_not_not (of_decide_eq_false h)) _ hS)
theorem br95_13 {x1 : Int32} {x2 : Int32} {o3 : Option Value} {o4 : Option Value}  (k_1 : Q (some (.int (-1 : Int32))) W) : rA ext X d 95 13 [some (.ref X.1), some (.int x1), some (.int x2), o3, o4] [] W Q := by
  intro S hS
  refine aw_con j95_13 ?_
  exact aw_ret j95_14 (by rw [rt95]; exact rfl) ⟨_, hS, k_1⟩
theorem br95_15 {x1 : Int32} {x2 : Int32} {o3 : Option Value} {o4 : Option Value}  (k_1 : rA ext X d 95 (if x2.toInt < (0 : Int32).toInt then 148 else List.getD [60, 67, 74, 81, 88, 95, 102] (x2.toInt - (0 : Int32).toInt).toNat 148) [some (.ref X.1), some (.int x1), some (.int x2), o3, o4] [] W Q) : rA ext X d 95 15 [some (.ref X.1), some (.int x1), some (.int x2), o3, o4] [] W Q := by
  intro S hS
  refine aw_ild j95_15 rfl ?_
  exact aw_tsw j95_16 (k_1 _ hS)
theorem br95_60 {x1 : Int32} {x2 : Int32} {o3 : Option Value} {o4 : Option Value} {i_1 : Nat} (e_2 : x1 = nI i_1) (c_3 : i_1 < 120) (k_4 : Q (some (.int (W.1 6 i_1))) W) : rA ext X d 95 60 [some (.ref X.1), some (.int x1), some (.int x2), o3, o4] [] W Q := by
  intro S hS
  refine aw_ald j95_60 rfl rfl ?_
  refine aw_get j95_61 hS.to (hS.fa 6 rfl) ?_
  refine aw_ild j95_64 rfl ?_
  refine aw_xld (n := 120) j95_65 (hS.ta 6 rfl) e_2 c_3 (by decide) (hS.g 6 i_1 rfl c_3) ?_
  exact aw_ret j95_66 (by rw [rt95]; exact rfl) ⟨_, hS, k_4⟩
theorem br95_67 {x1 : Int32} {x2 : Int32} {o3 : Option Value} {o4 : Option Value} {i_1 : Nat} (e_2 : x1 = nI i_1) (c_3 : i_1 < 120) (k_4 : Q (some (.int (W.1 7 i_1))) W) : rA ext X d 95 67 [some (.ref X.1), some (.int x1), some (.int x2), o3, o4] [] W Q := by
  intro S hS
  refine aw_ald j95_67 rfl rfl ?_
  refine aw_get j95_68 hS.to (hS.fa 7 rfl) ?_
  refine aw_ild j95_71 rfl ?_
  refine aw_xld (n := 120) j95_72 (hS.ta 7 rfl) e_2 c_3 (by decide) (hS.g 7 i_1 rfl c_3) ?_
  exact aw_ret j95_73 (by rw [rt95]; exact rfl) ⟨_, hS, k_4⟩
theorem br95_74 {x1 : Int32} {x2 : Int32} {o3 : Option Value} {o4 : Option Value} {i_1 : Nat} (e_2 : x1 = nI i_1) (c_3 : i_1 < 120) (k_4 : Q (some (.int (W.1 8 i_1))) W) : rA ext X d 95 74 [some (.ref X.1), some (.int x1), some (.int x2), o3, o4] [] W Q := by
  intro S hS
  refine aw_ald j95_74 rfl rfl ?_
  refine aw_get j95_75 hS.to (hS.fa 8 rfl) ?_
  refine aw_ild j95_78 rfl ?_
  refine aw_xld (n := 120) j95_79 (hS.ta 8 rfl) e_2 c_3 (by decide) (hS.g 8 i_1 rfl c_3) ?_
  exact aw_ret j95_80 (by rw [rt95]; exact rfl) ⟨_, hS, k_4⟩
theorem br95_81 {x1 : Int32} {x2 : Int32} {o3 : Option Value} {o4 : Option Value} {i_1 : Nat} (e_2 : x1 = nI i_1) (c_3 : i_1 < 120) (k_4 : Q (some (.int (W.1 9 i_1))) W) : rA ext X d 95 81 [some (.ref X.1), some (.int x1), some (.int x2), o3, o4] [] W Q := by
  intro S hS
  refine aw_ald j95_81 rfl rfl ?_
  refine aw_get j95_82 hS.to (hS.fa 9 rfl) ?_
  refine aw_ild j95_85 rfl ?_
  refine aw_xld (n := 120) j95_86 (hS.ta 9 rfl) e_2 c_3 (by decide) (hS.g 9 i_1 rfl c_3) ?_
  exact aw_ret j95_87 (by rw [rt95]; exact rfl) ⟨_, hS, k_4⟩
theorem br95_88 {x1 : Int32} {x2 : Int32} {o3 : Option Value} {o4 : Option Value} {i_1 : Nat} (e_2 : x1 = nI i_1) (c_3 : i_1 < 120) (k_4 : Q (some (.int (W.1 11 i_1))) W) : rA ext X d 95 88 [some (.ref X.1), some (.int x1), some (.int x2), o3, o4] [] W Q := by
  intro S hS
  refine aw_ald j95_88 rfl rfl ?_
  refine aw_get j95_89 hS.to (hS.fa 11 rfl) ?_
  refine aw_ild j95_92 rfl ?_
  refine aw_xld (n := 120) j95_93 (hS.ta 11 rfl) e_2 c_3 (by decide) (hS.g 11 i_1 rfl c_3) ?_
  exact aw_ret j95_94 (by rw [rt95]; exact rfl) ⟨_, hS, k_4⟩
theorem br95_95 {x1 : Int32} {x2 : Int32} {o3 : Option Value} {o4 : Option Value} {i_1 : Nat} (e_2 : x1 = nI i_1) (c_3 : i_1 < 120) (k_4 : Q (some (.int (W.1 10 i_1))) W) : rA ext X d 95 95 [some (.ref X.1), some (.int x1), some (.int x2), o3, o4] [] W Q := by
  intro S hS
  refine aw_ald j95_95 rfl rfl ?_
  refine aw_get j95_96 hS.to (hS.fa 10 rfl) ?_
  refine aw_ild j95_99 rfl ?_
  refine aw_xld (n := 120) j95_100 (hS.ta 10 rfl) e_2 c_3 (by decide) (hS.g 10 i_1 rfl c_3) ?_
  exact aw_ret j95_101 (by rw [rt95]; exact rfl) ⟨_, hS, k_4⟩
theorem br95_102 {x1 : Int32} {x2 : Int32} {o3 : Option Value} {o4 : Option Value}  (k_1 : rA ext X d 95 107 [some (.ref X.1), some (.int x1), some (.int x2), some (.int (0 : Int32)), some (.int (0 : Int32))] [] W Q) : rA ext X d 95 102 [some (.ref X.1), some (.int x1), some (.int x2), o3, o4] [] W Q := by
  intro S hS
  refine aw_con j95_102 ?_
  refine aw_ist j95_103 (Nat.le_of_ble_eq_true rfl) ?_
  refine aw_con j95_104 ?_
  refine aw_ist j95_105 (Nat.le_of_ble_eq_true rfl) ?_
  exact k_1 _ hS
theorem br95_107 {x1 : Int32} {x2 : Int32} {x3 : Int32} {x4 : Int32}  (k_1 : ((W.2 5) ≤ x4) → rA ext X d 95 146 [some (.ref X.1), some (.int x1), some (.int x2), some (.int x3), some (.int x4)] [] W Q) (k_2 : (¬ ((W.2 5) ≤ x4)) → rA ext X d 95 116 [some (.ref X.1), some (.int x1), some (.int x2), some (.int x3), some (.int x4)] [] W Q) : rA ext X d 95 107 [some (.ref X.1), some (.int x1), some (.int x2), some (.int x3), some (.int x4)] [] W Q := by
  intro S hS
  refine aw_ild j95_107 rfl ?_
  refine aw_ald j95_109 rfl rfl ?_
  refine aw_get j95_110 hS.to (hS.n 5 rfl) ?_
  exact aw_ic j95_113 (fun h => k_1 (of_decide_eq_true h) _ hS) (fun h => k_2 (of_decide_eq_false h) _ hS)
theorem br95_116 {x1 : Int32} {x2 : Int32} {x3 : Int32} {x4 : Int32}  (k_1 : (x4 = x1) → rA ext X d 95 137 [some (.ref X.1), some (.int x1), some (.int x2), some (.int x3), some (.int x4)] [.int x3] W Q) (k_2 : (¬ (x4 = x1)) → rA ext X d 95 123 [some (.ref X.1), some (.int x1), some (.int x2), some (.int x3), some (.int x4)] [.int x3] W Q) : rA ext X d 95 116 [some (.ref X.1), some (.int x1), some (.int x2), some (.int x3), some (.int x4)] [] W Q := by
  intro S hS
  refine aw_ild j95_116 rfl ?_
  refine aw_ild j95_117 rfl ?_
  refine aw_ild j95_119 rfl ?_
  exact aw_ic j95_120 (fun h => k_1 (of_decide_eq_true h) _ hS) (fun h => k_2 (of_decide_eq_false h) _ hS)
theorem br95_123 {x1 : Int32} {x2 : Int32} {x3 : Int32} {x4 : Int32} {xk0 : Int32} {P_1 : Int32 → rW → Prop} (m_4 : rCi ext X d 78 [.ref X.1, .int x4, .int x1] W P_1) (k_5 : ∀ v_3 W_2, P_1 v_3 W_2 → rA ext X (d + 1) 95 130 [some (.ref X.1), some (.int x1), some (.int x2), some (.int x3), some (.int x4)] [.int v_3, .int xk0] W_2 Q) : rA ext X (d + 1) 95 123 [some (.ref X.1), some (.int x1), some (.int x2), some (.int x3), some (.int x4)] [.int xk0] W Q := by
  intro S hS
  refine aw_ald j95_123 rfl rfl ?_
  refine aw_ild j95_124 rfl ?_
  refine aw_ild j95_126 rfl ?_
  refine aw_calli (as := [.ref X.1, .int x4, .int x1]) j95_127 rfl rfl (Nat.le_of_ble_eq_true rfl) cy78.1 cy78.2 (cs_cons rfl (cs_cons rfl (cs_cons rfl cs_nil))) (decide_eq_true hS.to) (m_4 _ hS) (fun v1 S1 h1 => ?_)
  obtain ⟨W1, h1, h2⟩ := h1
  exact k_5 v1 W1 h2 S1 h1
theorem br95_130 {x1 : Int32} {x2 : Int32} {x3 : Int32} {x4 : Int32} {xk0 : Int32} {xk1 : Int32}  (k_1 : (xk1 = 0) → rA ext X d 95 137 [some (.ref X.1), some (.int x1), some (.int x2), some (.int x3), some (.int x4)] [.int xk0] W Q) (k_2 : (¬ (xk1 = 0)) → rA ext X d 95 133 [some (.ref X.1), some (.int x1), some (.int x2), some (.int x3), some (.int x4)] [.int xk0] W Q) : rA ext X d 95 130 [some (.ref X.1), some (.int x1), some (.int x2), some (.int x3), some (.int x4)] [.int xk1, .int xk0] W Q := by
  intro S hS
  exact aw_if j95_130 (fun h => k_1 (of_decide_eq_true h) _ hS) (fun h => k_2 (of_decide_eq_false h) _ hS)
theorem br95_133 {x1 : Int32} {x2 : Int32} {x3 : Int32} {x4 : Int32} {xk0 : Int32}  (k_1 : rA ext X d 95 138 [some (.ref X.1), some (.int x1), some (.int x2), some (.int x3), some (.int x4)] [.int (1 : Int32), .int xk0] W Q) : rA ext X d 95 133 [some (.ref X.1), some (.int x1), some (.int x2), some (.int x3), some (.int x4)] [.int xk0] W Q := by
  intro S hS
  refine aw_con j95_133 ?_
  exact aw_goto j95_134 (k_1 _ hS)
theorem br95_137 {x1 : Int32} {x2 : Int32} {x3 : Int32} {x4 : Int32} {xk0 : Int32}  (k_1 : rA ext X d 95 138 [some (.ref X.1), some (.int x1), some (.int x2), some (.int x3), some (.int x4)] [.int (0 : Int32), .int xk0] W Q) : rA ext X d 95 137 [some (.ref X.1), some (.int x1), some (.int x2), some (.int x3), some (.int x4)] [.int xk0] W Q := by
  intro S hS
  refine aw_con j95_137 ?_
  exact k_1 _ hS
theorem br95_138 {x1 : Int32} {x2 : Int32} {x3 : Int32} {x4 : Int32} {xk0 : Int32} {xk1 : Int32}  (k_1 : rA ext X d 95 107 [some (.ref X.1), some (.int x1), some (.int x2), some (.int (xk0 + xk1)), some (.int (x4 + 1))] [] W Q) : rA ext X d 95 138 [some (.ref X.1), some (.int x1), some (.int x2), some (.int x3), some (.int x4)] [.int xk1, .int xk0] W Q := by
  intro S hS
  refine aw_bin (z := (xk0 + xk1)) j95_138 rfl ?_
  refine aw_ist j95_139 (Nat.le_of_ble_eq_true rfl) ?_
  refine aw_inc j95_140 rfl ?_
  exact aw_goto j95_143 (k_1 _ hS)
theorem br95_146 {x1 : Int32} {x2 : Int32} {x3 : Int32} {x4 : Int32}  (k_1 : Q (some (.int x3)) W) : rA ext X d 95 146 [some (.ref X.1), some (.int x1), some (.int x2), some (.int x3), some (.int x4)] [] W Q := by
  intro S hS
  refine aw_ild j95_146 rfl ?_
  exact aw_ret j95_147 (by rw [rt95]; exact rfl) ⟨_, hS, k_1⟩
theorem br95_148 {x1 : Int32} {x2 : Int32} {o3 : Option Value} {o4 : Option Value}  (k_1 : Q (some (.int (-1 : Int32))) W) : rA ext X d 95 148 [some (.ref X.1), some (.int x1), some (.int x2), o3, o4] [] W Q := by
  intro S hS
  refine aw_con j95_148 ?_
  exact aw_ret j95_149 (by rw [rt95]; exact rfl) ⟨_, hS, k_1⟩
end
