section
variable {ext : av_X} {d : Nat} {S : av_St} {Q : Option Value → av_St → Prop}
/-! Ref_init -/
theorem bk62_0 {a0 : Nat}  (k_1 : aw ext (d + 1) 62 4 [some (.ref a0)] [] S Q) : aw ext (d + 1) 62 0 [some (.ref a0)] [] S Q := by
  refine aw_ald j62_0 rfl rfl ?_
  exact aw_obj j62_1 (Nat.le_of_ble_eq_true rfl) k_1
theorem bk62_4 {r0 : Option Nat}  (k_1 : aw ext d 62 9 [some (va_rf r0)] [.ref S.2.2.1, va_rf r0] (av_new S (.inr (0, 30)) (fun _ => defaultValue (sm_aT 0)) 30) Q) : aw ext d 62 4 [some (va_rf r0)] [] S Q := by
  refine aw_ald j62_4 rfl (av_isR_rf r0) ?_
  refine aw_con j62_5 ?_
  refine aw_newa (n := 30) j62_7 (by decide) (by decide) ?_
  exact k_1
theorem bk62_9 {r0 : Option Nat} {ak0 : Nat} {rk1 : Option Nat} (t_1 : S.1 ak0 = some (.inl 10)) (k_2 : aw ext d 62 16 [some (va_rf r0)] [.ref (av_set S ak0 2 (va_rf rk1)).2.2.1, va_rf r0] (av_new (av_set S ak0 2 (va_rf rk1)) (.inr (0, 5)) (fun _ => defaultValue (sm_aT 0)) 5) Q) : aw ext d 62 9 [some (va_rf r0)] [va_rf rk1, .ref ak0] S Q := by
  refine aw_put j62_9 t_1 (av_fa_rf _ rk1) ?_
  refine aw_ald j62_12 rfl (av_isR_rf r0) ?_
  refine aw_con j62_13 ?_
  refine aw_newa (n := 5) j62_14 (by decide) (by decide) ?_
  exact k_2
theorem bk62_16 {r0 : Option Nat} {ak0 : Nat} {rk1 : Option Nat} (t_1 : S.1 ak0 = some (.inl 10)) (k_2 : aw ext d 62 24 [some (va_rf r0)] [.ref (av_set S ak0 4 (va_rf rk1)).2.2.1, va_rf r0] (av_new (av_set S ak0 4 (va_rf rk1)) (.inr (0, 120)) (fun _ => defaultValue (sm_aT 0)) 120) Q) : aw ext d 62 16 [some (va_rf r0)] [va_rf rk1, .ref ak0] S Q := by
  refine aw_put j62_16 t_1 (av_fa_rf _ rk1) ?_
  refine aw_ald j62_19 rfl (av_isR_rf r0) ?_
  refine aw_con j62_20 ?_
  refine aw_newa (n := 120) j62_22 (by decide) (by decide) ?_
  exact k_2
theorem bk62_24 {r0 : Option Nat} {ak0 : Nat} {rk1 : Option Nat} (t_1 : S.1 ak0 = some (.inl 10)) (k_2 : aw ext d 62 32 [some (va_rf r0)] [.ref (av_set S ak0 6 (va_rf rk1)).2.2.1, va_rf r0] (av_new (av_set S ak0 6 (va_rf rk1)) (.inr (0, 120)) (fun _ => defaultValue (sm_aT 0)) 120) Q) : aw ext d 62 24 [some (va_rf r0)] [va_rf rk1, .ref ak0] S Q := by
  refine aw_put j62_24 t_1 (av_fa_rf _ rk1) ?_
  refine aw_ald j62_27 rfl (av_isR_rf r0) ?_
  refine aw_con j62_28 ?_
  refine aw_newa (n := 120) j62_30 (by decide) (by decide) ?_
  exact k_2
theorem bk62_32 {r0 : Option Nat} {ak0 : Nat} {rk1 : Option Nat} (t_1 : S.1 ak0 = some (.inl 10)) (k_2 : aw ext d 62 40 [some (va_rf r0)] [.ref (av_set S ak0 7 (va_rf rk1)).2.2.1, va_rf r0] (av_new (av_set S ak0 7 (va_rf rk1)) (.inr (0, 120)) (fun _ => defaultValue (sm_aT 0)) 120) Q) : aw ext d 62 32 [some (va_rf r0)] [va_rf rk1, .ref ak0] S Q := by
  refine aw_put j62_32 t_1 (av_fa_rf _ rk1) ?_
  refine aw_ald j62_35 rfl (av_isR_rf r0) ?_
  refine aw_con j62_36 ?_
  refine aw_newa (n := 120) j62_38 (by decide) (by decide) ?_
  exact k_2
theorem bk62_40 {r0 : Option Nat} {ak0 : Nat} {rk1 : Option Nat} (t_1 : S.1 ak0 = some (.inl 10)) (k_2 : aw ext d 62 48 [some (va_rf r0)] [.ref (av_set S ak0 8 (va_rf rk1)).2.2.1, va_rf r0] (av_new (av_set S ak0 8 (va_rf rk1)) (.inr (0, 120)) (fun _ => defaultValue (sm_aT 0)) 120) Q) : aw ext d 62 40 [some (va_rf r0)] [va_rf rk1, .ref ak0] S Q := by
  refine aw_put j62_40 t_1 (av_fa_rf _ rk1) ?_
  refine aw_ald j62_43 rfl (av_isR_rf r0) ?_
  refine aw_con j62_44 ?_
  refine aw_newa (n := 120) j62_46 (by decide) (by decide) ?_
  exact k_2
theorem bk62_48 {r0 : Option Nat} {ak0 : Nat} {rk1 : Option Nat} (t_1 : S.1 ak0 = some (.inl 10)) (k_2 : aw ext d 62 56 [some (va_rf r0)] [.ref (av_set S ak0 9 (va_rf rk1)).2.2.1, va_rf r0] (av_new (av_set S ak0 9 (va_rf rk1)) (.inr (0, 120)) (fun _ => defaultValue (sm_aT 0)) 120) Q) : aw ext d 62 48 [some (va_rf r0)] [va_rf rk1, .ref ak0] S Q := by
  refine aw_put j62_48 t_1 (av_fa_rf _ rk1) ?_
  refine aw_ald j62_51 rfl (av_isR_rf r0) ?_
  refine aw_con j62_52 ?_
  refine aw_newa (n := 120) j62_54 (by decide) (by decide) ?_
  exact k_2
theorem bk62_56 {r0 : Option Nat} {ak0 : Nat} {rk1 : Option Nat} (t_1 : S.1 ak0 = some (.inl 10)) (k_2 : aw ext d 62 64 [some (va_rf r0)] [.ref (av_set S ak0 10 (va_rf rk1)).2.2.1, va_rf r0] (av_new (av_set S ak0 10 (va_rf rk1)) (.inr (0, 120)) (fun _ => defaultValue (sm_aT 0)) 120) Q) : aw ext d 62 56 [some (va_rf r0)] [va_rf rk1, .ref ak0] S Q := by
  refine aw_put j62_56 t_1 (av_fa_rf _ rk1) ?_
  refine aw_ald j62_59 rfl (av_isR_rf r0) ?_
  refine aw_con j62_60 ?_
  refine aw_newa (n := 120) j62_62 (by decide) (by decide) ?_
  exact k_2
theorem bk62_64 {r0 : Option Nat} {ak0 : Nat} {rk1 : Option Nat} (t_1 : S.1 ak0 = some (.inl 10)) (k_2 : aw ext d 62 73 [some (va_rf r0)] [.ref (av_set S ak0 11 (va_rf rk1)).2.2.1, va_rf r0] (av_new (av_set S ak0 11 (va_rf rk1)) (.inr (0, 600)) (fun _ => defaultValue (sm_aT 0)) 600) Q) : aw ext d 62 64 [some (va_rf r0)] [va_rf rk1, .ref ak0] S Q := by
  refine aw_put j62_64 t_1 (av_fa_rf _ rk1) ?_
  refine aw_ald j62_67 rfl (av_isR_rf r0) ?_
  refine aw_con j62_68 ?_
  refine aw_newa (n := 600) j62_71 (by decide) (by decide) ?_
  exact k_2
theorem bk62_73 {r0 : Option Nat} {ak0 : Nat} {rk1 : Option Nat} (t_1 : S.1 ak0 = some (.inl 10)) (k_2 : aw ext d 62 82 [some (va_rf r0)] [.ref (av_set S ak0 12 (va_rf rk1)).2.2.1, va_rf r0] (av_new (av_set S ak0 12 (va_rf rk1)) (.inr (0, 600)) (fun _ => defaultValue (sm_aT 0)) 600) Q) : aw ext d 62 73 [some (va_rf r0)] [va_rf rk1, .ref ak0] S Q := by
  refine aw_put j62_73 t_1 (av_fa_rf _ rk1) ?_
  refine aw_ald j62_76 rfl (av_isR_rf r0) ?_
  refine aw_con j62_77 ?_
  refine aw_newa (n := 600) j62_80 (by decide) (by decide) ?_
  exact k_2
theorem bk62_82 {r0 : Option Nat} {ak0 : Nat} {rk1 : Option Nat} (t_1 : S.1 ak0 = some (.inl 10)) (k_2 : aw ext d 62 91 [some (va_rf r0)] [.ref (av_set S ak0 13 (va_rf rk1)).2.2.1, va_rf r0] (av_new (av_set S ak0 13 (va_rf rk1)) (.inr (0, 600)) (fun _ => defaultValue (sm_aT 0)) 600) Q) : aw ext d 62 82 [some (va_rf r0)] [va_rf rk1, .ref ak0] S Q := by
  refine aw_put j62_82 t_1 (av_fa_rf _ rk1) ?_
  refine aw_ald j62_85 rfl (av_isR_rf r0) ?_
  refine aw_con j62_86 ?_
  refine aw_newa (n := 600) j62_89 (by decide) (by decide) ?_
  exact k_2
theorem bk62_91 {r0 : Option Nat} {ak0 : Nat} {rk1 : Option Nat} (t_1 : S.1 ak0 = some (.inl 10)) (k_2 : aw ext d 62 100 [some (va_rf r0)] [.ref (av_set S ak0 14 (va_rf rk1)).2.2.1, va_rf r0] (av_new (av_set S ak0 14 (va_rf rk1)) (.inr (0, 1000)) (fun _ => defaultValue (sm_aT 0)) 1000) Q) : aw ext d 62 91 [some (va_rf r0)] [va_rf rk1, .ref ak0] S Q := by
  refine aw_put j62_91 t_1 (av_fa_rf _ rk1) ?_
  refine aw_ald j62_94 rfl (av_isR_rf r0) ?_
  refine aw_con j62_95 ?_
  refine aw_newa (n := 1000) j62_98 (by decide) (by decide) ?_
  exact k_2
theorem bk62_100 {r0 : Option Nat} {ak0 : Nat} {rk1 : Option Nat} (t_1 : S.1 ak0 = some (.inl 10)) (k_2 : aw ext d 62 109 [some (va_rf r0)] [.ref (av_set S ak0 15 (va_rf rk1)).2.2.1, va_rf r0] (av_new (av_set S ak0 15 (va_rf rk1)) (.inr (0, 1000)) (fun _ => defaultValue (sm_aT 0)) 1000) Q) : aw ext d 62 100 [some (va_rf r0)] [va_rf rk1, .ref ak0] S Q := by
  refine aw_put j62_100 t_1 (av_fa_rf _ rk1) ?_
  refine aw_ald j62_103 rfl (av_isR_rf r0) ?_
  refine aw_con j62_104 ?_
  refine aw_newa (n := 1000) j62_107 (by decide) (by decide) ?_
  exact k_2
theorem bk62_109 {r0 : Option Nat} {ak0 : Nat} {rk1 : Option Nat} (t_1 : S.1 ak0 = some (.inl 10)) (k_2 : aw ext d 62 117 [some (va_rf r0)] [.ref (av_set S ak0 16 (va_rf rk1)).2.2.1, va_rf r0] (av_new (av_set S ak0 16 (va_rf rk1)) (.inr (2, 120)) (fun _ => defaultValue (sm_aT 2)) 120) Q) : aw ext d 62 109 [some (va_rf r0)] [va_rf rk1, .ref ak0] S Q := by
  refine aw_put j62_109 t_1 (av_fa_rf _ rk1) ?_
  refine aw_ald j62_112 rfl (av_isR_rf r0) ?_
  refine aw_con j62_113 ?_
  refine aw_newa (n := 120) j62_115 (by decide) (by decide) ?_
  exact k_2
theorem bk62_117 {r0 : Option Nat} {ak0 : Nat} {rk1 : Option Nat} (t_1 : S.1 ak0 = some (.inl 10)) (k_2 : aw ext d 62 125 [some (va_rf r0)] [.ref (av_set S ak0 18 (va_rf rk1)).2.2.1, va_rf r0] (av_new (av_set S ak0 18 (va_rf rk1)) (.inr (0, 120)) (fun _ => defaultValue (sm_aT 0)) 120) Q) : aw ext d 62 117 [some (va_rf r0)] [va_rf rk1, .ref ak0] S Q := by
  refine aw_put j62_117 t_1 (av_fa_rf _ rk1) ?_
  refine aw_ald j62_120 rfl (av_isR_rf r0) ?_
  refine aw_con j62_121 ?_
  refine aw_newa (n := 120) j62_123 (by decide) (by decide) ?_
  exact k_2
theorem bk62_125 {r0 : Option Nat} {ak0 : Nat} {rk1 : Option Nat} (t_1 : S.1 ak0 = some (.inl 10)) (k_2 : aw ext d 62 133 [some (va_rf r0)] [.ref (av_set S ak0 20 (va_rf rk1)).2.2.1, va_rf r0] (av_new (av_set S ak0 20 (va_rf rk1)) (.inr (0, 120)) (fun _ => defaultValue (sm_aT 0)) 120) Q) : aw ext d 62 125 [some (va_rf r0)] [va_rf rk1, .ref ak0] S Q := by
  refine aw_put j62_125 t_1 (av_fa_rf _ rk1) ?_
  refine aw_ald j62_128 rfl (av_isR_rf r0) ?_
  refine aw_con j62_129 ?_
  refine aw_newa (n := 120) j62_131 (by decide) (by decide) ?_
  exact k_2
theorem bk62_133 {r0 : Option Nat} {ak0 : Nat} {rk1 : Option Nat} (t_1 : S.1 ak0 = some (.inl 10)) (k_2 : aw ext d 62 141 [some (va_rf r0)] [.ref (av_set S ak0 21 (va_rf rk1)).2.2.1, va_rf r0] (av_new (av_set S ak0 21 (va_rf rk1)) (.inr (0, 120)) (fun _ => defaultValue (sm_aT 0)) 120) Q) : aw ext d 62 133 [some (va_rf r0)] [va_rf rk1, .ref ak0] S Q := by
  refine aw_put j62_133 t_1 (av_fa_rf _ rk1) ?_
  refine aw_ald j62_136 rfl (av_isR_rf r0) ?_
  refine aw_con j62_137 ?_
  refine aw_newa (n := 120) j62_139 (by decide) (by decide) ?_
  exact k_2
theorem bk62_141 {r0 : Option Nat} {ak0 : Nat} {rk1 : Option Nat} (t_1 : S.1 ak0 = some (.inl 10)) (k_2 : aw ext d 62 149 [some (va_rf r0)] [.ref (av_set S ak0 23 (va_rf rk1)).2.2.1, va_rf r0] (av_new (av_set S ak0 23 (va_rf rk1)) (.inr (0, 120)) (fun _ => defaultValue (sm_aT 0)) 120) Q) : aw ext d 62 141 [some (va_rf r0)] [va_rf rk1, .ref ak0] S Q := by
  refine aw_put j62_141 t_1 (av_fa_rf _ rk1) ?_
  refine aw_ald j62_144 rfl (av_isR_rf r0) ?_
  refine aw_con j62_145 ?_
  refine aw_newa (n := 120) j62_147 (by decide) (by decide) ?_
  exact k_2
theorem bk62_149 {r0 : Option Nat} {ak0 : Nat} {rk1 : Option Nat} (t_1 : S.1 ak0 = some (.inl 10)) (k_2 : aw ext d 62 158 [some (va_rf r0)] [.ref (av_set S ak0 24 (va_rf rk1)).2.2.1, va_rf r0] (av_new (av_set S ak0 24 (va_rf rk1)) (.inr (0, 25000)) (fun _ => defaultValue (sm_aT 0)) 25000) Q) : aw ext d 62 149 [some (va_rf r0)] [va_rf rk1, .ref ak0] S Q := by
  refine aw_put j62_149 t_1 (av_fa_rf _ rk1) ?_
  refine aw_ald j62_152 rfl (av_isR_rf r0) ?_
  refine aw_con j62_153 ?_
  refine aw_newa (n := 25000) j62_156 (by decide) (by decide) ?_
  exact k_2
theorem bk62_158 {r0 : Option Nat} {ak0 : Nat} {rk1 : Option Nat} (t_1 : S.1 ak0 = some (.inl 10)) (k_2 : aw ext d 62 167 [some (va_rf r0)] [.ref (av_set S ak0 26 (va_rf rk1)).2.2.1, va_rf r0] (av_new (av_set S ak0 26 (va_rf rk1)) (.inr (0, 25000)) (fun _ => defaultValue (sm_aT 0)) 25000) Q) : aw ext d 62 158 [some (va_rf r0)] [va_rf rk1, .ref ak0] S Q := by
  refine aw_put j62_158 t_1 (av_fa_rf _ rk1) ?_
  refine aw_ald j62_161 rfl (av_isR_rf r0) ?_
  refine aw_con j62_162 ?_
  refine aw_newa (n := 25000) j62_165 (by decide) (by decide) ?_
  exact k_2
theorem bk62_167 {r0 : Option Nat} {ak0 : Nat} {rk1 : Option Nat} (t_1 : S.1 ak0 = some (.inl 10)) (k_2 : aw ext d 62 176 [some (va_rf r0)] [.ref (av_set S ak0 28 (va_rf rk1)).2.2.1, va_rf r0] (av_new (av_set S ak0 28 (va_rf rk1)) (.inr (0, 500)) (fun _ => defaultValue (sm_aT 0)) 500) Q) : aw ext d 62 167 [some (va_rf r0)] [va_rf rk1, .ref ak0] S Q := by
  refine aw_put j62_167 t_1 (av_fa_rf _ rk1) ?_
  refine aw_ald j62_170 rfl (av_isR_rf r0) ?_
  refine aw_con j62_171 ?_
  refine aw_newa (n := 500) j62_174 (by decide) (by decide) ?_
  exact k_2
theorem bk62_176 {r0 : Option Nat} {ak0 : Nat} {rk1 : Option Nat} (t_1 : S.1 ak0 = some (.inl 10)) (k_2 : aw ext d 62 185 [some (va_rf r0)] [.ref (av_set S ak0 30 (va_rf rk1)).2.2.1, va_rf r0] (av_new (av_set S ak0 30 (va_rf rk1)) (.inr (0, 500)) (fun _ => defaultValue (sm_aT 0)) 500) Q) : aw ext d 62 176 [some (va_rf r0)] [va_rf rk1, .ref ak0] S Q := by
  refine aw_put j62_176 t_1 (av_fa_rf _ rk1) ?_
  refine aw_ald j62_179 rfl (av_isR_rf r0) ?_
  refine aw_con j62_180 ?_
  refine aw_newa (n := 500) j62_183 (by decide) (by decide) ?_
  exact k_2
theorem bk62_185 {r0 : Option Nat} {ak0 : Nat} {rk1 : Option Nat} (t_1 : S.1 ak0 = some (.inl 10)) (k_2 : aw ext d 62 194 [some (va_rf r0)] [.ref (av_set S ak0 31 (va_rf rk1)).2.2.1, va_rf r0] (av_new (av_set S ak0 31 (va_rf rk1)) (.inr (3, 9000)) (fun _ => defaultValue (sm_aT 3)) 9000) Q) : aw ext d 62 185 [some (va_rf r0)] [va_rf rk1, .ref ak0] S Q := by
  refine aw_put j62_185 t_1 (av_fa_rf _ rk1) ?_
  refine aw_ald j62_188 rfl (av_isR_rf r0) ?_
  refine aw_con j62_189 ?_
  refine aw_newa (n := 9000) j62_192 (by decide) (by decide) ?_
  exact k_2
theorem bk62_194 {r0 : Option Nat} {ak0 : Nat} {rk1 : Option Nat} (t_1 : S.1 ak0 = some (.inl 10)) (k_2 : Q none (av_set S ak0 33 (va_rf rk1))) : aw ext d 62 194 [some (va_rf r0)] [va_rf rk1, .ref ak0] S Q := by
  refine aw_put j62_194 t_1 (av_fa_rf _ rk1) ?_
  exact aw_vret j62_197 rt62 k_2
/-! Ref_thrown -/
theorem bk63_0 {a0 : Nat} {y2 : Int32} (t_1 : S.1 a0 = some (.inl 10)) (f_3 : S.2.1 a0 0 = .int y2) (k_4 : Q (some (.int y2)) S) : aw ext d 63 0 [some (.ref a0)] [] S Q := by
  refine aw_ald j63_0 rfl rfl ?_
  refine aw_get j63_1 t_1 f_3 ?_
  exact aw_ret j63_4 (by rw [rt63]; exact rfl) k_4
/-! Ref_file -/
theorem bk64_0 {a0 : Nat} {x1 : Int32} {P_2 : Int32 → av_St → Prop} (t_1 : S.1 a0 = some (.inl 10)) (m_5 : cti ext d 65 [.int x1, .int (0 : Int32), .int (100000 : Int32)] (av_set S a0 0 (.int (0 : Int32))) P_2) (k_6 : ∀ v_4 S_3, P_2 v_4 S_3 → aw ext (d + 1) 64 12 [some (.ref a0), some (.int x1)] [.int v_4] S_3 Q) : aw ext (d + 1) 64 0 [some (.ref a0), some (.int x1)] [] S Q := by
  refine aw_ald j64_0 rfl rfl ?_
  refine aw_con j64_1 ?_
  refine aw_put j64_2 t_1 rfl ?_
  refine aw_ild j64_5 rfl ?_
  refine aw_con j64_6 ?_
  refine aw_con j64_7 ?_
  exact aw_calli (as := [.int x1, .int (0 : Int32), .int (100000 : Int32)]) j64_9 rfl rfl (Nat.le_of_ble_eq_true rfl) cy65.1 cy65.2 (cs_cons rfl (cs_cons rfl (cs_cons rfl cs_nil))) rfl m_5 k_6
theorem bk64_12 {r0 : Option Nat} {x1 : Int32} {xk0 : Int32}  (k_1 : (¬ xk0 = 0) → aw ext d 64 18 [some (va_rf r0), some (.int x1)] [] S Q) (k_2 : (xk0 = 0) → aw ext d 64 15 [some (va_rf r0), some (.int x1)] [] S Q) : aw ext d 64 12 [some (va_rf r0), some (.int x1)] [.int xk0] S Q := by
  exact aw_if j64_12 (fun h => k_1 (of_decide_eq_true h)) (fun h => k_2 (Decidable.of_not_not (of_decide_eq_false h)))
theorem bk64_15 {r0 : Option Nat} {x1 : Int32}  (k_1 : Q (some (.int (-2 : Int32))) S) : aw ext d 64 15 [some (va_rf r0), some (.int x1)] [] S Q := by
  refine aw_con j64_15 ?_
  exact aw_ret j64_17 (by rw [rt64]; exact rfl) k_1
theorem bk64_18 {a0 : Nat} {x1 : Int32} {y2 : Int32} (t_1 : S.1 a0 = some (.inl 10)) (f_3 : S.2.1 a0 1 = .int y2) (k_4 : (¬ y2 = (30 : Int32)) → aw ext d 64 30 [some (.ref a0), some (.int x1)] [] S Q) (k_5 : (y2 = (30 : Int32)) → aw ext d 64 27 [some (.ref a0), some (.int x1)] [] S Q) : aw ext d 64 18 [some (.ref a0), some (.int x1)] [] S Q := by
  refine aw_ald j64_18 rfl rfl ?_
  refine aw_get j64_19 t_1 f_3 ?_
  refine aw_con j64_22 ?_
  exact aw_ic j64_24 (fun h => k_4 (of_decide_eq_true h)) (fun h => k_5 (Decidable.of_not_not (of_decide_eq_false h)))
theorem bk64_27 {r0 : Option Nat} {x1 : Int32}  (k_1 : Q (some (.int (-4 : Int32))) S) : aw ext d 64 27 [some (va_rf r0), some (.int x1)] [] S Q := by
  refine aw_con j64_27 ?_
  exact aw_ret j64_29 (by rw [rt64]; exact rfl) k_1
theorem bk64_30 {a0 : Nat} {x1 : Int32} {b2 : Nat} {y4 : Int32} {n_6 : Nat} {i_9 : Nat} {y12 : Int32} {y14 : Int32} (t_1 : S.1 a0 = some (.inl 10)) (f_3 : S.2.1 a0 2 = .ref b2) (f_5 : S.2.1 a0 1 = .int y4) (t_7 : S.1 b2 = some (.inr (0, n_6))) (b_8 : n_6 < 2147483648) (e_10 : y4 = nI i_9) (c_11 : i_9 < n_6) (f_13 : (av_set S b2 i_9 (.int x1)).2.1 a0 1 = .int y12) (f_15 : (av_set (av_set S b2 i_9 (.int x1)) a0 1 (.int (y12 + (1 : Int32)))).2.1 a0 1 = .int y14) (k_16 : Q (some (.int (y14 - (1 : Int32)))) (av_set (av_set S b2 i_9 (.int x1)) a0 1 (.int (y12 + (1 : Int32))))) : aw ext d 64 30 [some (.ref a0), some (.int x1)] [] S Q := by
  refine aw_ald j64_30 rfl rfl ?_
  refine aw_get j64_31 t_1 f_3 ?_
  refine aw_ald j64_34 rfl rfl ?_
  refine aw_get j64_35 t_1 f_5 ?_
  refine aw_ild j64_38 rfl ?_
  refine aw_xst j64_39 t_7 e_10 c_11 b_8 ?_
  refine aw_ald j64_40 rfl rfl ?_
  refine aw_dup j64_41 rfl ?_
  refine aw_get j64_42 t_1 f_13 ?_
  refine aw_con j64_45 ?_
  refine aw_bin (z := (y12 + (1 : Int32))) j64_46 rfl ?_
  refine aw_put j64_47 t_1 rfl ?_
  refine aw_ald j64_50 rfl rfl ?_
  refine aw_get j64_51 t_1 f_15 ?_
  refine aw_con j64_54 ?_
  refine aw_bin (z := (y14 - (1 : Int32))) j64_55 rfl ?_
  exact aw_ret j64_56 (by rw [rt64]; exact rfl) k_16
/-! Ref_in -/
theorem bk65_0 {x0 : Int32} {x1 : Int32} {x2 : Int32}  (k_1 : (x0 < x1) → aw ext d 65 14 [some (.int x0), some (.int x1), some (.int x2)] [] S Q) (k_2 : (¬ (x0 < x1)) → aw ext d 65 5 [some (.int x0), some (.int x1), some (.int x2)] [] S Q) : aw ext d 65 0 [some (.int x0), some (.int x1), some (.int x2)] [] S Q := by
  refine aw_ild j65_0 rfl ?_
  refine aw_ild j65_1 rfl ?_
  exact aw_ic j65_2 (fun h => k_1 (of_decide_eq_true h)) (fun h => k_2 (of_decide_eq_false h))
theorem bk65_5 {x0 : Int32} {x1 : Int32} {x2 : Int32}  (k_1 : (x2 < x0) → aw ext d 65 14 [some (.int x0), some (.int x1), some (.int x2)] [] S Q) (k_2 : (¬ (x2 < x0)) → aw ext d 65 10 [some (.int x0), some (.int x1), some (.int x2)] [] S Q) : aw ext d 65 5 [some (.int x0), some (.int x1), some (.int x2)] [] S Q := by
  refine aw_ild j65_5 rfl ?_
  refine aw_ild j65_6 rfl ?_
  exact aw_ic j65_7 (fun h => k_1 (of_decide_eq_true h)) (fun h => k_2 (of_decide_eq_false h))
theorem bk65_10 {x0 : Int32} {x1 : Int32} {x2 : Int32}  (k_1 : aw ext d 65 15 [some (.int x0), some (.int x1), some (.int x2)] [.int (1 : Int32)] S Q) : aw ext d 65 10 [some (.int x0), some (.int x1), some (.int x2)] [] S Q := by
  refine aw_con j65_10 ?_
  exact aw_goto j65_11 k_1
theorem bk65_14 {x0 : Int32} {x1 : Int32} {x2 : Int32}  (k_1 : aw ext d 65 15 [some (.int x0), some (.int x1), some (.int x2)] [.int (0 : Int32)] S Q) : aw ext d 65 14 [some (.int x0), some (.int x1), some (.int x2)] [] S Q := by
  refine aw_con j65_14 ?_
  exact k_1
theorem bk65_15 {x0 : Int32} {x1 : Int32} {x2 : Int32} {xk0 : Int32} (o_2 : xk0 = 0 ∨ xk0 = 1) (k_1 : Q (some (.int xk0)) S) : aw ext d 65 15 [some (.int x0), some (.int x1), some (.int x2)] [.int xk0] S Q := by
  exact aw_ret j65_15 (by rw [rt65]; exact (decide_eq_true o_2)) k_1
/-! Ref_size -/
theorem bk66_0 {a0 : Nat} {x1 : Int32} {x2 : Int32} {o3 : Option Value} {P_2 : Int32 → av_St → Prop} (t_1 : S.1 a0 = some (.inl 10)) (m_5 : cti ext d 67 [.ref a0, .int x1] (av_set S a0 0 (.int (0 : Int32))) P_2) (k_6 : ∀ v_4 S_3, P_2 v_4 S_3 → aw ext (d + 1) 66 10 [some (.ref a0), some (.int x1), some (.int x2), o3] [.int v_4] S_3 Q) : aw ext (d + 1) 66 0 [some (.ref a0), some (.int x1), some (.int x2), o3] [] S Q := by
  refine aw_ald j66_0 rfl rfl ?_
  refine aw_con j66_1 ?_
  refine aw_put j66_2 t_1 rfl ?_
  refine aw_ald j66_5 rfl rfl ?_
  refine aw_ild j66_6 rfl ?_
  exact aw_calli (as := [.ref a0, .int x1]) j66_7 rfl rfl (Nat.le_of_ble_eq_true rfl) cy67.1 cy67.2 (cs_cons rfl (cs_cons rfl cs_nil)) (decide_eq_true t_1) m_5 k_6
theorem bk66_10 {r0 : Option Nat} {x1 : Int32} {x2 : Int32} {o3 : Option Value} {xk0 : Int32}  (k_1 : (¬ xk0 = 0) → aw ext d 66 15 [some (va_rf r0), some (.int x1), some (.int x2), o3] [] S Q) (k_2 : (xk0 = 0) → aw ext d 66 13 [some (va_rf r0), some (.int x1), some (.int x2), o3] [] S Q) : aw ext d 66 10 [some (va_rf r0), some (.int x1), some (.int x2), o3] [.int xk0] S Q := by
  exact aw_if j66_10 (fun h => k_1 (of_decide_eq_true h)) (fun h => k_2 (Decidable.of_not_not (of_decide_eq_false h)))
theorem bk66_13 {r0 : Option Nat} {x1 : Int32} {x2 : Int32} {o3 : Option Value}  (k_1 : Q (some (.int (-1 : Int32))) S) : aw ext d 66 13 [some (va_rf r0), some (.int x1), some (.int x2), o3] [] S Q := by
  refine aw_con j66_13 ?_
  exact aw_ret j66_14 (by rw [rt66]; exact rfl) k_1
theorem bk66_15 {r0 : Option Nat} {x1 : Int32} {x2 : Int32} {o3 : Option Value} {P_1 : Int32 → av_St → Prop} (m_4 : cti ext d 65 [.int x2, .int (0 : Int32), .int (100000 : Int32)] S P_1) (k_5 : ∀ v_3 S_2, P_1 v_3 S_2 → aw ext (d + 1) 66 22 [some (va_rf r0), some (.int x1), some (.int x2), o3] [.int v_3] S_2 Q) : aw ext (d + 1) 66 15 [some (va_rf r0), some (.int x1), some (.int x2), o3] [] S Q := by
  refine aw_ild j66_15 rfl ?_
  refine aw_con j66_16 ?_
  refine aw_con j66_17 ?_
  exact aw_calli (as := [.int x2, .int (0 : Int32), .int (100000 : Int32)]) j66_19 rfl rfl (Nat.le_of_ble_eq_true rfl) cy65.1 cy65.2 (cs_cons rfl (cs_cons rfl (cs_cons rfl cs_nil))) rfl m_4 k_5
theorem bk66_22 {r0 : Option Nat} {x1 : Int32} {x2 : Int32} {o3 : Option Value} {xk0 : Int32}  (k_1 : (¬ xk0 = 0) → aw ext d 66 28 [some (va_rf r0), some (.int x1), some (.int x2), o3] [] S Q) (k_2 : (xk0 = 0) → aw ext d 66 25 [some (va_rf r0), some (.int x1), some (.int x2), o3] [] S Q) : aw ext d 66 22 [some (va_rf r0), some (.int x1), some (.int x2), o3] [.int xk0] S Q := by
  exact aw_if j66_22 (fun h => k_1 (of_decide_eq_true h)) (fun h => k_2 (Decidable.of_not_not (of_decide_eq_false h)))
theorem bk66_25 {r0 : Option Nat} {x1 : Int32} {x2 : Int32} {o3 : Option Value}  (k_1 : Q (some (.int (-2 : Int32))) S) : aw ext d 66 25 [some (va_rf r0), some (.int x1), some (.int x2), o3] [] S Q := by
  refine aw_con j66_25 ?_
  exact aw_ret j66_27 (by rw [rt66]; exact rfl) k_1
theorem bk66_28 {a0 : Nat} {x1 : Int32} {x2 : Int32} {o3 : Option Value} {b2 : Nat} {n_4 : Nat} {i_7 : Nat} {y10 : Int32} {i_12 : Nat} (t_1 : S.1 a0 = some (.inl 10)) (f_3 : S.2.1 a0 2 = .ref b2) (t_5 : S.1 b2 = some (.inr (0, n_4))) (b_6 : n_4 < 2147483648) (e_8 : x1 = nI i_7) (c_9 : i_7 < n_4) (f_11 : S.2.1 b2 i_7 = .int y10) (e_13 : x1 = nI i_12) (c_14 : i_12 < n_4) (k_15 : Q (some (.int y10)) (av_set S b2 i_12 (.int x2))) : aw ext d 66 28 [some (.ref a0), some (.int x1), some (.int x2), o3] [] S Q := by
  refine aw_ald j66_28 rfl rfl ?_
  refine aw_get j66_29 t_1 f_3 ?_
  refine aw_ild j66_32 rfl ?_
  refine aw_xld j66_33 t_5 e_8 c_9 b_6 f_11 ?_
  refine aw_ist j66_34 (Nat.le_of_ble_eq_true rfl) ?_
  refine aw_ald j66_35 rfl rfl ?_
  refine aw_get j66_36 t_1 f_3 ?_
  refine aw_ild j66_39 rfl ?_
  refine aw_ild j66_40 rfl ?_
  refine aw_xst j66_41 t_5 e_13 c_14 b_6 ?_
  refine aw_ild j66_42 rfl ?_
  exact aw_ret j66_43 (by rw [rt66]; exact rfl) k_15
/-! Ref_isFile -/
theorem bk67_0 {a0 : Nat} {x1 : Int32} {y2 : Int32} {P_4 : Int32 → av_St → Prop} (t_1 : S.1 a0 = some (.inl 10)) (f_3 : S.2.1 a0 1 = .int y2) (m_7 : cti ext d 65 [.int x1, .int (0 : Int32), .int (y2 - (1 : Int32))] S P_4) (k_8 : ∀ v_6 S_5, P_4 v_6 S_5 → aw ext (d + 1) 67 11 [some (.ref a0), some (.int x1)] [.int v_6] S_5 Q) : aw ext (d + 1) 67 0 [some (.ref a0), some (.int x1)] [] S Q := by
  refine aw_ild j67_0 rfl ?_
  refine aw_con j67_1 ?_
  refine aw_ald j67_2 rfl rfl ?_
  refine aw_get j67_3 t_1 f_3 ?_
  refine aw_con j67_6 ?_
  refine aw_bin (z := (y2 - (1 : Int32))) j67_7 rfl ?_
  exact aw_calli (as := [.int x1, .int (0 : Int32), .int (y2 - (1 : Int32))]) j67_8 rfl rfl (Nat.le_of_ble_eq_true rfl) cy65.1 cy65.2 (cs_cons rfl (cs_cons rfl (cs_cons rfl cs_nil))) rfl m_7 k_8
theorem bk67_11 {r0 : Option Nat} {x1 : Int32} {xk0 : Int32} (o_2 : xk0 = 0 ∨ xk0 = 1) (k_1 : Q (some (.int xk0)) S) : aw ext d 67 11 [some (va_rf r0), some (.int x1)] [.int xk0] S Q := by
  exact aw_ret j67_11 (by rw [rt67]; exact (decide_eq_true o_2)) k_1
/-! Ref_map -/
theorem bk68_0 {a0 : Nat} {x1 : Int32} {P_2 : Int32 → av_St → Prop} (t_1 : S.1 a0 = some (.inl 10)) (m_5 : cti ext d 65 [.int x1, .int (0 : Int32), .int (1 : Int32)] (av_set S a0 0 (.int (0 : Int32))) P_2) (k_6 : ∀ v_4 S_3, P_2 v_4 S_3 → aw ext (d + 1) 68 11 [some (.ref a0), some (.int x1)] [.int v_4] S_3 Q) : aw ext (d + 1) 68 0 [some (.ref a0), some (.int x1)] [] S Q := by
  refine aw_ald j68_0 rfl rfl ?_
  refine aw_con j68_1 ?_
  refine aw_put j68_2 t_1 rfl ?_
  refine aw_ild j68_5 rfl ?_
  refine aw_con j68_6 ?_
  refine aw_con j68_7 ?_
  exact aw_calli (as := [.int x1, .int (0 : Int32), .int (1 : Int32)]) j68_8 rfl rfl (Nat.le_of_ble_eq_true rfl) cy65.1 cy65.2 (cs_cons rfl (cs_cons rfl (cs_cons rfl cs_nil))) rfl m_5 k_6
theorem bk68_11 {r0 : Option Nat} {x1 : Int32} {xk0 : Int32}  (k_1 : (¬ xk0 = 0) → aw ext d 68 17 [some (va_rf r0), some (.int x1)] [] S Q) (k_2 : (xk0 = 0) → aw ext d 68 14 [some (va_rf r0), some (.int x1)] [] S Q) : aw ext d 68 11 [some (va_rf r0), some (.int x1)] [.int xk0] S Q := by
  exact aw_if j68_11 (fun h => k_1 (of_decide_eq_true h)) (fun h => k_2 (Decidable.of_not_not (of_decide_eq_false h)))
theorem bk68_14 {r0 : Option Nat} {x1 : Int32}  (k_1 : Q (some (.int (-2 : Int32))) S) : aw ext d 68 14 [some (va_rf r0), some (.int x1)] [] S Q := by
  refine aw_con j68_14 ?_
  exact aw_ret j68_16 (by rw [rt68]; exact rfl) k_1
theorem bk68_17 {a0 : Nat} {x1 : Int32} {y2 : Int32} (t_1 : S.1 a0 = some (.inl 10)) (f_3 : S.2.1 a0 3 = .int y2) (k_4 : (¬ y2 = (5 : Int32)) → aw ext d 68 28 [some (.ref a0), some (.int x1)] [] S Q) (k_5 : (y2 = (5 : Int32)) → aw ext d 68 25 [some (.ref a0), some (.int x1)] [] S Q) : aw ext d 68 17 [some (.ref a0), some (.int x1)] [] S Q := by
  refine aw_ald j68_17 rfl rfl ?_
  refine aw_get j68_18 t_1 f_3 ?_
  refine aw_con j68_21 ?_
  exact aw_ic j68_22 (fun h => k_4 (of_decide_eq_true h)) (fun h => k_5 (Decidable.of_not_not (of_decide_eq_false h)))
theorem bk68_25 {r0 : Option Nat} {x1 : Int32}  (k_1 : Q (some (.int (-4 : Int32))) S) : aw ext d 68 25 [some (va_rf r0), some (.int x1)] [] S Q := by
  refine aw_con j68_25 ?_
  exact aw_ret j68_27 (by rw [rt68]; exact rfl) k_1
theorem bk68_28 {a0 : Nat} {x1 : Int32} {b2 : Nat} {y4 : Int32} {n_6 : Nat} {i_9 : Nat} {y12 : Int32} {y14 : Int32} (t_1 : S.1 a0 = some (.inl 10)) (f_3 : S.2.1 a0 4 = .ref b2) (f_5 : S.2.1 a0 3 = .int y4) (t_7 : S.1 b2 = some (.inr (0, n_6))) (b_8 : n_6 < 2147483648) (e_10 : y4 = nI i_9) (c_11 : i_9 < n_6) (f_13 : (av_set S b2 i_9 (.int x1)).2.1 a0 3 = .int y12) (f_15 : (av_set (av_set S b2 i_9 (.int x1)) a0 3 (.int (y12 + (1 : Int32)))).2.1 a0 3 = .int y14) (k_16 : Q (some (.int (y14 - (1 : Int32)))) (av_set (av_set S b2 i_9 (.int x1)) a0 3 (.int (y12 + (1 : Int32))))) : aw ext d 68 28 [some (.ref a0), some (.int x1)] [] S Q := by
  refine aw_ald j68_28 rfl rfl ?_
  refine aw_get j68_29 t_1 f_3 ?_
  refine aw_ald j68_32 rfl rfl ?_
  refine aw_get j68_33 t_1 f_5 ?_
  refine aw_ild j68_36 rfl ?_
  refine aw_xst j68_37 t_7 e_10 c_11 b_8 ?_
  refine aw_ald j68_38 rfl rfl ?_
  refine aw_dup j68_39 rfl ?_
  refine aw_get j68_40 t_1 f_13 ?_
  refine aw_con j68_43 ?_
  refine aw_bin (z := (y12 + (1 : Int32))) j68_44 rfl ?_
  refine aw_put j68_45 t_1 rfl ?_
  refine aw_ald j68_48 rfl rfl ?_
  refine aw_get j68_49 t_1 f_15 ?_
  refine aw_con j68_52 ?_
  refine aw_bin (z := (y14 - (1 : Int32))) j68_53 rfl ?_
  exact aw_ret j68_54 (by rw [rt68]; exact rfl) k_16
/-! Ref_division -/
theorem bk69_0 {a0 : Nat} {x1 : Int32} {x2 : Int32} {x3 : Int32} {x4 : Int32} {P_2 : Int32 → av_St → Prop} (t_1 : S.1 a0 = some (.inl 10)) (m_5 : cti ext d 70 [.ref a0, .int x1] (av_set S a0 0 (.int (0 : Int32))) P_2) (k_6 : ∀ v_4 S_3, P_2 v_4 S_3 → aw ext (d + 1) 69 10 [some (.ref a0), some (.int x1), some (.int x2), some (.int x3), some (.int x4)] [.int v_4] S_3 Q) : aw ext (d + 1) 69 0 [some (.ref a0), some (.int x1), some (.int x2), some (.int x3), some (.int x4)] [] S Q := by
  refine aw_ald j69_0 rfl rfl ?_
  refine aw_con j69_1 ?_
  refine aw_put j69_2 t_1 rfl ?_
  refine aw_ald j69_5 rfl rfl ?_
  refine aw_ild j69_6 rfl ?_
  exact aw_calli (as := [.ref a0, .int x1]) j69_7 rfl rfl (Nat.le_of_ble_eq_true rfl) cy70.1 cy70.2 (cs_cons rfl (cs_cons rfl cs_nil)) (decide_eq_true t_1) m_5 k_6
theorem bk69_10 {r0 : Option Nat} {x1 : Int32} {x2 : Int32} {x3 : Int32} {x4 : Int32} {xk0 : Int32}  (k_1 : (xk0 = 0) → aw ext d 69 26 [some (va_rf r0), some (.int x1), some (.int x2), some (.int x3), some (.int x4)] [] S Q) (k_2 : (¬ (xk0 = 0)) → aw ext d 69 13 [some (va_rf r0), some (.int x1), some (.int x2), some (.int x3), some (.int x4)] [] S Q) : aw ext d 69 10 [some (va_rf r0), some (.int x1), some (.int x2), some (.int x3), some (.int x4)] [.int xk0] S Q := by
  exact aw_if j69_10 (fun h => k_1 (of_decide_eq_true h)) (fun h => k_2 (of_decide_eq_false h))
theorem bk69_13 {r0 : Option Nat} {x1 : Int32} {x2 : Int32} {x3 : Int32} {x4 : Int32}  (k_1 : (x2 = (-1 : Int32)) → aw ext d 69 28 [some (va_rf r0), some (.int x1), some (.int x2), some (.int x3), some (.int x4)] [] S Q) (k_2 : (¬ (x2 = (-1 : Int32))) → aw ext d 69 18 [some (va_rf r0), some (.int x1), some (.int x2), some (.int x3), some (.int x4)] [] S Q) : aw ext d 69 13 [some (va_rf r0), some (.int x1), some (.int x2), some (.int x3), some (.int x4)] [] S Q := by
  refine aw_ild j69_13 rfl ?_
  refine aw_con j69_14 ?_
  exact aw_ic j69_15 (fun h => k_1 (of_decide_eq_true h)) (fun h => k_2 (of_decide_eq_false h))
theorem bk69_18 {a0 : Nat} {x1 : Int32} {x2 : Int32} {x3 : Int32} {x4 : Int32} {P_1 : Int32 → av_St → Prop} (t_4 : S.1 a0 = some (.inl 10)) (m_5 : cti ext d 71 [.ref a0, .int x2] S P_1) (k_6 : ∀ v_3 S_2, P_1 v_3 S_2 → aw ext (d + 1) 69 23 [some (.ref a0), some (.int x1), some (.int x2), some (.int x3), some (.int x4)] [.int v_3] S_2 Q) : aw ext (d + 1) 69 18 [some (.ref a0), some (.int x1), some (.int x2), some (.int x3), some (.int x4)] [] S Q := by
  refine aw_ald j69_18 rfl rfl ?_
  refine aw_ild j69_19 rfl ?_
  exact aw_calli (as := [.ref a0, .int x2]) j69_20 rfl rfl (Nat.le_of_ble_eq_true rfl) cy71.1 cy71.2 (cs_cons rfl (cs_cons rfl cs_nil)) (decide_eq_true t_4) m_5 k_6
theorem bk69_23 {r0 : Option Nat} {x1 : Int32} {x2 : Int32} {x3 : Int32} {x4 : Int32} {xk0 : Int32}  (k_1 : (¬ xk0 = 0) → aw ext d 69 28 [some (va_rf r0), some (.int x1), some (.int x2), some (.int x3), some (.int x4)] [] S Q) (k_2 : (xk0 = 0) → aw ext d 69 26 [some (va_rf r0), some (.int x1), some (.int x2), some (.int x3), some (.int x4)] [] S Q) : aw ext d 69 23 [some (va_rf r0), some (.int x1), some (.int x2), some (.int x3), some (.int x4)] [.int xk0] S Q := by
  exact aw_if j69_23 (fun h => k_1 (of_decide_eq_true h)) (fun h => k_2 (Decidable.of_not_not (of_decide_eq_false h)))
theorem bk69_26 {r0 : Option Nat} {x1 : Int32} {x2 : Int32} {x3 : Int32} {x4 : Int32}  (k_1 : Q (some (.int (-1 : Int32))) S) : aw ext d 69 26 [some (va_rf r0), some (.int x1), some (.int x2), some (.int x3), some (.int x4)] [] S Q := by
  refine aw_con j69_26 ?_
  exact aw_ret j69_27 (by rw [rt69]; exact rfl) k_1
theorem bk69_28 {r0 : Option Nat} {x1 : Int32} {x2 : Int32} {x3 : Int32} {x4 : Int32} {P_1 : Int32 → av_St → Prop} (m_4 : cti ext d 65 [.int x3, .int (0 : Int32), .int (999 : Int32)] S P_1) (k_5 : ∀ v_3 S_2, P_1 v_3 S_2 → aw ext (d + 1) 69 36 [some (va_rf r0), some (.int x1), some (.int x2), some (.int x3), some (.int x4)] [.int v_3] S_2 Q) : aw ext (d + 1) 69 28 [some (va_rf r0), some (.int x1), some (.int x2), some (.int x3), some (.int x4)] [] S Q := by
  refine aw_ild j69_28 rfl ?_
  refine aw_con j69_29 ?_
  refine aw_con j69_30 ?_
  exact aw_calli (as := [.int x3, .int (0 : Int32), .int (999 : Int32)]) j69_33 rfl rfl (Nat.le_of_ble_eq_true rfl) cy65.1 cy65.2 (cs_cons rfl (cs_cons rfl (cs_cons rfl cs_nil))) rfl m_4 k_5
theorem bk69_36 {r0 : Option Nat} {x1 : Int32} {x2 : Int32} {x3 : Int32} {x4 : Int32} {xk0 : Int32}  (k_1 : (xk0 = 0) → aw ext d 69 51 [some (va_rf r0), some (.int x1), some (.int x2), some (.int x3), some (.int x4)] [] S Q) (k_2 : (¬ (xk0 = 0)) → aw ext d 69 39 [some (va_rf r0), some (.int x1), some (.int x2), some (.int x3), some (.int x4)] [] S Q) : aw ext d 69 36 [some (va_rf r0), some (.int x1), some (.int x2), some (.int x3), some (.int x4)] [.int xk0] S Q := by
  exact aw_if j69_36 (fun h => k_1 (of_decide_eq_true h)) (fun h => k_2 (of_decide_eq_false h))
theorem bk69_39 {r0 : Option Nat} {x1 : Int32} {x2 : Int32} {x3 : Int32} {x4 : Int32} {P_1 : Int32 → av_St → Prop} (m_4 : cti ext d 65 [.int x4, .int (0 : Int32), .int (9999 : Int32)] S P_1) (k_5 : ∀ v_3 S_2, P_1 v_3 S_2 → aw ext (d + 1) 69 48 [some (va_rf r0), some (.int x1), some (.int x2), some (.int x3), some (.int x4)] [.int v_3] S_2 Q) : aw ext (d + 1) 69 39 [some (va_rf r0), some (.int x1), some (.int x2), some (.int x3), some (.int x4)] [] S Q := by
  refine aw_ild j69_39 rfl ?_
  refine aw_con j69_41 ?_
  refine aw_con j69_42 ?_
  exact aw_calli (as := [.int x4, .int (0 : Int32), .int (9999 : Int32)]) j69_45 rfl rfl (Nat.le_of_ble_eq_true rfl) cy65.1 cy65.2 (cs_cons rfl (cs_cons rfl (cs_cons rfl cs_nil))) rfl m_4 k_5
theorem bk69_48 {r0 : Option Nat} {x1 : Int32} {x2 : Int32} {x3 : Int32} {x4 : Int32} {xk0 : Int32}  (k_1 : (¬ xk0 = 0) → aw ext d 69 54 [some (va_rf r0), some (.int x1), some (.int x2), some (.int x3), some (.int x4)] [] S Q) (k_2 : (xk0 = 0) → aw ext d 69 51 [some (va_rf r0), some (.int x1), some (.int x2), some (.int x3), some (.int x4)] [] S Q) : aw ext d 69 48 [some (va_rf r0), some (.int x1), some (.int x2), some (.int x3), some (.int x4)] [.int xk0] S Q := by
  exact aw_if j69_48 (fun h => k_1 (of_decide_eq_true h)) (fun h => k_2 (Decidable.of_not_not (of_decide_eq_false h)))
theorem bk69_51 {r0 : Option Nat} {x1 : Int32} {x2 : Int32} {x3 : Int32} {x4 : Int32}  (k_1 : Q (some (.int (-2 : Int32))) S) : aw ext d 69 51 [some (va_rf r0), some (.int x1), some (.int x2), some (.int x3), some (.int x4)] [] S Q := by
  refine aw_con j69_51 ?_
  exact aw_ret j69_53 (by rw [rt69]; exact rfl) k_1
theorem bk69_54 {r0 : Option Nat} {x1 : Int32} {x2 : Int32} {x3 : Int32} {x4 : Int32}  (k_1 : (x2 < 0) → aw ext d 69 80 [some (va_rf r0), some (.int x1), some (.int x2), some (.int x3), some (.int x4)] [] S Q) (k_2 : (¬ (x2 < 0)) → aw ext d 69 58 [some (va_rf r0), some (.int x1), some (.int x2), some (.int x3), some (.int x4)] [] S Q) : aw ext d 69 54 [some (va_rf r0), some (.int x1), some (.int x2), some (.int x3), some (.int x4)] [] S Q := by
  refine aw_ild j69_54 rfl ?_
  exact aw_if j69_55 (fun h => k_1 (of_decide_eq_true h)) (fun h => k_2 (of_decide_eq_false h))
theorem bk69_58 {a0 : Nat} {x1 : Int32} {x2 : Int32} {x3 : Int32} {x4 : Int32} {b2 : Nat} {n_4 : Nat} {i_7 : Nat} {y10 : Int32} (t_1 : S.1 a0 = some (.inl 10)) (f_3 : S.2.1 a0 6 = .ref b2) (t_5 : S.1 b2 = some (.inr (0, n_4))) (b_6 : n_4 < 2147483648) (e_8 : x2 = nI i_7) (c_9 : i_7 < n_4) (f_11 : S.2.1 b2 i_7 = .int y10) (k_12 : (¬ y10 = x1) → aw ext d 69 77 [some (.ref a0), some (.int x1), some (.int x2), some (.int x3), some (.int x4)] [] S Q) (k_13 : (y10 = x1) → aw ext d 69 68 [some (.ref a0), some (.int x1), some (.int x2), some (.int x3), some (.int x4)] [] S Q) : aw ext d 69 58 [some (.ref a0), some (.int x1), some (.int x2), some (.int x3), some (.int x4)] [] S Q := by
  refine aw_ald j69_58 rfl rfl ?_
  refine aw_get j69_59 t_1 f_3 ?_
  refine aw_ild j69_62 rfl ?_
  refine aw_xld j69_63 t_5 e_8 c_9 b_6 f_11 ?_
  refine aw_ild j69_64 rfl ?_
  exact aw_ic j69_65 (fun h => k_12 (of_decide_eq_true h)) (fun h => k_13 (Decidable.of_not_not (of_decide_eq_false h)))
theorem bk69_68 {a0 : Nat} {x1 : Int32} {x2 : Int32} {x3 : Int32} {x4 : Int32} {b2 : Nat} {n_4 : Nat} {i_7 : Nat} {y10 : Int32} (t_1 : S.1 a0 = some (.inl 10)) (f_3 : S.2.1 a0 10 = .ref b2) (t_5 : S.1 b2 = some (.inr (0, n_4))) (b_6 : n_4 < 2147483648) (e_8 : x2 = nI i_7) (c_9 : i_7 < n_4) (f_11 : S.2.1 b2 i_7 = .int y10) (k_12 : (y10 < 0) → aw ext d 69 80 [some (.ref a0), some (.int x1), some (.int x2), some (.int x3), some (.int x4)] [] S Q) (k_13 : (¬ (y10 < 0)) → aw ext d 69 77 [some (.ref a0), some (.int x1), some (.int x2), some (.int x3), some (.int x4)] [] S Q) : aw ext d 69 68 [some (.ref a0), some (.int x1), some (.int x2), some (.int x3), some (.int x4)] [] S Q := by
  refine aw_ald j69_68 rfl rfl ?_
  refine aw_get j69_69 t_1 f_3 ?_
  refine aw_ild j69_72 rfl ?_
  refine aw_xld j69_73 t_5 e_8 c_9 b_6 f_11 ?_
  exact aw_if j69_74 (fun h => k_12 (of_decide_eq_true h)) (fun h => k_13 (of_decide_eq_false h))
theorem bk69_77 {r0 : Option Nat} {x1 : Int32} {x2 : Int32} {x3 : Int32} {x4 : Int32}  (k_1 : Q (some (.int (-3 : Int32))) S) : aw ext d 69 77 [some (va_rf r0), some (.int x1), some (.int x2), some (.int x3), some (.int x4)] [] S Q := by
  refine aw_con j69_77 ?_
  exact aw_ret j69_79 (by rw [rt69]; exact rfl) k_1
theorem bk69_80 {a0 : Nat} {x1 : Int32} {x2 : Int32} {x3 : Int32} {x4 : Int32} {y2 : Int32} (t_1 : S.1 a0 = some (.inl 10)) (f_3 : S.2.1 a0 5 = .int y2) (k_4 : (¬ y2 = (120 : Int32)) → aw ext d 69 92 [some (.ref a0), some (.int x1), some (.int x2), some (.int x3), some (.int x4)] [] S Q) (k_5 : (y2 = (120 : Int32)) → aw ext d 69 89 [some (.ref a0), some (.int x1), some (.int x2), some (.int x3), some (.int x4)] [] S Q) : aw ext d 69 80 [some (.ref a0), some (.int x1), some (.int x2), some (.int x3), some (.int x4)] [] S Q := by
  refine aw_ald j69_80 rfl rfl ?_
  refine aw_get j69_81 t_1 f_3 ?_
  refine aw_con j69_84 ?_
  exact aw_ic j69_86 (fun h => k_4 (of_decide_eq_true h)) (fun h => k_5 (Decidable.of_not_not (of_decide_eq_false h)))
theorem bk69_89 {r0 : Option Nat} {x1 : Int32} {x2 : Int32} {x3 : Int32} {x4 : Int32}  (k_1 : Q (some (.int (-4 : Int32))) S) : aw ext d 69 89 [some (va_rf r0), some (.int x1), some (.int x2), some (.int x3), some (.int x4)] [] S Q := by
  refine aw_con j69_89 ?_
  exact aw_ret j69_91 (by rw [rt69]; exact rfl) k_1
theorem bk69_92 {a0 : Nat} {x1 : Int32} {x2 : Int32} {x3 : Int32} {x4 : Int32} {b2 : Nat} {y4 : Int32} {n_6 : Nat} {i_9 : Nat} {b12 : Nat} {y14 : Int32} {n_16 : Nat} {i_19 : Nat} {b22 : Nat} {y24 : Int32} {n_26 : Nat} {i_29 : Nat} {b32 : Nat} {y34 : Int32} {n_36 : Nat} {i_39 : Nat} {b42 : Nat} {y44 : Int32} {n_46 : Nat} {i_49 : Nat} {y52 : Int32} {y54 : Int32} (t_1 : S.1 a0 = some (.inl 10)) (f_3 : S.2.1 a0 6 = .ref b2) (f_5 : S.2.1 a0 5 = .int y4) (t_7 : S.1 b2 = some (.inr (0, n_6))) (b_8 : n_6 < 2147483648) (e_10 : y4 = nI i_9) (c_11 : i_9 < n_6) (f_13 : (av_set S b2 i_9 (.int x1)).2.1 a0 7 = .ref b12) (f_15 : (av_set S b2 i_9 (.int x1)).2.1 a0 5 = .int y14) (t_17 : (av_set S b2 i_9 (.int x1)).1 b12 = some (.inr (0, n_16))) (b_18 : n_16 < 2147483648) (e_20 : y14 = nI i_19) (c_21 : i_19 < n_16) (f_23 : (av_set (av_set S b2 i_9 (.int x1)) b12 i_19 (.int x2)).2.1 a0 8 = .ref b22) (f_25 : (av_set (av_set S b2 i_9 (.int x1)) b12 i_19 (.int x2)).2.1 a0 5 = .int y24) (t_27 : (av_set (av_set S b2 i_9 (.int x1)) b12 i_19 (.int x2)).1 b22 = some (.inr (0, n_26))) (b_28 : n_26 < 2147483648) (e_30 : y24 = nI i_29) (c_31 : i_29 < n_26) (f_33 : (av_set (av_set (av_set S b2 i_9 (.int x1)) b12 i_19 (.int x2)) b22 i_29 (.int x3)).2.1 a0 9 = .ref b32) (f_35 : (av_set (av_set (av_set S b2 i_9 (.int x1)) b12 i_19 (.int x2)) b22 i_29 (.int x3)).2.1 a0 5 = .int y34) (t_37 : (av_set (av_set (av_set S b2 i_9 (.int x1)) b12 i_19 (.int x2)) b22 i_29 (.int x3)).1 b32 = some (.inr (0, n_36))) (b_38 : n_36 < 2147483648) (e_40 : y34 = nI i_39) (c_41 : i_39 < n_36) (f_43 : (av_set (av_set (av_set (av_set S b2 i_9 (.int x1)) b12 i_19 (.int x2)) b22 i_29 (.int x3)) b32 i_39 (.int x4)).2.1 a0 10 = .ref b42) (f_45 : (av_set (av_set (av_set (av_set S b2 i_9 (.int x1)) b12 i_19 (.int x2)) b22 i_29 (.int x3)) b32 i_39 (.int x4)).2.1 a0 5 = .int y44) (t_47 : (av_set (av_set (av_set (av_set S b2 i_9 (.int x1)) b12 i_19 (.int x2)) b22 i_29 (.int x3)) b32 i_39 (.int x4)).1 b42 = some (.inr (0, n_46))) (b_48 : n_46 < 2147483648) (e_50 : y44 = nI i_49) (c_51 : i_49 < n_46) (f_53 : (av_set (av_set (av_set (av_set (av_set S b2 i_9 (.int x1)) b12 i_19 (.int x2)) b22 i_29 (.int x3)) b32 i_39 (.int x4)) b42 i_49 (.int (-1 : Int32))).2.1 a0 5 = .int y52) (f_55 : (av_set (av_set (av_set (av_set (av_set (av_set S b2 i_9 (.int x1)) b12 i_19 (.int x2)) b22 i_29 (.int x3)) b32 i_39 (.int x4)) b42 i_49 (.int (-1 : Int32))) a0 5 (.int (y52 + (1 : Int32)))).2.1 a0 5 = .int y54) (k_56 : Q (some (.int (y54 - (1 : Int32)))) (av_set (av_set (av_set (av_set (av_set (av_set S b2 i_9 (.int x1)) b12 i_19 (.int x2)) b22 i_29 (.int x3)) b32 i_39 (.int x4)) b42 i_49 (.int (-1 : Int32))) a0 5 (.int (y52 + (1 : Int32))))) : aw ext d 69 92 [some (.ref a0), some (.int x1), some (.int x2), some (.int x3), some (.int x4)] [] S Q := by
  refine aw_ald j69_92 rfl rfl ?_
  refine aw_get j69_93 t_1 f_3 ?_
  refine aw_ald j69_96 rfl rfl ?_
  refine aw_get j69_97 t_1 f_5 ?_
  refine aw_ild j69_100 rfl ?_
  refine aw_xst j69_101 t_7 e_10 c_11 b_8 ?_
  refine aw_ald j69_102 rfl rfl ?_
  refine aw_get j69_103 t_1 f_13 ?_
  refine aw_ald j69_106 rfl rfl ?_
  refine aw_get j69_107 t_1 f_15 ?_
  refine aw_ild j69_110 rfl ?_
  refine aw_xst j69_111 t_17 e_20 c_21 b_18 ?_
  refine aw_ald j69_112 rfl rfl ?_
  refine aw_get j69_113 t_1 f_23 ?_
  refine aw_ald j69_116 rfl rfl ?_
  refine aw_get j69_117 t_1 f_25 ?_
  refine aw_ild j69_120 rfl ?_
  refine aw_xst j69_121 t_27 e_30 c_31 b_28 ?_
  refine aw_ald j69_122 rfl rfl ?_
  refine aw_get j69_123 t_1 f_33 ?_
  refine aw_ald j69_126 rfl rfl ?_
  refine aw_get j69_127 t_1 f_35 ?_
  refine aw_ild j69_130 rfl ?_
  refine aw_xst j69_132 t_37 e_40 c_41 b_38 ?_
  refine aw_ald j69_133 rfl rfl ?_
  refine aw_get j69_134 t_1 f_43 ?_
  refine aw_ald j69_137 rfl rfl ?_
  refine aw_get j69_138 t_1 f_45 ?_
  refine aw_con j69_141 ?_
  refine aw_xst j69_142 t_47 e_50 c_51 b_48 ?_
  refine aw_ald j69_143 rfl rfl ?_
  refine aw_dup j69_144 rfl ?_
  refine aw_get j69_145 t_1 f_53 ?_
  refine aw_con j69_148 ?_
  refine aw_bin (z := (y52 + (1 : Int32))) j69_149 rfl ?_
  refine aw_put j69_150 t_1 rfl ?_
  refine aw_ald j69_153 rfl rfl ?_
  refine aw_get j69_154 t_1 f_55 ?_
  refine aw_con j69_157 ?_
  refine aw_bin (z := (y54 - (1 : Int32))) j69_158 rfl ?_
  exact aw_ret j69_159 (by rw [rt69]; exact rfl) k_56
/-! Ref_isMap -/
theorem bk70_0 {a0 : Nat} {x1 : Int32} {y2 : Int32} {P_4 : Int32 → av_St → Prop} (t_1 : S.1 a0 = some (.inl 10)) (f_3 : S.2.1 a0 3 = .int y2) (m_7 : cti ext d 65 [.int x1, .int (0 : Int32), .int (y2 - (1 : Int32))] S P_4) (k_8 : ∀ v_6 S_5, P_4 v_6 S_5 → aw ext (d + 1) 70 11 [some (.ref a0), some (.int x1)] [.int v_6] S_5 Q) : aw ext (d + 1) 70 0 [some (.ref a0), some (.int x1)] [] S Q := by
  refine aw_ild j70_0 rfl ?_
  refine aw_con j70_1 ?_
  refine aw_ald j70_2 rfl rfl ?_
  refine aw_get j70_3 t_1 f_3 ?_
  refine aw_con j70_6 ?_
  refine aw_bin (z := (y2 - (1 : Int32))) j70_7 rfl ?_
  exact aw_calli (as := [.int x1, .int (0 : Int32), .int (y2 - (1 : Int32))]) j70_8 rfl rfl (Nat.le_of_ble_eq_true rfl) cy65.1 cy65.2 (cs_cons rfl (cs_cons rfl (cs_cons rfl cs_nil))) rfl m_7 k_8
theorem bk70_11 {r0 : Option Nat} {x1 : Int32} {xk0 : Int32} (o_2 : xk0 = 0 ∨ xk0 = 1) (k_1 : Q (some (.int xk0)) S) : aw ext d 70 11 [some (va_rf r0), some (.int x1)] [.int xk0] S Q := by
  exact aw_ret j70_11 (by rw [rt70]; exact (decide_eq_true o_2)) k_1
/-! Ref_isDivision -/
theorem bk71_0 {a0 : Nat} {x1 : Int32} {y2 : Int32} {P_4 : Int32 → av_St → Prop} (t_1 : S.1 a0 = some (.inl 10)) (f_3 : S.2.1 a0 5 = .int y2) (m_7 : cti ext d 65 [.int x1, .int (0 : Int32), .int (y2 - (1 : Int32))] S P_4) (k_8 : ∀ v_6 S_5, P_4 v_6 S_5 → aw ext (d + 1) 71 11 [some (.ref a0), some (.int x1)] [.int v_6] S_5 Q) : aw ext (d + 1) 71 0 [some (.ref a0), some (.int x1)] [] S Q := by
  refine aw_ild j71_0 rfl ?_
  refine aw_con j71_1 ?_
  refine aw_ald j71_2 rfl rfl ?_
  refine aw_get j71_3 t_1 f_3 ?_
  refine aw_con j71_6 ?_
  refine aw_bin (z := (y2 - (1 : Int32))) j71_7 rfl ?_
  exact aw_calli (as := [.int x1, .int (0 : Int32), .int (y2 - (1 : Int32))]) j71_8 rfl rfl (Nat.le_of_ble_eq_true rfl) cy65.1 cy65.2 (cs_cons rfl (cs_cons rfl (cs_cons rfl cs_nil))) rfl m_7 k_8
theorem bk71_11 {r0 : Option Nat} {x1 : Int32} {xk0 : Int32} (o_2 : xk0 = 0 ∨ xk0 = 1) (k_1 : Q (some (.int xk0)) S) : aw ext d 71 11 [some (va_rf r0), some (.int x1)] [.int xk0] S Q := by
  exact aw_ret j71_11 (by rw [rt71]; exact (decide_eq_true o_2)) k_1
/-! Ref_link -/
theorem bk72_0 {a0 : Nat} {x1 : Int32} {x2 : Int32} {x3 : Int32} {x4 : Int32} {o5 : Option Value} {P_2 : Int32 → av_St → Prop} (t_1 : S.1 a0 = some (.inl 10)) (m_5 : cti ext d 71 [.ref a0, .int x1] (av_set S a0 0 (.int (0 : Int32))) P_2) (k_6 : ∀ v_4 S_3, P_2 v_4 S_3 → aw ext (d + 1) 72 10 [some (.ref a0), some (.int x1), some (.int x2), some (.int x3), some (.int x4), o5] [.int v_4] S_3 Q) : aw ext (d + 1) 72 0 [some (.ref a0), some (.int x1), some (.int x2), some (.int x3), some (.int x4), o5] [] S Q := by
  refine aw_ald j72_0 rfl rfl ?_
  refine aw_con j72_1 ?_
  refine aw_put j72_2 t_1 rfl ?_
  refine aw_ald j72_5 rfl rfl ?_
  refine aw_ild j72_6 rfl ?_
  exact aw_calli (as := [.ref a0, .int x1]) j72_7 rfl rfl (Nat.le_of_ble_eq_true rfl) cy71.1 cy71.2 (cs_cons rfl (cs_cons rfl cs_nil)) (decide_eq_true t_1) m_5 k_6
theorem bk72_10 {r0 : Option Nat} {x1 : Int32} {x2 : Int32} {x3 : Int32} {x4 : Int32} {o5 : Option Value} {xk0 : Int32}  (k_1 : (xk0 = 0) → aw ext d 72 21 [some (va_rf r0), some (.int x1), some (.int x2), some (.int x3), some (.int x4), o5] [] S Q) (k_2 : (¬ (xk0 = 0)) → aw ext d 72 13 [some (va_rf r0), some (.int x1), some (.int x2), some (.int x3), some (.int x4), o5] [] S Q) : aw ext d 72 10 [some (va_rf r0), some (.int x1), some (.int x2), some (.int x3), some (.int x4), o5] [.int xk0] S Q := by
  exact aw_if j72_10 (fun h => k_1 (of_decide_eq_true h)) (fun h => k_2 (of_decide_eq_false h))
theorem bk72_13 {a0 : Nat} {x1 : Int32} {x2 : Int32} {x3 : Int32} {x4 : Int32} {o5 : Option Value} {P_1 : Int32 → av_St → Prop} (t_4 : S.1 a0 = some (.inl 10)) (m_5 : cti ext d 67 [.ref a0, .int x2] S P_1) (k_6 : ∀ v_3 S_2, P_1 v_3 S_2 → aw ext (d + 1) 72 18 [some (.ref a0), some (.int x1), some (.int x2), some (.int x3), some (.int x4), o5] [.int v_3] S_2 Q) : aw ext (d + 1) 72 13 [some (.ref a0), some (.int x1), some (.int x2), some (.int x3), some (.int x4), o5] [] S Q := by
  refine aw_ald j72_13 rfl rfl ?_
  refine aw_ild j72_14 rfl ?_
  exact aw_calli (as := [.ref a0, .int x2]) j72_15 rfl rfl (Nat.le_of_ble_eq_true rfl) cy67.1 cy67.2 (cs_cons rfl (cs_cons rfl cs_nil)) (decide_eq_true t_4) m_5 k_6
theorem bk72_18 {r0 : Option Nat} {x1 : Int32} {x2 : Int32} {x3 : Int32} {x4 : Int32} {o5 : Option Value} {xk0 : Int32}  (k_1 : (¬ xk0 = 0) → aw ext d 72 23 [some (va_rf r0), some (.int x1), some (.int x2), some (.int x3), some (.int x4), o5] [] S Q) (k_2 : (xk0 = 0) → aw ext d 72 21 [some (va_rf r0), some (.int x1), some (.int x2), some (.int x3), some (.int x4), o5] [] S Q) : aw ext d 72 18 [some (va_rf r0), some (.int x1), some (.int x2), some (.int x3), some (.int x4), o5] [.int xk0] S Q := by
  exact aw_if j72_18 (fun h => k_1 (of_decide_eq_true h)) (fun h => k_2 (Decidable.of_not_not (of_decide_eq_false h)))
theorem bk72_21 {r0 : Option Nat} {x1 : Int32} {x2 : Int32} {x3 : Int32} {x4 : Int32} {o5 : Option Value}  (k_1 : Q (some (.int (-1 : Int32))) S) : aw ext d 72 21 [some (va_rf r0), some (.int x1), some (.int x2), some (.int x3), some (.int x4), o5] [] S Q := by
  refine aw_con j72_21 ?_
  exact aw_ret j72_22 (by rw [rt72]; exact rfl) k_1
theorem bk72_23 {r0 : Option Nat} {x1 : Int32} {x2 : Int32} {x3 : Int32} {x4 : Int32} {o5 : Option Value} {P_1 : Int32 → av_St → Prop} (m_4 : cti ext d 65 [.int x3, .int (0 : Int32), .int (100000 : Int32)] S P_1) (k_5 : ∀ v_3 S_2, P_1 v_3 S_2 → aw ext (d + 1) 72 30 [some (va_rf r0), some (.int x1), some (.int x2), some (.int x3), some (.int x4), o5] [.int v_3] S_2 Q) : aw ext (d + 1) 72 23 [some (va_rf r0), some (.int x1), some (.int x2), some (.int x3), some (.int x4), o5] [] S Q := by
  refine aw_ild j72_23 rfl ?_
  refine aw_con j72_24 ?_
  refine aw_con j72_25 ?_
  exact aw_calli (as := [.int x3, .int (0 : Int32), .int (100000 : Int32)]) j72_27 rfl rfl (Nat.le_of_ble_eq_true rfl) cy65.1 cy65.2 (cs_cons rfl (cs_cons rfl (cs_cons rfl cs_nil))) rfl m_4 k_5
theorem bk72_30 {r0 : Option Nat} {x1 : Int32} {x2 : Int32} {x3 : Int32} {x4 : Int32} {o5 : Option Value} {xk0 : Int32}  (k_1 : (xk0 = 0) → aw ext d 72 46 [some (va_rf r0), some (.int x1), some (.int x2), some (.int x3), some (.int x4), o5] [] S Q) (k_2 : (¬ (xk0 = 0)) → aw ext d 72 33 [some (va_rf r0), some (.int x1), some (.int x2), some (.int x3), some (.int x4), o5] [] S Q) : aw ext d 72 30 [some (va_rf r0), some (.int x1), some (.int x2), some (.int x3), some (.int x4), o5] [.int xk0] S Q := by
  exact aw_if j72_30 (fun h => k_1 (of_decide_eq_true h)) (fun h => k_2 (of_decide_eq_false h))
theorem bk72_33 {r0 : Option Nat} {x1 : Int32} {x2 : Int32} {x3 : Int32} {x4 : Int32} {o5 : Option Value} {P_1 : Int32 → av_St → Prop} (m_4 : cti ext d 65 [.int x4, .int (x3 + (1 : Int32)), .int (100000 : Int32)] S P_1) (k_5 : ∀ v_3 S_2, P_1 v_3 S_2 → aw ext (d + 1) 72 43 [some (va_rf r0), some (.int x1), some (.int x2), some (.int x3), some (.int x4), o5] [.int v_3] S_2 Q) : aw ext (d + 1) 72 33 [some (va_rf r0), some (.int x1), some (.int x2), some (.int x3), some (.int x4), o5] [] S Q := by
  refine aw_ild j72_33 rfl ?_
  refine aw_ild j72_35 rfl ?_
  refine aw_con j72_36 ?_
  refine aw_bin (z := (x3 + (1 : Int32))) j72_37 rfl ?_
  refine aw_con j72_38 ?_
  exact aw_calli (as := [.int x4, .int (x3 + (1 : Int32)), .int (100000 : Int32)]) j72_40 rfl rfl (Nat.le_of_ble_eq_true rfl) cy65.1 cy65.2 (cs_cons rfl (cs_cons rfl (cs_cons rfl cs_nil))) rfl m_4 k_5
theorem bk72_43 {r0 : Option Nat} {x1 : Int32} {x2 : Int32} {x3 : Int32} {x4 : Int32} {o5 : Option Value} {xk0 : Int32}  (k_1 : (¬ xk0 = 0) → aw ext d 72 49 [some (va_rf r0), some (.int x1), some (.int x2), some (.int x3), some (.int x4), o5] [] S Q) (k_2 : (xk0 = 0) → aw ext d 72 46 [some (va_rf r0), some (.int x1), some (.int x2), some (.int x3), some (.int x4), o5] [] S Q) : aw ext d 72 43 [some (va_rf r0), some (.int x1), some (.int x2), some (.int x3), some (.int x4), o5] [.int xk0] S Q := by
  exact aw_if j72_43 (fun h => k_1 (of_decide_eq_true h)) (fun h => k_2 (Decidable.of_not_not (of_decide_eq_false h)))
theorem bk72_46 {r0 : Option Nat} {x1 : Int32} {x2 : Int32} {x3 : Int32} {x4 : Int32} {o5 : Option Value}  (k_1 : Q (some (.int (-2 : Int32))) S) : aw ext d 72 46 [some (va_rf r0), some (.int x1), some (.int x2), some (.int x3), some (.int x4), o5] [] S Q := by
  refine aw_con j72_46 ?_
  exact aw_ret j72_48 (by rw [rt72]; exact rfl) k_1
theorem bk72_49 {a0 : Nat} {x1 : Int32} {x2 : Int32} {x3 : Int32} {x4 : Int32} {o5 : Option Value} {b2 : Nat} {n_4 : Nat} {i_7 : Nat} {y10 : Int32} (t_1 : S.1 a0 = some (.inl 10)) (f_3 : S.2.1 a0 10 = .ref b2) (t_5 : S.1 b2 = some (.inr (0, n_4))) (b_6 : n_4 < 2147483648) (e_8 : x1 = nI i_7) (c_9 : i_7 < n_4) (f_11 : S.2.1 b2 i_7 = .int y10) (k_12 : (y10 < 0) → aw ext d 72 61 [some (.ref a0), some (.int x1), some (.int x2), some (.int x3), some (.int x4), o5] [] S Q) (k_13 : (¬ (y10 < 0)) → aw ext d 72 58 [some (.ref a0), some (.int x1), some (.int x2), some (.int x3), some (.int x4), o5] [] S Q) : aw ext d 72 49 [some (.ref a0), some (.int x1), some (.int x2), some (.int x3), some (.int x4), o5] [] S Q := by
  refine aw_ald j72_49 rfl rfl ?_
  refine aw_get j72_50 t_1 f_3 ?_
  refine aw_ild j72_53 rfl ?_
  refine aw_xld j72_54 t_5 e_8 c_9 b_6 f_11 ?_
  exact aw_if j72_55 (fun h => k_12 (of_decide_eq_true h)) (fun h => k_13 (of_decide_eq_false h))
theorem bk72_58 {r0 : Option Nat} {x1 : Int32} {x2 : Int32} {x3 : Int32} {x4 : Int32} {o5 : Option Value}  (k_1 : Q (some (.int (-3 : Int32))) S) : aw ext d 72 58 [some (va_rf r0), some (.int x1), some (.int x2), some (.int x3), some (.int x4), o5] [] S Q := by
  refine aw_con j72_58 ?_
  exact aw_ret j72_60 (by rw [rt72]; exact rfl) k_1
theorem bk72_61 {a0 : Nat} {x1 : Int32} {x2 : Int32} {x3 : Int32} {x4 : Int32} {o5 : Option Value} {b2 : Nat} {n_4 : Nat} {i_7 : Nat} {y10 : Int32} (t_1 : S.1 a0 = some (.inl 10)) (f_3 : S.2.1 a0 11 = .ref b2) (t_5 : S.1 b2 = some (.inr (0, n_4))) (b_6 : n_4 < 2147483648) (e_8 : x1 = nI i_7) (c_9 : i_7 < n_4) (f_11 : S.2.1 b2 i_7 = .int y10) (k_12 : (¬ y10 = (5 : Int32)) → aw ext d 72 74 [some (.ref a0), some (.int x1), some (.int x2), some (.int x3), some (.int x4), o5] [] S Q) (k_13 : (y10 = (5 : Int32)) → aw ext d 72 71 [some (.ref a0), some (.int x1), some (.int x2), some (.int x3), some (.int x4), o5] [] S Q) : aw ext d 72 61 [some (.ref a0), some (.int x1), some (.int x2), some (.int x3), some (.int x4), o5] [] S Q := by
  refine aw_ald j72_61 rfl rfl ?_
  refine aw_get j72_62 t_1 f_3 ?_
  refine aw_ild j72_65 rfl ?_
  refine aw_xld j72_66 t_5 e_8 c_9 b_6 f_11 ?_
  refine aw_con j72_67 ?_
  exact aw_ic j72_68 (fun h => k_12 (of_decide_eq_true h)) (fun h => k_13 (Decidable.of_not_not (of_decide_eq_false h)))
theorem bk72_71 {r0 : Option Nat} {x1 : Int32} {x2 : Int32} {x3 : Int32} {x4 : Int32} {o5 : Option Value}  (k_1 : Q (some (.int (-4 : Int32))) S) : aw ext d 72 71 [some (va_rf r0), some (.int x1), some (.int x2), some (.int x3), some (.int x4), o5] [] S Q := by
  refine aw_con j72_71 ?_
  exact aw_ret j72_73 (by rw [rt72]; exact rfl) k_1
theorem bk72_74 {a0 : Nat} {x1 : Int32} {x2 : Int32} {x3 : Int32} {x4 : Int32} {o5 : Option Value} {b2 : Nat} {n_4 : Nat} {i_7 : Nat} {y10 : Int32} {b12 : Nat} {n_14 : Nat} {i_17 : Nat} {b20 : Nat} {n_22 : Nat} {i_25 : Nat} {b28 : Nat} {n_30 : Nat} {i_33 : Nat} {b36 : Nat} {n_38 : Nat} {i_41 : Nat} {y44 : Int32} {i_46 : Nat} {b49 : Nat} {n_51 : Nat} {i_54 : Nat} {y57 : Int32} (t_1 : S.1 a0 = some (.inl 10)) (f_3 : S.2.1 a0 11 = .ref b2) (t_5 : S.1 b2 = some (.inr (0, n_4))) (b_6 : n_4 < 2147483648) (e_8 : x1 = nI i_7) (c_9 : i_7 < n_4) (f_11 : S.2.1 b2 i_7 = .int y10) (f_13 : S.2.1 a0 12 = .ref b12) (t_15 : S.1 b12 = some (.inr (0, n_14))) (b_16 : n_14 < 2147483648) (e_18 : (((5 : Int32) * x1) + y10) = nI i_17) (c_19 : i_17 < n_14) (f_21 : (av_set S b12 i_17 (.int x2)).2.1 a0 13 = .ref b20) (t_23 : (av_set S b12 i_17 (.int x2)).1 b20 = some (.inr (0, n_22))) (b_24 : n_22 < 2147483648) (e_26 : (((5 : Int32) * x1) + y10) = nI i_25) (c_27 : i_25 < n_22) (f_29 : (av_set (av_set S b12 i_17 (.int x2)) b20 i_25 (.int x3)).2.1 a0 14 = .ref b28) (t_31 : (av_set (av_set S b12 i_17 (.int x2)) b20 i_25 (.int x3)).1 b28 = some (.inr (0, n_30))) (b_32 : n_30 < 2147483648) (e_34 : (((5 : Int32) * x1) + y10) = nI i_33) (c_35 : i_33 < n_30) (f_37 : (av_set (av_set (av_set S b12 i_17 (.int x2)) b20 i_25 (.int x3)) b28 i_33 (.int x4)).2.1 a0 11 = .ref b36) (t_39 : (av_set (av_set (av_set S b12 i_17 (.int x2)) b20 i_25 (.int x3)) b28 i_33 (.int x4)).1 b36 = some (.inr (0, n_38))) (b_40 : n_38 < 2147483648) (e_42 : x1 = nI i_41) (c_43 : i_41 < n_38) (f_45 : (av_set (av_set (av_set S b12 i_17 (.int x2)) b20 i_25 (.int x3)) b28 i_33 (.int x4)).2.1 b36 i_41 = .int y44) (e_47 : x1 = nI i_46) (c_48 : i_46 < n_38) (f_50 : (av_set (av_set (av_set (av_set S b12 i_17 (.int x2)) b20 i_25 (.int x3)) b28 i_33 (.int x4)) b36 i_46 (.int (y44 + (1 : Int32)))).2.1 a0 11 = .ref b49) (t_52 : (av_set (av_set (av_set (av_set S b12 i_17 (.int x2)) b20 i_25 (.int x3)) b28 i_33 (.int x4)) b36 i_46 (.int (y44 + (1 : Int32)))).1 b49 = some (.inr (0, n_51))) (b_53 : n_51 < 2147483648) (e_55 : x1 = nI i_54) (c_56 : i_54 < n_51) (f_58 : (av_set (av_set (av_set (av_set S b12 i_17 (.int x2)) b20 i_25 (.int x3)) b28 i_33 (.int x4)) b36 i_46 (.int (y44 + (1 : Int32)))).2.1 b49 i_54 = .int y57) (k_59 : Q (some (.int y57)) (av_set (av_set (av_set (av_set S b12 i_17 (.int x2)) b20 i_25 (.int x3)) b28 i_33 (.int x4)) b36 i_46 (.int (y44 + (1 : Int32))))) : aw ext d 72 74 [some (.ref a0), some (.int x1), some (.int x2), some (.int x3), some (.int x4), o5] [] S Q := by
  refine aw_con j72_74 ?_
  refine aw_ild j72_75 rfl ?_
  refine aw_bin (z := ((5 : Int32) * x1)) j72_76 rfl ?_
  refine aw_ald j72_77 rfl rfl ?_
  refine aw_get j72_78 t_1 f_3 ?_
  refine aw_ild j72_81 rfl ?_
  refine aw_xld j72_82 t_5 e_8 c_9 b_6 f_11 ?_
  refine aw_bin (z := (((5 : Int32) * x1) + y10)) j72_83 rfl ?_
  refine aw_ist j72_84 (Nat.le_of_ble_eq_true rfl) ?_
  refine aw_ald j72_86 rfl rfl ?_
  refine aw_get j72_87 t_1 f_13 ?_
  refine aw_ild j72_90 rfl ?_
  refine aw_ild j72_92 rfl ?_
  refine aw_xst j72_93 t_15 e_18 c_19 b_16 ?_
  refine aw_ald j72_94 rfl rfl ?_
  refine aw_get j72_95 t_1 f_21 ?_
  refine aw_ild j72_98 rfl ?_
  refine aw_ild j72_100 rfl ?_
  refine aw_xst j72_101 t_23 e_26 c_27 b_24 ?_
  refine aw_ald j72_102 rfl rfl ?_
  refine aw_get j72_103 t_1 f_29 ?_
  refine aw_ild j72_106 rfl ?_
  refine aw_ild j72_108 rfl ?_
  refine aw_xst j72_110 t_31 e_34 c_35 b_32 ?_
  refine aw_ald j72_111 rfl rfl ?_
  refine aw_get j72_112 t_1 f_37 ?_
  refine aw_ild j72_115 rfl ?_
  refine aw_dup2 j72_116 rfl rfl ?_
  refine aw_xld j72_117 t_39 e_42 c_43 b_40 f_45 ?_
  refine aw_con j72_118 ?_
  refine aw_bin (z := (y44 + (1 : Int32))) j72_119 rfl ?_
  refine aw_xst j72_120 t_39 e_47 c_48 b_40 ?_
  refine aw_ald j72_121 rfl rfl ?_
  refine aw_get j72_122 t_1 f_50 ?_
  refine aw_ild j72_125 rfl ?_
  refine aw_xld j72_126 t_52 e_55 c_56 b_53 f_58 ?_
  exact aw_ret j72_127 (by rw [rt72]; exact rfl) k_59
/-! Ref_repeat -/
theorem bk73_0 {a0 : Nat} {x1 : Int32} {x2 : Int32} {o3 : Option Value} {P_2 : Int32 → av_St → Prop} (t_1 : S.1 a0 = some (.inl 10)) (m_5 : cti ext d 71 [.ref a0, .int x1] (av_set S a0 0 (.int (0 : Int32))) P_2) (k_6 : ∀ v_4 S_3, P_2 v_4 S_3 → aw ext (d + 1) 73 10 [some (.ref a0), some (.int x1), some (.int x2), o3] [.int v_4] S_3 Q) : aw ext (d + 1) 73 0 [some (.ref a0), some (.int x1), some (.int x2), o3] [] S Q := by
  refine aw_ald j73_0 rfl rfl ?_
  refine aw_con j73_1 ?_
  refine aw_put j73_2 t_1 rfl ?_
  refine aw_ald j73_5 rfl rfl ?_
  refine aw_ild j73_6 rfl ?_
  exact aw_calli (as := [.ref a0, .int x1]) j73_7 rfl rfl (Nat.le_of_ble_eq_true rfl) cy71.1 cy71.2 (cs_cons rfl (cs_cons rfl cs_nil)) (decide_eq_true t_1) m_5 k_6
theorem bk73_10 {r0 : Option Nat} {x1 : Int32} {x2 : Int32} {o3 : Option Value} {xk0 : Int32}  (k_1 : (xk0 = 0) → aw ext d 73 21 [some (va_rf r0), some (.int x1), some (.int x2), o3] [] S Q) (k_2 : (¬ (xk0 = 0)) → aw ext d 73 13 [some (va_rf r0), some (.int x1), some (.int x2), o3] [] S Q) : aw ext d 73 10 [some (va_rf r0), some (.int x1), some (.int x2), o3] [.int xk0] S Q := by
  exact aw_if j73_10 (fun h => k_1 (of_decide_eq_true h)) (fun h => k_2 (of_decide_eq_false h))
theorem bk73_13 {a0 : Nat} {x1 : Int32} {x2 : Int32} {o3 : Option Value} {P_1 : Int32 → av_St → Prop} (t_4 : S.1 a0 = some (.inl 10)) (m_5 : cti ext d 71 [.ref a0, .int x2] S P_1) (k_6 : ∀ v_3 S_2, P_1 v_3 S_2 → aw ext (d + 1) 73 18 [some (.ref a0), some (.int x1), some (.int x2), o3] [.int v_3] S_2 Q) : aw ext (d + 1) 73 13 [some (.ref a0), some (.int x1), some (.int x2), o3] [] S Q := by
  refine aw_ald j73_13 rfl rfl ?_
  refine aw_ild j73_14 rfl ?_
  exact aw_calli (as := [.ref a0, .int x2]) j73_15 rfl rfl (Nat.le_of_ble_eq_true rfl) cy71.1 cy71.2 (cs_cons rfl (cs_cons rfl cs_nil)) (decide_eq_true t_4) m_5 k_6
theorem bk73_18 {r0 : Option Nat} {x1 : Int32} {x2 : Int32} {o3 : Option Value} {xk0 : Int32}  (k_1 : (¬ xk0 = 0) → aw ext d 73 23 [some (va_rf r0), some (.int x1), some (.int x2), o3] [] S Q) (k_2 : (xk0 = 0) → aw ext d 73 21 [some (va_rf r0), some (.int x1), some (.int x2), o3] [] S Q) : aw ext d 73 18 [some (va_rf r0), some (.int x1), some (.int x2), o3] [.int xk0] S Q := by
  exact aw_if j73_18 (fun h => k_1 (of_decide_eq_true h)) (fun h => k_2 (Decidable.of_not_not (of_decide_eq_false h)))
theorem bk73_21 {r0 : Option Nat} {x1 : Int32} {x2 : Int32} {o3 : Option Value}  (k_1 : Q (some (.int (-1 : Int32))) S) : aw ext d 73 21 [some (va_rf r0), some (.int x1), some (.int x2), o3] [] S Q := by
  refine aw_con j73_21 ?_
  exact aw_ret j73_22 (by rw [rt73]; exact rfl) k_1
theorem bk73_23 {a0 : Nat} {x1 : Int32} {x2 : Int32} {o3 : Option Value} {b2 : Nat} {n_4 : Nat} {i_7 : Nat} {y10 : Int32} (t_1 : S.1 a0 = some (.inl 10)) (f_3 : S.2.1 a0 11 = .ref b2) (t_5 : S.1 b2 = some (.inr (0, n_4))) (b_6 : n_4 < 2147483648) (e_8 : x1 = nI i_7) (c_9 : i_7 < n_4) (f_11 : S.2.1 b2 i_7 = .int y10) (k_12 : (¬ y10 = 0) → aw ext d 73 68 [some (.ref a0), some (.int x1), some (.int x2), o3] [] S Q) (k_13 : (y10 = 0) → aw ext d 73 32 [some (.ref a0), some (.int x1), some (.int x2), o3] [] S Q) : aw ext d 73 23 [some (.ref a0), some (.int x1), some (.int x2), o3] [] S Q := by
  refine aw_ald j73_23 rfl rfl ?_
  refine aw_get j73_24 t_1 f_3 ?_
  refine aw_ild j73_27 rfl ?_
  refine aw_xld j73_28 t_5 e_8 c_9 b_6 f_11 ?_
  exact aw_if j73_29 (fun h => k_12 (of_decide_eq_true h)) (fun h => k_13 (Decidable.of_not_not (of_decide_eq_false h)))
theorem bk73_32 {a0 : Nat} {x1 : Int32} {x2 : Int32} {o3 : Option Value} {P_1 : Int32 → av_St → Prop} (t_4 : S.1 a0 = some (.inl 10)) (m_5 : cti ext d 74 [.ref a0, .int x1] S P_1) (k_6 : ∀ v_3 S_2, P_1 v_3 S_2 → aw ext (d + 1) 73 37 [some (.ref a0), some (.int x1), some (.int x2), o3] [.int v_3] S_2 Q) : aw ext (d + 1) 73 32 [some (.ref a0), some (.int x1), some (.int x2), o3] [] S Q := by
  refine aw_ald j73_32 rfl rfl ?_
  refine aw_ild j73_33 rfl ?_
  exact aw_calli (as := [.ref a0, .int x1]) j73_34 rfl rfl (Nat.le_of_ble_eq_true rfl) cy74.1 cy74.2 (cs_cons rfl (cs_cons rfl cs_nil)) (decide_eq_true t_4) m_5 k_6
theorem bk73_37 {r0 : Option Nat} {x1 : Int32} {x2 : Int32} {o3 : Option Value} {xk0 : Int32}  (k_1 : (¬ xk0 = 0) → aw ext d 73 68 [some (va_rf r0), some (.int x1), some (.int x2), o3] [] S Q) (k_2 : (xk0 = 0) → aw ext d 73 40 [some (va_rf r0), some (.int x1), some (.int x2), o3] [] S Q) : aw ext d 73 37 [some (va_rf r0), some (.int x1), some (.int x2), o3] [.int xk0] S Q := by
  exact aw_if j73_37 (fun h => k_1 (of_decide_eq_true h)) (fun h => k_2 (Decidable.of_not_not (of_decide_eq_false h)))
theorem bk73_40 {a0 : Nat} {x1 : Int32} {x2 : Int32} {o3 : Option Value} {b2 : Nat} {n_4 : Nat} {i_7 : Nat} {y10 : Int32} (t_1 : S.1 a0 = some (.inl 10)) (f_3 : S.2.1 a0 10 = .ref b2) (t_5 : S.1 b2 = some (.inr (0, n_4))) (b_6 : n_4 < 2147483648) (e_8 : x1 = nI i_7) (c_9 : i_7 < n_4) (f_11 : S.2.1 b2 i_7 = .int y10) (k_12 : (0 ≤ y10) → aw ext d 73 68 [some (.ref a0), some (.int x1), some (.int x2), o3] [] S Q) (k_13 : (¬ (0 ≤ y10)) → aw ext d 73 49 [some (.ref a0), some (.int x1), some (.int x2), o3] [] S Q) : aw ext d 73 40 [some (.ref a0), some (.int x1), some (.int x2), o3] [] S Q := by
  refine aw_ald j73_40 rfl rfl ?_
  refine aw_get j73_41 t_1 f_3 ?_
  refine aw_ild j73_44 rfl ?_
  refine aw_xld j73_45 t_5 e_8 c_9 b_6 f_11 ?_
  exact aw_if j73_46 (fun h => k_12 (of_decide_eq_true h)) (fun h => k_13 (of_decide_eq_false h))
theorem bk73_49 {a0 : Nat} {x1 : Int32} {x2 : Int32} {o3 : Option Value} {b2 : Nat} {n_4 : Nat} {i_7 : Nat} {y10 : Int32} {i_12 : Nat} {y15 : Int32} (t_1 : S.1 a0 = some (.inl 10)) (f_3 : S.2.1 a0 6 = .ref b2) (t_5 : S.1 b2 = some (.inr (0, n_4))) (b_6 : n_4 < 2147483648) (e_8 : x1 = nI i_7) (c_9 : i_7 < n_4) (f_11 : S.2.1 b2 i_7 = .int y10) (e_13 : x2 = nI i_12) (c_14 : i_12 < n_4) (f_16 : S.2.1 b2 i_12 = .int y15) (k_17 : (¬ y10 = y15) → aw ext d 73 68 [some (.ref a0), some (.int x1), some (.int x2), o3] [] S Q) (k_18 : (y10 = y15) → aw ext d 73 64 [some (.ref a0), some (.int x1), some (.int x2), o3] [] S Q) : aw ext d 73 49 [some (.ref a0), some (.int x1), some (.int x2), o3] [] S Q := by
  refine aw_ald j73_49 rfl rfl ?_
  refine aw_get j73_50 t_1 f_3 ?_
  refine aw_ild j73_53 rfl ?_
  refine aw_xld j73_54 t_5 e_8 c_9 b_6 f_11 ?_
  refine aw_ald j73_55 rfl rfl ?_
  refine aw_get j73_56 t_1 f_3 ?_
  refine aw_ild j73_59 rfl ?_
  refine aw_xld j73_60 t_5 e_13 c_14 b_6 f_16 ?_
  exact aw_ic j73_61 (fun h => k_17 (of_decide_eq_true h)) (fun h => k_18 (Decidable.of_not_not (of_decide_eq_false h)))
theorem bk73_64 {r0 : Option Nat} {x1 : Int32} {x2 : Int32} {o3 : Option Value}  (k_1 : aw ext d 73 69 [some (va_rf r0), some (.int x1), some (.int x2), o3] [.int (1 : Int32)] S Q) : aw ext d 73 64 [some (va_rf r0), some (.int x1), some (.int x2), o3] [] S Q := by
  refine aw_con j73_64 ?_
  exact aw_goto j73_65 k_1
theorem bk73_68 {r0 : Option Nat} {x1 : Int32} {x2 : Int32} {o3 : Option Value}  (k_1 : aw ext d 73 69 [some (va_rf r0), some (.int x1), some (.int x2), o3] [.int (0 : Int32)] S Q) : aw ext d 73 68 [some (va_rf r0), some (.int x1), some (.int x2), o3] [] S Q := by
  refine aw_con j73_68 ?_
  exact k_1
theorem bk73_69 {r0 : Option Nat} {x1 : Int32} {x2 : Int32} {o3 : Option Value} {xk0 : Int32}  (k_1 : (xk0 = 0) → aw ext d 73 83 [some (va_rf r0), some (.int x1), some (.int x2), some (.int xk0)] [] S Q) (k_2 : (¬ (xk0 = 0)) → aw ext d 73 74 [some (va_rf r0), some (.int x1), some (.int x2), some (.int xk0)] [] S Q) : aw ext d 73 69 [some (va_rf r0), some (.int x1), some (.int x2), o3] [.int xk0] S Q := by
  refine aw_ist j73_69 (Nat.le_of_ble_eq_true rfl) ?_
  refine aw_ild j73_70 rfl ?_
  exact aw_if j73_71 (fun h => k_1 (of_decide_eq_true h)) (fun h => k_2 (of_decide_eq_false h))
theorem bk73_74 {a0 : Nat} {x1 : Int32} {x2 : Int32} {x3 : Int32} {P_1 : Int32 → av_St → Prop} (t_4 : S.1 a0 = some (.inl 10)) (m_5 : cti ext d 75 [.ref a0, .int x1, .int x2] S P_1) (k_6 : ∀ v_3 S_2, P_1 v_3 S_2 → aw ext (d + 1) 73 80 [some (.ref a0), some (.int x1), some (.int x2), some (.int x3)] [.int v_3] S_2 Q) : aw ext (d + 1) 73 74 [some (.ref a0), some (.int x1), some (.int x2), some (.int x3)] [] S Q := by
  refine aw_ald j73_74 rfl rfl ?_
  refine aw_ild j73_75 rfl ?_
  refine aw_ild j73_76 rfl ?_
  exact aw_calli (as := [.ref a0, .int x1, .int x2]) j73_77 rfl rfl (Nat.le_of_ble_eq_true rfl) cy75.1 cy75.2 (cs_cons rfl (cs_cons rfl (cs_cons rfl cs_nil))) (decide_eq_true t_4) m_5 k_6
theorem bk73_80 {r0 : Option Nat} {x1 : Int32} {x2 : Int32} {x3 : Int32} {xk0 : Int32}  (k_1 : (xk0 = 0) → aw ext d 73 86 [some (va_rf r0), some (.int x1), some (.int x2), some (.int x3)] [] S Q) (k_2 : (¬ (xk0 = 0)) → aw ext d 73 83 [some (va_rf r0), some (.int x1), some (.int x2), some (.int x3)] [] S Q) : aw ext d 73 80 [some (va_rf r0), some (.int x1), some (.int x2), some (.int x3)] [.int xk0] S Q := by
  exact aw_if j73_80 (fun h => k_1 (of_decide_eq_true h)) (fun h => k_2 (of_decide_eq_false h))
theorem bk73_83 {r0 : Option Nat} {x1 : Int32} {x2 : Int32} {x3 : Int32}  (k_1 : Q (some (.int (-3 : Int32))) S) : aw ext d 73 83 [some (va_rf r0), some (.int x1), some (.int x2), some (.int x3)] [] S Q := by
  refine aw_con j73_83 ?_
  exact aw_ret j73_85 (by rw [rt73]; exact rfl) k_1
theorem bk73_86 {a0 : Nat} {x1 : Int32} {x2 : Int32} {x3 : Int32} {b2 : Nat} {n_4 : Nat} {i_7 : Nat} (t_1 : S.1 a0 = some (.inl 10)) (f_3 : S.2.1 a0 10 = .ref b2) (t_5 : S.1 b2 = some (.inr (0, n_4))) (b_6 : n_4 < 2147483648) (e_8 : x1 = nI i_7) (c_9 : i_7 < n_4) (k_10 : Q (some (.int (1 : Int32))) (av_set S b2 i_7 (.int x2))) : aw ext d 73 86 [some (.ref a0), some (.int x1), some (.int x2), some (.int x3)] [] S Q := by
  refine aw_ald j73_86 rfl rfl ?_
  refine aw_get j73_87 t_1 f_3 ?_
  refine aw_ild j73_90 rfl ?_
  refine aw_ild j73_91 rfl ?_
  refine aw_xst j73_92 t_5 e_8 c_9 b_6 ?_
  refine aw_con j73_93 ?_
  exact aw_ret j73_94 (by rw [rt73]; exact rfl) k_10
/-! Ref_children -/
theorem bk74_0 {r0 : Option Nat} {x1 : Int32} {o2 : Option Value} {o3 : Option Value}  (k_1 : aw ext d 74 4 [some (va_rf r0), some (.int x1), some (.int (0 : Int32)), some (.int (0 : Int32))] [] S Q) : aw ext d 74 0 [some (va_rf r0), some (.int x1), o2, o3] [] S Q := by
  refine aw_con j74_0 ?_
  refine aw_ist j74_1 (Nat.le_of_ble_eq_true rfl) ?_
  refine aw_con j74_2 ?_
  refine aw_ist j74_3 (Nat.le_of_ble_eq_true rfl) ?_
  exact k_1
theorem bk74_4 {a0 : Nat} {x1 : Int32} {x2 : Int32} {x3 : Int32} {y2 : Int32} (t_1 : S.1 a0 = some (.inl 10)) (f_3 : S.2.1 a0 5 = .int y2) (k_4 : (y2 ≤ x3) → aw ext d 74 36 [some (.ref a0), some (.int x1), some (.int x2), some (.int x3)] [] S Q) (k_5 : (¬ (y2 ≤ x3)) → aw ext d 74 12 [some (.ref a0), some (.int x1), some (.int x2), some (.int x3)] [] S Q) : aw ext d 74 4 [some (.ref a0), some (.int x1), some (.int x2), some (.int x3)] [] S Q := by
  refine aw_ild j74_4 rfl ?_
  refine aw_ald j74_5 rfl rfl ?_
  refine aw_get j74_6 t_1 f_3 ?_
  exact aw_ic j74_9 (fun h => k_4 (of_decide_eq_true h)) (fun h => k_5 (of_decide_eq_false h))
theorem bk74_12 {a0 : Nat} {x1 : Int32} {x2 : Int32} {x3 : Int32} {b2 : Nat} {n_4 : Nat} {i_7 : Nat} {y10 : Int32} (t_1 : S.1 a0 = some (.inl 10)) (f_3 : S.2.1 a0 7 = .ref b2) (t_5 : S.1 b2 = some (.inr (0, n_4))) (b_6 : n_4 < 2147483648) (e_8 : x3 = nI i_7) (c_9 : i_7 < n_4) (f_11 : S.2.1 b2 i_7 = .int y10) (k_12 : (¬ y10 = x1) → aw ext d 74 27 [some (.ref a0), some (.int x1), some (.int x2), some (.int x3)] [.int x2] S Q) (k_13 : (y10 = x1) → aw ext d 74 23 [some (.ref a0), some (.int x1), some (.int x2), some (.int x3)] [.int x2] S Q) : aw ext d 74 12 [some (.ref a0), some (.int x1), some (.int x2), some (.int x3)] [] S Q := by
  refine aw_ild j74_12 rfl ?_
  refine aw_ald j74_13 rfl rfl ?_
  refine aw_get j74_14 t_1 f_3 ?_
  refine aw_ild j74_17 rfl ?_
  refine aw_xld j74_18 t_5 e_8 c_9 b_6 f_11 ?_
  refine aw_ild j74_19 rfl ?_
  exact aw_ic j74_20 (fun h => k_12 (of_decide_eq_true h)) (fun h => k_13 (Decidable.of_not_not (of_decide_eq_false h)))
theorem bk74_23 {r0 : Option Nat} {x1 : Int32} {x2 : Int32} {x3 : Int32} {xk0 : Int32}  (k_1 : aw ext d 74 28 [some (va_rf r0), some (.int x1), some (.int x2), some (.int x3)] [.int (1 : Int32), .int xk0] S Q) : aw ext d 74 23 [some (va_rf r0), some (.int x1), some (.int x2), some (.int x3)] [.int xk0] S Q := by
  refine aw_con j74_23 ?_
  exact aw_goto j74_24 k_1
theorem bk74_27 {r0 : Option Nat} {x1 : Int32} {x2 : Int32} {x3 : Int32} {xk0 : Int32}  (k_1 : aw ext d 74 28 [some (va_rf r0), some (.int x1), some (.int x2), some (.int x3)] [.int (0 : Int32), .int xk0] S Q) : aw ext d 74 27 [some (va_rf r0), some (.int x1), some (.int x2), some (.int x3)] [.int xk0] S Q := by
  refine aw_con j74_27 ?_
  exact k_1
theorem bk74_28 {r0 : Option Nat} {x1 : Int32} {x2 : Int32} {x3 : Int32} {xk0 : Int32} {xk1 : Int32}  (k_1 : aw ext d 74 4 [some (va_rf r0), some (.int x1), some (.int (xk0 + xk1)), some (.int (x3 + 1))] [] S Q) : aw ext d 74 28 [some (va_rf r0), some (.int x1), some (.int x2), some (.int x3)] [.int xk1, .int xk0] S Q := by
  refine aw_bin (z := (xk0 + xk1)) j74_28 rfl ?_
  refine aw_ist j74_29 (Nat.le_of_ble_eq_true rfl) ?_
  refine aw_inc j74_30 rfl ?_
  exact aw_goto j74_33 k_1
theorem bk74_36 {r0 : Option Nat} {x1 : Int32} {x2 : Int32} {x3 : Int32}  (k_1 : Q (some (.int x2)) S) : aw ext d 74 36 [some (va_rf r0), some (.int x1), some (.int x2), some (.int x3)] [] S Q := by
  refine aw_ild j74_36 rfl ?_
  exact aw_ret j74_37 (by rw [rt74]; exact rfl) k_1
/-! Ref_comesBack -/
theorem bk75_0 {a0 : Nat} {x1 : Int32} {x2 : Int32} {o3 : Option Value} {o4 : Option Value} {P_1 : av_St → Prop} (t_4 : S.1 a0 = some (.inl 10)) (m_5 : ctv ext d 76 [.ref a0, .int x2] S P_1) (k_6 : ∀ S_2, P_1 S_2 → aw ext (d + 1) 75 5 [some (.ref a0), some (.int x1), some (.int x2), o3, o4] [] S_2 Q) : aw ext (d + 1) 75 0 [some (.ref a0), some (.int x1), some (.int x2), o3, o4] [] S Q := by
  refine aw_ald j75_0 rfl rfl ?_
  refine aw_ild j75_1 rfl ?_
  exact aw_callv (as := [.ref a0, .int x2]) j75_2 rfl rfl (Nat.le_of_ble_eq_true rfl) cy76.1 cy76.2 (cs_cons rfl (cs_cons rfl cs_nil)) (decide_eq_true t_4) m_5 k_6
theorem bk75_5 {r0 : Option Nat} {x1 : Int32} {x2 : Int32} {o3 : Option Value} {o4 : Option Value}  (k_1 : aw ext d 75 10 [some (va_rf r0), some (.int x1), some (.int x2), some (.int (0 : Int32)), some (.int x1)] [] S Q) : aw ext d 75 5 [some (va_rf r0), some (.int x1), some (.int x2), o3, o4] [] S Q := by
  refine aw_con j75_5 ?_
  refine aw_ist j75_6 (Nat.le_of_ble_eq_true rfl) ?_
  refine aw_ild j75_7 rfl ?_
  refine aw_ist j75_8 (Nat.le_of_ble_eq_true rfl) ?_
  exact k_1
theorem bk75_10 {r0 : Option Nat} {x1 : Int32} {x2 : Int32} {x3 : Int32} {x4 : Int32}  (k_1 : (x4 < 0) → aw ext d 75 47 [some (va_rf r0), some (.int x1), some (.int x2), some (.int x3), some (.int x4)] [] S Q) (k_2 : (¬ (x4 < 0)) → aw ext d 75 15 [some (va_rf r0), some (.int x1), some (.int x2), some (.int x3), some (.int x4)] [] S Q) : aw ext d 75 10 [some (va_rf r0), some (.int x1), some (.int x2), some (.int x3), some (.int x4)] [] S Q := by
  refine aw_ild j75_10 rfl ?_
  exact aw_if j75_12 (fun h => k_1 (of_decide_eq_true h)) (fun h => k_2 (of_decide_eq_false h))
theorem bk75_15 {r0 : Option Nat} {x1 : Int32} {x2 : Int32} {x3 : Int32} {x4 : Int32}  (k_1 : (¬ x3 = 0) → aw ext d 75 29 [some (va_rf r0), some (.int x1), some (.int x2), some (.int x3), some (.int x4)] [] S Q) (k_2 : (x3 = 0) → aw ext d 75 19 [some (va_rf r0), some (.int x1), some (.int x2), some (.int x3), some (.int x4)] [] S Q) : aw ext d 75 15 [some (va_rf r0), some (.int x1), some (.int x2), some (.int x3), some (.int x4)] [] S Q := by
  refine aw_ild j75_15 rfl ?_
  exact aw_if j75_16 (fun h => k_1 (of_decide_eq_true h)) (fun h => k_2 (Decidable.of_not_not (of_decide_eq_false h)))
theorem bk75_19 {a0 : Nat} {x1 : Int32} {x2 : Int32} {x3 : Int32} {x4 : Int32} {b2 : Nat} {n_4 : Nat} {i_7 : Nat} {y10 : Int32} (t_1 : S.1 a0 = some (.inl 10)) (f_3 : S.2.1 a0 18 = .ref b2) (t_5 : S.1 b2 = some (.inr (2, n_4))) (b_6 : n_4 < 2147483648) (e_8 : x4 = nI i_7) (c_9 : i_7 < n_4) (f_11 : S.2.1 b2 i_7 = .int y10) (k_12 : (y10 = 0) → aw ext d 75 33 [some (.ref a0), some (.int x1), some (.int x2), some (.int x3), some (.int x4)] [] S Q) (k_13 : (¬ (y10 = 0)) → aw ext d 75 29 [some (.ref a0), some (.int x1), some (.int x2), some (.int x3), some (.int x4)] [] S Q) : aw ext d 75 19 [some (.ref a0), some (.int x1), some (.int x2), some (.int x3), some (.int x4)] [] S Q := by
  refine aw_ald j75_19 rfl rfl ?_
  refine aw_get j75_20 t_1 f_3 ?_
  refine aw_ild j75_23 rfl ?_
  refine aw_xld j75_25 t_5 e_8 c_9 b_6 f_11 ?_
  exact aw_if j75_26 (fun h => k_12 (of_decide_eq_true h)) (fun h => k_13 (of_decide_eq_false h))
theorem bk75_29 {r0 : Option Nat} {x1 : Int32} {x2 : Int32} {x3 : Int32} {x4 : Int32}  (k_1 : aw ext d 75 34 [some (va_rf r0), some (.int x1), some (.int x2), some (.int x3), some (.int x4)] [.int (1 : Int32)] S Q) : aw ext d 75 29 [some (va_rf r0), some (.int x1), some (.int x2), some (.int x3), some (.int x4)] [] S Q := by
  refine aw_con j75_29 ?_
  exact aw_goto j75_30 k_1
theorem bk75_33 {r0 : Option Nat} {x1 : Int32} {x2 : Int32} {x3 : Int32} {x4 : Int32}  (k_1 : aw ext d 75 34 [some (va_rf r0), some (.int x1), some (.int x2), some (.int x3), some (.int x4)] [.int (0 : Int32)] S Q) : aw ext d 75 33 [some (va_rf r0), some (.int x1), some (.int x2), some (.int x3), some (.int x4)] [] S Q := by
  refine aw_con j75_33 ?_
  exact k_1
theorem bk75_34 {a0 : Nat} {x1 : Int32} {x2 : Int32} {x3 : Int32} {x4 : Int32} {xk0 : Int32} {b2 : Nat} {n_4 : Nat} {i_7 : Nat} {y10 : Int32} (t_1 : S.1 a0 = some (.inl 10)) (f_3 : S.2.1 a0 7 = .ref b2) (t_5 : S.1 b2 = some (.inr (0, n_4))) (b_6 : n_4 < 2147483648) (e_8 : x4 = nI i_7) (c_9 : i_7 < n_4) (f_11 : S.2.1 b2 i_7 = .int y10) (k_12 : aw ext d 75 10 [some (.ref a0), some (.int x1), some (.int x2), some (.int xk0), some (.int y10)] [] S Q) : aw ext d 75 34 [some (.ref a0), some (.int x1), some (.int x2), some (.int x3), some (.int x4)] [.int xk0] S Q := by
  refine aw_ist j75_34 (Nat.le_of_ble_eq_true rfl) ?_
  refine aw_ald j75_35 rfl rfl ?_
  refine aw_get j75_36 t_1 f_3 ?_
  refine aw_ild j75_39 rfl ?_
  refine aw_xld j75_41 t_5 e_8 c_9 b_6 f_11 ?_
  refine aw_ist j75_42 (Nat.le_of_ble_eq_true rfl) ?_
  exact aw_goto j75_44 k_12
theorem bk75_47 {r0 : Option Nat} {x1 : Int32} {x2 : Int32} {x3 : Int32} {x4 : Int32} (o_2 : x3 = 0 ∨ x3 = 1) (k_1 : Q (some (.int x3)) S) : aw ext d 75 47 [some (va_rf r0), some (.int x1), some (.int x2), some (.int x3), some (.int x4)] [] S Q := by
  refine aw_ild j75_47 rfl ?_
  exact aw_ret j75_48 (by rw [rt75]; exact (decide_eq_true o_2)) k_1
/-! Ref_reach -/
theorem bk76_0 {r0 : Option Nat} {x1 : Int32} {o2 : Option Value} {o3 : Option Value} {o4 : Option Value} {o5 : Option Value}  (k_1 : aw ext d 76 2 [some (va_rf r0), some (.int x1), some (.int (0 : Int32)), o3, o4, o5] [] S Q) : aw ext d 76 0 [some (va_rf r0), some (.int x1), o2, o3, o4, o5] [] S Q := by
  refine aw_con j76_0 ?_
  refine aw_ist j76_1 (Nat.le_of_ble_eq_true rfl) ?_
  exact k_1
theorem bk76_2 {a0 : Nat} {x1 : Int32} {x2 : Int32} {o3 : Option Value} {o4 : Option Value} {o5 : Option Value} {y2 : Int32} (t_1 : S.1 a0 = some (.inl 10)) (f_3 : S.2.1 a0 5 = .int y2) (k_4 : (y2 ≤ x2) → aw ext d 76 32 [some (.ref a0), some (.int x1), some (.int x2), o3, o4, o5] [] S Q) (k_5 : (¬ (y2 ≤ x2)) → aw ext d 76 10 [some (.ref a0), some (.int x1), some (.int x2), o3, o4, o5] [] S Q) : aw ext d 76 2 [some (.ref a0), some (.int x1), some (.int x2), o3, o4, o5] [] S Q := by
  refine aw_ild j76_2 rfl ?_
  refine aw_ald j76_3 rfl rfl ?_
  refine aw_get j76_4 t_1 f_3 ?_
  exact aw_ic j76_7 (fun h => k_4 (of_decide_eq_true h)) (fun h => k_5 (of_decide_eq_false h))
theorem bk76_10 {a0 : Nat} {x1 : Int32} {x2 : Int32} {o3 : Option Value} {o4 : Option Value} {o5 : Option Value} {q2 : Option Nat} (t_1 : S.1 a0 = some (.inl 10)) (f_3 : S.2.1 a0 18 = va_rf q2) (k_4 : (¬ x2 = x1) → aw ext d 76 24 [some (.ref a0), some (.int x1), some (.int x2), o3, o4, o5] [.int x2, va_rf q2] S Q) (k_5 : (x2 = x1) → aw ext d 76 20 [some (.ref a0), some (.int x1), some (.int x2), o3, o4, o5] [.int x2, va_rf q2] S Q) : aw ext d 76 10 [some (.ref a0), some (.int x1), some (.int x2), o3, o4, o5] [] S Q := by
  refine aw_ald j76_10 rfl rfl ?_
  refine aw_get j76_11 t_1 f_3 ?_
  refine aw_ild j76_14 rfl ?_
  refine aw_ild j76_15 rfl ?_
  refine aw_ild j76_16 rfl ?_
  exact aw_ic j76_17 (fun h => k_4 (of_decide_eq_true h)) (fun h => k_5 (Decidable.of_not_not (of_decide_eq_false h)))
theorem bk76_20 {r0 : Option Nat} {x1 : Int32} {x2 : Int32} {o3 : Option Value} {o4 : Option Value} {o5 : Option Value} {rk0 : Option Nat} {xk1 : Int32}  (k_1 : aw ext d 76 25 [some (va_rf r0), some (.int x1), some (.int x2), o3, o4, o5] [.int (1 : Int32), .int xk1, va_rf rk0] S Q) : aw ext d 76 20 [some (va_rf r0), some (.int x1), some (.int x2), o3, o4, o5] [.int xk1, va_rf rk0] S Q := by
  refine aw_con j76_20 ?_
  exact aw_goto j76_21 k_1
theorem bk76_24 {r0 : Option Nat} {x1 : Int32} {x2 : Int32} {o3 : Option Value} {o4 : Option Value} {o5 : Option Value} {rk0 : Option Nat} {xk1 : Int32}  (k_1 : aw ext d 76 25 [some (va_rf r0), some (.int x1), some (.int x2), o3, o4, o5] [.int (0 : Int32), .int xk1, va_rf rk0] S Q) : aw ext d 76 24 [some (va_rf r0), some (.int x1), some (.int x2), o3, o4, o5] [.int xk1, va_rf rk0] S Q := by
  refine aw_con j76_24 ?_
  exact k_1
theorem bk76_25 {r0 : Option Nat} {x1 : Int32} {x2 : Int32} {o3 : Option Value} {o4 : Option Value} {o5 : Option Value} {ak0 : Nat} {xk1 : Int32} {xk2 : Int32} {n_1 : Nat} {i_4 : Nat} (t_2 : S.1 ak0 = some (.inr (2, n_1))) (b_3 : n_1 < 2147483648) (e_5 : xk1 = nI i_4) (c_6 : i_4 < n_1) (k_7 : aw ext d 76 2 [some (va_rf r0), some (.int x1), some (.int (x2 + 1)), o3, o4, o5] [] (av_set S ak0 i_4 (narrow .boolean (.int xk2))) Q) : aw ext d 76 25 [some (va_rf r0), some (.int x1), some (.int x2), o3, o4, o5] [.int xk2, .int xk1, .ref ak0] S Q := by
  refine aw_xst j76_25 t_2 e_5 c_6 b_3 ?_
  refine aw_inc j76_26 rfl ?_
  exact aw_goto j76_29 k_7
theorem bk76_32 {r0 : Option Nat} {x1 : Int32} {x2 : Int32} {o3 : Option Value} {o4 : Option Value} {o5 : Option Value}  (k_1 : aw ext d 76 34 [some (va_rf r0), some (.int x1), some (.int (1 : Int32)), o3, o4, o5] [] S Q) : aw ext d 76 32 [some (va_rf r0), some (.int x1), some (.int x2), o3, o4, o5] [] S Q := by
  refine aw_con j76_32 ?_
  refine aw_ist j76_33 (Nat.le_of_ble_eq_true rfl) ?_
  exact k_1
theorem bk76_34 {r0 : Option Nat} {x1 : Int32} {x2 : Int32} {o3 : Option Value} {o4 : Option Value} {o5 : Option Value}  (k_1 : (x2 = 0) → aw ext d 76 189 [some (va_rf r0), some (.int x1), some (.int x2), o3, o4, o5] [] S Q) (k_2 : (¬ (x2 = 0)) → aw ext d 76 38 [some (va_rf r0), some (.int x1), some (.int x2), o3, o4, o5] [] S Q) : aw ext d 76 34 [some (va_rf r0), some (.int x1), some (.int x2), o3, o4, o5] [] S Q := by
  refine aw_ild j76_34 rfl ?_
  exact aw_if j76_35 (fun h => k_1 (of_decide_eq_true h)) (fun h => k_2 (of_decide_eq_false h))
theorem bk76_38 {r0 : Option Nat} {x1 : Int32} {x2 : Int32} {o3 : Option Value} {o4 : Option Value} {o5 : Option Value}  (k_1 : aw ext d 76 42 [some (va_rf r0), some (.int x1), some (.int (0 : Int32)), some (.int (0 : Int32)), o4, o5] [] S Q) : aw ext d 76 38 [some (va_rf r0), some (.int x1), some (.int x2), o3, o4, o5] [] S Q := by
  refine aw_con j76_38 ?_
  refine aw_ist j76_39 (Nat.le_of_ble_eq_true rfl) ?_
  refine aw_con j76_40 ?_
  refine aw_ist j76_41 (Nat.le_of_ble_eq_true rfl) ?_
  exact k_1
theorem bk76_42 {a0 : Nat} {x1 : Int32} {x2 : Int32} {x3 : Int32} {o4 : Option Value} {o5 : Option Value} {y2 : Int32} (t_1 : S.1 a0 = some (.inl 10)) (f_3 : S.2.1 a0 5 = .int y2) (k_4 : (y2 ≤ x3) → aw ext d 76 186 [some (.ref a0), some (.int x1), some (.int x2), some (.int x3), o4, o5] [] S Q) (k_5 : (¬ (y2 ≤ x3)) → aw ext d 76 50 [some (.ref a0), some (.int x1), some (.int x2), some (.int x3), o4, o5] [] S Q) : aw ext d 76 42 [some (.ref a0), some (.int x1), some (.int x2), some (.int x3), o4, o5] [] S Q := by
  refine aw_ild j76_42 rfl ?_
  refine aw_ald j76_43 rfl rfl ?_
  refine aw_get j76_44 t_1 f_3 ?_
  exact aw_ic j76_47 (fun h => k_4 (of_decide_eq_true h)) (fun h => k_5 (of_decide_eq_false h))
theorem bk76_50 {a0 : Nat} {x1 : Int32} {x2 : Int32} {x3 : Int32} {o4 : Option Value} {o5 : Option Value} {b2 : Nat} {n_4 : Nat} {i_7 : Nat} {y10 : Int32} (t_1 : S.1 a0 = some (.inl 10)) (f_3 : S.2.1 a0 7 = .ref b2) (t_5 : S.1 b2 = some (.inr (0, n_4))) (b_6 : n_4 < 2147483648) (e_8 : x3 = nI i_7) (c_9 : i_7 < n_4) (f_11 : S.2.1 b2 i_7 = .int y10) (k_12 : (y10 < 0) → aw ext d 76 77 [some (.ref a0), some (.int x1), some (.int x2), some (.int x3), o4, o5] [] S Q) (k_13 : (¬ (y10 < 0)) → aw ext d 76 59 [some (.ref a0), some (.int x1), some (.int x2), some (.int x3), o4, o5] [] S Q) : aw ext d 76 50 [some (.ref a0), some (.int x1), some (.int x2), some (.int x3), o4, o5] [] S Q := by
  refine aw_ald j76_50 rfl rfl ?_
  refine aw_get j76_51 t_1 f_3 ?_
  refine aw_ild j76_54 rfl ?_
  refine aw_xld j76_55 t_5 e_8 c_9 b_6 f_11 ?_
  exact aw_if j76_56 (fun h => k_12 (of_decide_eq_true h)) (fun h => k_13 (of_decide_eq_false h))
theorem bk76_59 {a0 : Nat} {x1 : Int32} {x2 : Int32} {x3 : Int32} {o4 : Option Value} {o5 : Option Value} {b2 : Nat} {b4 : Nat} {n_6 : Nat} {i_9 : Nat} {y12 : Int32} {n_14 : Nat} {i_17 : Nat} {y20 : Int32} (t_1 : S.1 a0 = some (.inl 10)) (f_3 : S.2.1 a0 18 = .ref b2) (f_5 : S.2.1 a0 7 = .ref b4) (t_7 : S.1 b4 = some (.inr (0, n_6))) (b_8 : n_6 < 2147483648) (e_10 : x3 = nI i_9) (c_11 : i_9 < n_6) (f_13 : S.2.1 b4 i_9 = .int y12) (t_15 : S.1 b2 = some (.inr (2, n_14))) (b_16 : n_14 < 2147483648) (e_18 : y12 = nI i_17) (c_19 : i_17 < n_14) (f_21 : S.2.1 b2 i_17 = .int y20) (k_22 : (y20 = 0) → aw ext d 76 77 [some (.ref a0), some (.int x1), some (.int x2), some (.int x3), o4, o5] [] S Q) (k_23 : (¬ (y20 = 0)) → aw ext d 76 73 [some (.ref a0), some (.int x1), some (.int x2), some (.int x3), o4, o5] [] S Q) : aw ext d 76 59 [some (.ref a0), some (.int x1), some (.int x2), some (.int x3), o4, o5] [] S Q := by
  refine aw_ald j76_59 rfl rfl ?_
  refine aw_get j76_60 t_1 f_3 ?_
  refine aw_ald j76_63 rfl rfl ?_
  refine aw_get j76_64 t_1 f_5 ?_
  refine aw_ild j76_67 rfl ?_
  refine aw_xld j76_68 t_7 e_10 c_11 b_8 f_13 ?_
  refine aw_xld j76_69 t_15 e_18 c_19 b_16 f_21 ?_
  exact aw_if j76_70 (fun h => k_22 (of_decide_eq_true h)) (fun h => k_23 (of_decide_eq_false h))
theorem bk76_73 {r0 : Option Nat} {x1 : Int32} {x2 : Int32} {x3 : Int32} {o4 : Option Value} {o5 : Option Value}  (k_1 : aw ext d 76 78 [some (va_rf r0), some (.int x1), some (.int x2), some (.int x3), o4, o5] [.int (1 : Int32)] S Q) : aw ext d 76 73 [some (va_rf r0), some (.int x1), some (.int x2), some (.int x3), o4, o5] [] S Q := by
  refine aw_con j76_73 ?_
  exact aw_goto j76_74 k_1
theorem bk76_77 {r0 : Option Nat} {x1 : Int32} {x2 : Int32} {x3 : Int32} {o4 : Option Value} {o5 : Option Value}  (k_1 : aw ext d 76 78 [some (va_rf r0), some (.int x1), some (.int x2), some (.int x3), o4, o5] [.int (0 : Int32)] S Q) : aw ext d 76 77 [some (va_rf r0), some (.int x1), some (.int x2), some (.int x3), o4, o5] [] S Q := by
  refine aw_con j76_77 ?_
  exact k_1
theorem bk76_78 {r0 : Option Nat} {x1 : Int32} {x2 : Int32} {x3 : Int32} {o4 : Option Value} {o5 : Option Value} {xk0 : Int32}  (k_1 : aw ext d 76 83 [some (va_rf r0), some (.int x1), some (.int x2), some (.int x3), some (.int xk0), some (.int (0 : Int32))] [] S Q) : aw ext d 76 78 [some (va_rf r0), some (.int x1), some (.int x2), some (.int x3), o4, o5] [.int xk0] S Q := by
  refine aw_ist j76_78 (Nat.le_of_ble_eq_true rfl) ?_
  refine aw_con j76_80 ?_
  refine aw_ist j76_81 (Nat.le_of_ble_eq_true rfl) ?_
  exact k_1
theorem bk76_83 {a0 : Nat} {x1 : Int32} {x2 : Int32} {x3 : Int32} {x4 : Int32} {x5 : Int32} {y2 : Int32} (t_1 : S.1 a0 = some (.inl 10)) (f_3 : S.2.1 a0 5 = .int y2) (k_4 : (y2 ≤ x5) → aw ext d 76 131 [some (.ref a0), some (.int x1), some (.int x2), some (.int x3), some (.int x4), some (.int x5)] [] S Q) (k_5 : (¬ (y2 ≤ x5)) → aw ext d 76 92 [some (.ref a0), some (.int x1), some (.int x2), some (.int x3), some (.int x4), some (.int x5)] [] S Q) : aw ext d 76 83 [some (.ref a0), some (.int x1), some (.int x2), some (.int x3), some (.int x4), some (.int x5)] [] S Q := by
  refine aw_ild j76_83 rfl ?_
  refine aw_ald j76_85 rfl rfl ?_
  refine aw_get j76_86 t_1 f_3 ?_
  exact aw_ic j76_89 (fun h => k_4 (of_decide_eq_true h)) (fun h => k_5 (of_decide_eq_false h))
theorem bk76_92 {r0 : Option Nat} {x1 : Int32} {x2 : Int32} {x3 : Int32} {x4 : Int32} {x5 : Int32}  (k_1 : (¬ x4 = 0) → aw ext d 76 131 [some (va_rf r0), some (.int x1), some (.int x2), some (.int x3), some (.int x4), some (.int x5)] [] S Q) (k_2 : (x4 = 0) → aw ext d 76 97 [some (va_rf r0), some (.int x1), some (.int x2), some (.int x3), some (.int x4), some (.int x5)] [] S Q) : aw ext d 76 92 [some (va_rf r0), some (.int x1), some (.int x2), some (.int x3), some (.int x4), some (.int x5)] [] S Q := by
  refine aw_ild j76_92 rfl ?_
  exact aw_if j76_94 (fun h => k_1 (of_decide_eq_true h)) (fun h => k_2 (Decidable.of_not_not (of_decide_eq_false h)))
theorem bk76_97 {a0 : Nat} {x1 : Int32} {x2 : Int32} {x3 : Int32} {x4 : Int32} {x5 : Int32} {b2 : Nat} {n_4 : Nat} {i_7 : Nat} {y10 : Int32} (t_1 : S.1 a0 = some (.inl 10)) (f_3 : S.2.1 a0 18 = .ref b2) (t_5 : S.1 b2 = some (.inr (2, n_4))) (b_6 : n_4 < 2147483648) (e_8 : x5 = nI i_7) (c_9 : i_7 < n_4) (f_11 : S.2.1 b2 i_7 = .int y10) (k_12 : (y10 = 0) → aw ext d 76 122 [some (.ref a0), some (.int x1), some (.int x2), some (.int x3), some (.int x4), some (.int x5)] [] S Q) (k_13 : (¬ (y10 = 0)) → aw ext d 76 107 [some (.ref a0), some (.int x1), some (.int x2), some (.int x3), some (.int x4), some (.int x5)] [] S Q) : aw ext d 76 97 [some (.ref a0), some (.int x1), some (.int x2), some (.int x3), some (.int x4), some (.int x5)] [] S Q := by
  refine aw_ald j76_97 rfl rfl ?_
  refine aw_get j76_98 t_1 f_3 ?_
  refine aw_ild j76_101 rfl ?_
  refine aw_xld j76_103 t_5 e_8 c_9 b_6 f_11 ?_
  exact aw_if j76_104 (fun h => k_12 (of_decide_eq_true h)) (fun h => k_13 (of_decide_eq_false h))
theorem bk76_107 {a0 : Nat} {x1 : Int32} {x2 : Int32} {x3 : Int32} {x4 : Int32} {x5 : Int32} {b2 : Nat} {n_4 : Nat} {i_7 : Nat} {y10 : Int32} (t_1 : S.1 a0 = some (.inl 10)) (f_3 : S.2.1 a0 10 = .ref b2) (t_5 : S.1 b2 = some (.inr (0, n_4))) (b_6 : n_4 < 2147483648) (e_8 : x5 = nI i_7) (c_9 : i_7 < n_4) (f_11 : S.2.1 b2 i_7 = .int y10) (k_12 : (¬ y10 = x3) → aw ext d 76 122 [some (.ref a0), some (.int x1), some (.int x2), some (.int x3), some (.int x4), some (.int x5)] [] S Q) (k_13 : (y10 = x3) → aw ext d 76 118 [some (.ref a0), some (.int x1), some (.int x2), some (.int x3), some (.int x4), some (.int x5)] [] S Q) : aw ext d 76 107 [some (.ref a0), some (.int x1), some (.int x2), some (.int x3), some (.int x4), some (.int x5)] [] S Q := by
  refine aw_ald j76_107 rfl rfl ?_
  refine aw_get j76_108 t_1 f_3 ?_
  refine aw_ild j76_111 rfl ?_
  refine aw_xld j76_113 t_5 e_8 c_9 b_6 f_11 ?_
  refine aw_ild j76_114 rfl ?_
  exact aw_ic j76_115 (fun h => k_12 (of_decide_eq_true h)) (fun h => k_13 (Decidable.of_not_not (of_decide_eq_false h)))
theorem bk76_118 {r0 : Option Nat} {x1 : Int32} {x2 : Int32} {x3 : Int32} {x4 : Int32} {x5 : Int32}  (k_1 : aw ext d 76 123 [some (va_rf r0), some (.int x1), some (.int x2), some (.int x3), some (.int x4), some (.int x5)] [.int (1 : Int32)] S Q) : aw ext d 76 118 [some (va_rf r0), some (.int x1), some (.int x2), some (.int x3), some (.int x4), some (.int x5)] [] S Q := by
  refine aw_con j76_118 ?_
  exact aw_goto j76_119 k_1
theorem bk76_122 {r0 : Option Nat} {x1 : Int32} {x2 : Int32} {x3 : Int32} {x4 : Int32} {x5 : Int32}  (k_1 : aw ext d 76 123 [some (va_rf r0), some (.int x1), some (.int x2), some (.int x3), some (.int x4), some (.int x5)] [.int (0 : Int32)] S Q) : aw ext d 76 122 [some (va_rf r0), some (.int x1), some (.int x2), some (.int x3), some (.int x4), some (.int x5)] [] S Q := by
  refine aw_con j76_122 ?_
  exact k_1
theorem bk76_123 {r0 : Option Nat} {x1 : Int32} {x2 : Int32} {x3 : Int32} {x4 : Int32} {x5 : Int32} {xk0 : Int32}  (k_1 : aw ext d 76 83 [some (va_rf r0), some (.int x1), some (.int x2), some (.int x3), some (.int xk0), some (.int (x5 + 1))] [] S Q) : aw ext d 76 123 [some (va_rf r0), some (.int x1), some (.int x2), some (.int x3), some (.int x4), some (.int x5)] [.int xk0] S Q := by
  refine aw_ist j76_123 (Nat.le_of_ble_eq_true rfl) ?_
  refine aw_inc j76_125 rfl ?_
  exact aw_goto j76_128 k_1
theorem bk76_131 {r0 : Option Nat} {x1 : Int32} {x2 : Int32} {x3 : Int32} {x4 : Int32} {x5 : Int32}  (k_1 : (¬ x2 = 0) → aw ext d 76 149 [some (va_rf r0), some (.int x1), some (.int x2), some (.int x3), some (.int x4), some (.int x5)] [] S Q) (k_2 : (x2 = 0) → aw ext d 76 135 [some (va_rf r0), some (.int x1), some (.int x2), some (.int x3), some (.int x4), some (.int x5)] [] S Q) : aw ext d 76 131 [some (va_rf r0), some (.int x1), some (.int x2), some (.int x3), some (.int x4), some (.int x5)] [] S Q := by
  refine aw_ild j76_131 rfl ?_
  exact aw_if j76_132 (fun h => k_1 (of_decide_eq_true h)) (fun h => k_2 (Decidable.of_not_not (of_decide_eq_false h)))
theorem bk76_135 {r0 : Option Nat} {x1 : Int32} {x2 : Int32} {x3 : Int32} {x4 : Int32} {x5 : Int32}  (k_1 : (x4 = 0) → aw ext d 76 153 [some (va_rf r0), some (.int x1), some (.int x2), some (.int x3), some (.int x4), some (.int x5)] [] S Q) (k_2 : (¬ (x4 = 0)) → aw ext d 76 140 [some (va_rf r0), some (.int x1), some (.int x2), some (.int x3), some (.int x4), some (.int x5)] [] S Q) : aw ext d 76 135 [some (va_rf r0), some (.int x1), some (.int x2), some (.int x3), some (.int x4), some (.int x5)] [] S Q := by
  refine aw_ild j76_135 rfl ?_
  exact aw_if j76_137 (fun h => k_1 (of_decide_eq_true h)) (fun h => k_2 (of_decide_eq_false h))
theorem bk76_140 {a0 : Nat} {x1 : Int32} {x2 : Int32} {x3 : Int32} {x4 : Int32} {x5 : Int32} {b2 : Nat} {n_4 : Nat} {i_7 : Nat} {y10 : Int32} (t_1 : S.1 a0 = some (.inl 10)) (f_3 : S.2.1 a0 18 = .ref b2) (t_5 : S.1 b2 = some (.inr (2, n_4))) (b_6 : n_4 < 2147483648) (e_8 : x3 = nI i_7) (c_9 : i_7 < n_4) (f_11 : S.2.1 b2 i_7 = .int y10) (k_12 : (¬ y10 = 0) → aw ext d 76 153 [some (.ref a0), some (.int x1), some (.int x2), some (.int x3), some (.int x4), some (.int x5)] [] S Q) (k_13 : (y10 = 0) → aw ext d 76 149 [some (.ref a0), some (.int x1), some (.int x2), some (.int x3), some (.int x4), some (.int x5)] [] S Q) : aw ext d 76 140 [some (.ref a0), some (.int x1), some (.int x2), some (.int x3), some (.int x4), some (.int x5)] [] S Q := by
  refine aw_ald j76_140 rfl rfl ?_
  refine aw_get j76_141 t_1 f_3 ?_
  refine aw_ild j76_144 rfl ?_
  refine aw_xld j76_145 t_5 e_8 c_9 b_6 f_11 ?_
  exact aw_if j76_146 (fun h => k_12 (of_decide_eq_true h)) (fun h => k_13 (Decidable.of_not_not (of_decide_eq_false h)))
theorem bk76_149 {r0 : Option Nat} {x1 : Int32} {x2 : Int32} {x3 : Int32} {x4 : Int32} {x5 : Int32}  (k_1 : aw ext d 76 154 [some (va_rf r0), some (.int x1), some (.int x2), some (.int x3), some (.int x4), some (.int x5)] [.int (1 : Int32)] S Q) : aw ext d 76 149 [some (va_rf r0), some (.int x1), some (.int x2), some (.int x3), some (.int x4), some (.int x5)] [] S Q := by
  refine aw_con j76_149 ?_
  exact aw_goto j76_150 k_1
theorem bk76_153 {r0 : Option Nat} {x1 : Int32} {x2 : Int32} {x3 : Int32} {x4 : Int32} {x5 : Int32}  (k_1 : aw ext d 76 154 [some (va_rf r0), some (.int x1), some (.int x2), some (.int x3), some (.int x4), some (.int x5)] [.int (0 : Int32)] S Q) : aw ext d 76 153 [some (va_rf r0), some (.int x1), some (.int x2), some (.int x3), some (.int x4), some (.int x5)] [] S Q := by
  refine aw_con j76_153 ?_
  exact k_1
theorem bk76_154 {a0 : Nat} {x1 : Int32} {x2 : Int32} {x3 : Int32} {x4 : Int32} {x5 : Int32} {xk0 : Int32} {b2 : Nat} {n_4 : Nat} {i_7 : Nat} {y10 : Int32} (t_1 : S.1 a0 = some (.inl 10)) (f_3 : S.2.1 a0 18 = .ref b2) (t_5 : S.1 b2 = some (.inr (2, n_4))) (b_6 : n_4 < 2147483648) (e_8 : x3 = nI i_7) (c_9 : i_7 < n_4) (f_11 : S.2.1 b2 i_7 = .int y10) (k_12 : (¬ y10 = 0) → aw ext d 76 174 [some (.ref a0), some (.int x1), some (.int xk0), some (.int x3), some (.int x4), some (.int x5)] [.int x3, .ref b2] S Q) (k_13 : (y10 = 0) → aw ext d 76 169 [some (.ref a0), some (.int x1), some (.int xk0), some (.int x3), some (.int x4), some (.int x5)] [.int x3, .ref b2] S Q) : aw ext d 76 154 [some (.ref a0), some (.int x1), some (.int x2), some (.int x3), some (.int x4), some (.int x5)] [.int xk0] S Q := by
  refine aw_ist j76_154 (Nat.le_of_ble_eq_true rfl) ?_
  refine aw_ald j76_155 rfl rfl ?_
  refine aw_get j76_156 t_1 f_3 ?_
  refine aw_ild j76_159 rfl ?_
  refine aw_ald j76_160 rfl rfl ?_
  refine aw_get j76_161 t_1 f_3 ?_
  refine aw_ild j76_164 rfl ?_
  refine aw_xld j76_165 t_5 e_8 c_9 b_6 f_11 ?_
  exact aw_if j76_166 (fun h => k_12 (of_decide_eq_true h)) (fun h => k_13 (Decidable.of_not_not (of_decide_eq_false h)))
theorem bk76_169 {r0 : Option Nat} {x1 : Int32} {x2 : Int32} {x3 : Int32} {x4 : Int32} {x5 : Int32} {rk0 : Option Nat} {xk1 : Int32}  (k_1 : (x4 = 0) → aw ext d 76 178 [some (va_rf r0), some (.int x1), some (.int x2), some (.int x3), some (.int x4), some (.int x5)] [.int xk1, va_rf rk0] S Q) (k_2 : (¬ (x4 = 0)) → aw ext d 76 174 [some (va_rf r0), some (.int x1), some (.int x2), some (.int x3), some (.int x4), some (.int x5)] [.int xk1, va_rf rk0] S Q) : aw ext d 76 169 [some (va_rf r0), some (.int x1), some (.int x2), some (.int x3), some (.int x4), some (.int x5)] [.int xk1, va_rf rk0] S Q := by
  refine aw_ild j76_169 rfl ?_
  exact aw_if j76_171 (fun h => k_1 (of_decide_eq_true h)) (fun h => k_2 (of_decide_eq_false h))
theorem bk76_174 {r0 : Option Nat} {x1 : Int32} {x2 : Int32} {x3 : Int32} {x4 : Int32} {x5 : Int32} {rk0 : Option Nat} {xk1 : Int32}  (k_1 : aw ext d 76 179 [some (va_rf r0), some (.int x1), some (.int x2), some (.int x3), some (.int x4), some (.int x5)] [.int (1 : Int32), .int xk1, va_rf rk0] S Q) : aw ext d 76 174 [some (va_rf r0), some (.int x1), some (.int x2), some (.int x3), some (.int x4), some (.int x5)] [.int xk1, va_rf rk0] S Q := by
  refine aw_con j76_174 ?_
  exact aw_goto j76_175 k_1
theorem bk76_178 {r0 : Option Nat} {x1 : Int32} {x2 : Int32} {x3 : Int32} {x4 : Int32} {x5 : Int32} {rk0 : Option Nat} {xk1 : Int32}  (k_1 : aw ext d 76 179 [some (va_rf r0), some (.int x1), some (.int x2), some (.int x3), some (.int x4), some (.int x5)] [.int (0 : Int32), .int xk1, va_rf rk0] S Q) : aw ext d 76 178 [some (va_rf r0), some (.int x1), some (.int x2), some (.int x3), some (.int x4), some (.int x5)] [.int xk1, va_rf rk0] S Q := by
  refine aw_con j76_178 ?_
  exact k_1
theorem bk76_179 {r0 : Option Nat} {x1 : Int32} {x2 : Int32} {x3 : Int32} {x4 : Int32} {x5 : Int32} {ak0 : Nat} {xk1 : Int32} {xk2 : Int32} {n_1 : Nat} {i_4 : Nat} (t_2 : S.1 ak0 = some (.inr (2, n_1))) (b_3 : n_1 < 2147483648) (e_5 : xk1 = nI i_4) (c_6 : i_4 < n_1) (k_7 : aw ext d 76 42 [some (va_rf r0), some (.int x1), some (.int x2), some (.int (x3 + 1)), some (.int x4), some (.int x5)] [] (av_set S ak0 i_4 (narrow .boolean (.int xk2))) Q) : aw ext d 76 179 [some (va_rf r0), some (.int x1), some (.int x2), some (.int x3), some (.int x4), some (.int x5)] [.int xk2, .int xk1, .ref ak0] S Q := by
  refine aw_xst j76_179 t_2 e_5 c_6 b_3 ?_
  refine aw_inc j76_180 rfl ?_
  exact aw_goto j76_183 k_7
theorem bk76_186 {r0 : Option Nat} {x1 : Int32} {x2 : Int32} {x3 : Int32} {o4 : Option Value} {o5 : Option Value}  (k_1 : aw ext d 76 34 [some (va_rf r0), some (.int x1), some (.int x2), some (.int x3), o4, o5] [] S Q) : aw ext d 76 186 [some (va_rf r0), some (.int x1), some (.int x2), some (.int x3), o4, o5] [] S Q := by
  exact aw_goto j76_186 k_1
theorem bk76_189 {r0 : Option Nat} {x1 : Int32} {x2 : Int32} {o3 : Option Value} {o4 : Option Value} {o5 : Option Value}  (k_1 : Q none S) : aw ext d 76 189 [some (va_rf r0), some (.int x1), some (.int x2), o3, o4, o5] [] S Q := by
  exact aw_vret j76_189 rt76 k_1
/-! Ref_move -/
theorem bk77_0 {a0 : Nat} {x1 : Int32} {x2 : Int32} {o3 : Option Value} {o4 : Option Value} {o5 : Option Value} {P_2 : Int32 → av_St → Prop} (t_1 : S.1 a0 = some (.inl 10)) (m_5 : cti ext d 71 [.ref a0, .int x1] (av_set S a0 0 (.int (0 : Int32))) P_2) (k_6 : ∀ v_4 S_3, P_2 v_4 S_3 → aw ext (d + 1) 77 10 [some (.ref a0), some (.int x1), some (.int x2), o3, o4, o5] [.int v_4] S_3 Q) : aw ext (d + 1) 77 0 [some (.ref a0), some (.int x1), some (.int x2), o3, o4, o5] [] S Q := by
  refine aw_ald j77_0 rfl rfl ?_
  refine aw_con j77_1 ?_
  refine aw_put j77_2 t_1 rfl ?_
  refine aw_ald j77_5 rfl rfl ?_
  refine aw_ild j77_6 rfl ?_
  exact aw_calli (as := [.ref a0, .int x1]) j77_7 rfl rfl (Nat.le_of_ble_eq_true rfl) cy71.1 cy71.2 (cs_cons rfl (cs_cons rfl cs_nil)) (decide_eq_true t_1) m_5 k_6
theorem bk77_10 {r0 : Option Nat} {x1 : Int32} {x2 : Int32} {o3 : Option Value} {o4 : Option Value} {o5 : Option Value} {xk0 : Int32}  (k_1 : (xk0 = 0) → aw ext d 77 26 [some (va_rf r0), some (.int x1), some (.int x2), o3, o4, o5] [] S Q) (k_2 : (¬ (xk0 = 0)) → aw ext d 77 13 [some (va_rf r0), some (.int x1), some (.int x2), o3, o4, o5] [] S Q) : aw ext d 77 10 [some (va_rf r0), some (.int x1), some (.int x2), o3, o4, o5] [.int xk0] S Q := by
  exact aw_if j77_10 (fun h => k_1 (of_decide_eq_true h)) (fun h => k_2 (of_decide_eq_false h))
theorem bk77_13 {r0 : Option Nat} {x1 : Int32} {x2 : Int32} {o3 : Option Value} {o4 : Option Value} {o5 : Option Value}  (k_1 : (x2 = (-1 : Int32)) → aw ext d 77 28 [some (va_rf r0), some (.int x1), some (.int x2), o3, o4, o5] [] S Q) (k_2 : (¬ (x2 = (-1 : Int32))) → aw ext d 77 18 [some (va_rf r0), some (.int x1), some (.int x2), o3, o4, o5] [] S Q) : aw ext d 77 13 [some (va_rf r0), some (.int x1), some (.int x2), o3, o4, o5] [] S Q := by
  refine aw_ild j77_13 rfl ?_
  refine aw_con j77_14 ?_
  exact aw_ic j77_15 (fun h => k_1 (of_decide_eq_true h)) (fun h => k_2 (of_decide_eq_false h))
theorem bk77_18 {a0 : Nat} {x1 : Int32} {x2 : Int32} {o3 : Option Value} {o4 : Option Value} {o5 : Option Value} {P_1 : Int32 → av_St → Prop} (t_4 : S.1 a0 = some (.inl 10)) (m_5 : cti ext d 71 [.ref a0, .int x2] S P_1) (k_6 : ∀ v_3 S_2, P_1 v_3 S_2 → aw ext (d + 1) 77 23 [some (.ref a0), some (.int x1), some (.int x2), o3, o4, o5] [.int v_3] S_2 Q) : aw ext (d + 1) 77 18 [some (.ref a0), some (.int x1), some (.int x2), o3, o4, o5] [] S Q := by
  refine aw_ald j77_18 rfl rfl ?_
  refine aw_ild j77_19 rfl ?_
  exact aw_calli (as := [.ref a0, .int x2]) j77_20 rfl rfl (Nat.le_of_ble_eq_true rfl) cy71.1 cy71.2 (cs_cons rfl (cs_cons rfl cs_nil)) (decide_eq_true t_4) m_5 k_6
theorem bk77_23 {r0 : Option Nat} {x1 : Int32} {x2 : Int32} {o3 : Option Value} {o4 : Option Value} {o5 : Option Value} {xk0 : Int32}  (k_1 : (¬ xk0 = 0) → aw ext d 77 28 [some (va_rf r0), some (.int x1), some (.int x2), o3, o4, o5] [] S Q) (k_2 : (xk0 = 0) → aw ext d 77 26 [some (va_rf r0), some (.int x1), some (.int x2), o3, o4, o5] [] S Q) : aw ext d 77 23 [some (va_rf r0), some (.int x1), some (.int x2), o3, o4, o5] [.int xk0] S Q := by
  exact aw_if j77_23 (fun h => k_1 (of_decide_eq_true h)) (fun h => k_2 (Decidable.of_not_not (of_decide_eq_false h)))
theorem bk77_26 {r0 : Option Nat} {x1 : Int32} {x2 : Int32} {o3 : Option Value} {o4 : Option Value} {o5 : Option Value}  (k_1 : Q (some (.int (-1 : Int32))) S) : aw ext d 77 26 [some (va_rf r0), some (.int x1), some (.int x2), o3, o4, o5] [] S Q := by
  refine aw_con j77_26 ?_
  exact aw_ret j77_27 (by rw [rt77]; exact rfl) k_1
theorem bk77_28 {r0 : Option Nat} {x1 : Int32} {x2 : Int32} {o3 : Option Value} {o4 : Option Value} {o5 : Option Value}  (k_1 : (x2 < 0) → aw ext d 77 68 [some (va_rf r0), some (.int x1), some (.int x2), o3, o4, o5] [] S Q) (k_2 : (¬ (x2 < 0)) → aw ext d 77 32 [some (va_rf r0), some (.int x1), some (.int x2), o3, o4, o5] [] S Q) : aw ext d 77 28 [some (va_rf r0), some (.int x1), some (.int x2), o3, o4, o5] [] S Q := by
  refine aw_ild j77_28 rfl ?_
  exact aw_if j77_29 (fun h => k_1 (of_decide_eq_true h)) (fun h => k_2 (of_decide_eq_false h))
theorem bk77_32 {a0 : Nat} {x1 : Int32} {x2 : Int32} {o3 : Option Value} {o4 : Option Value} {o5 : Option Value} {b2 : Nat} {n_4 : Nat} {i_7 : Nat} {y10 : Int32} {i_12 : Nat} {y15 : Int32} (t_1 : S.1 a0 = some (.inl 10)) (f_3 : S.2.1 a0 6 = .ref b2) (t_5 : S.1 b2 = some (.inr (0, n_4))) (b_6 : n_4 < 2147483648) (e_8 : x2 = nI i_7) (c_9 : i_7 < n_4) (f_11 : S.2.1 b2 i_7 = .int y10) (e_13 : x1 = nI i_12) (c_14 : i_12 < n_4) (f_16 : S.2.1 b2 i_12 = .int y15) (k_17 : (¬ y10 = y15) → aw ext d 77 65 [some (.ref a0), some (.int x1), some (.int x2), o3, o4, o5] [] S Q) (k_18 : (y10 = y15) → aw ext d 77 47 [some (.ref a0), some (.int x1), some (.int x2), o3, o4, o5] [] S Q) : aw ext d 77 32 [some (.ref a0), some (.int x1), some (.int x2), o3, o4, o5] [] S Q := by
  refine aw_ald j77_32 rfl rfl ?_
  refine aw_get j77_33 t_1 f_3 ?_
  refine aw_ild j77_36 rfl ?_
  refine aw_xld j77_37 t_5 e_8 c_9 b_6 f_11 ?_
  refine aw_ald j77_38 rfl rfl ?_
  refine aw_get j77_39 t_1 f_3 ?_
  refine aw_ild j77_42 rfl ?_
  refine aw_xld j77_43 t_5 e_13 c_14 b_6 f_16 ?_
  exact aw_ic j77_44 (fun h => k_17 (of_decide_eq_true h)) (fun h => k_18 (Decidable.of_not_not (of_decide_eq_false h)))
theorem bk77_47 {a0 : Nat} {x1 : Int32} {x2 : Int32} {o3 : Option Value} {o4 : Option Value} {o5 : Option Value} {b2 : Nat} {n_4 : Nat} {i_7 : Nat} {y10 : Int32} (t_1 : S.1 a0 = some (.inl 10)) (f_3 : S.2.1 a0 10 = .ref b2) (t_5 : S.1 b2 = some (.inr (0, n_4))) (b_6 : n_4 < 2147483648) (e_8 : x2 = nI i_7) (c_9 : i_7 < n_4) (f_11 : S.2.1 b2 i_7 = .int y10) (k_12 : (0 ≤ y10) → aw ext d 77 65 [some (.ref a0), some (.int x1), some (.int x2), o3, o4, o5] [] S Q) (k_13 : (¬ (0 ≤ y10)) → aw ext d 77 56 [some (.ref a0), some (.int x1), some (.int x2), o3, o4, o5] [] S Q) : aw ext d 77 47 [some (.ref a0), some (.int x1), some (.int x2), o3, o4, o5] [] S Q := by
  refine aw_ald j77_47 rfl rfl ?_
  refine aw_get j77_48 t_1 f_3 ?_
  refine aw_ild j77_51 rfl ?_
  refine aw_xld j77_52 t_5 e_8 c_9 b_6 f_11 ?_
  exact aw_if j77_53 (fun h => k_12 (of_decide_eq_true h)) (fun h => k_13 (of_decide_eq_false h))
theorem bk77_56 {a0 : Nat} {x1 : Int32} {x2 : Int32} {o3 : Option Value} {o4 : Option Value} {o5 : Option Value} {P_1 : Int32 → av_St → Prop} (t_4 : S.1 a0 = some (.inl 10)) (m_5 : cti ext d 78 [.ref a0, .int x2, .int x1] S P_1) (k_6 : ∀ v_3 S_2, P_1 v_3 S_2 → aw ext (d + 1) 77 62 [some (.ref a0), some (.int x1), some (.int x2), o3, o4, o5] [.int v_3] S_2 Q) : aw ext (d + 1) 77 56 [some (.ref a0), some (.int x1), some (.int x2), o3, o4, o5] [] S Q := by
  refine aw_ald j77_56 rfl rfl ?_
  refine aw_ild j77_57 rfl ?_
  refine aw_ild j77_58 rfl ?_
  exact aw_calli (as := [.ref a0, .int x2, .int x1]) j77_59 rfl rfl (Nat.le_of_ble_eq_true rfl) cy78.1 cy78.2 (cs_cons rfl (cs_cons rfl (cs_cons rfl cs_nil))) (decide_eq_true t_4) m_5 k_6
theorem bk77_62 {r0 : Option Nat} {x1 : Int32} {x2 : Int32} {o3 : Option Value} {o4 : Option Value} {o5 : Option Value} {xk0 : Int32}  (k_1 : (xk0 = 0) → aw ext d 77 68 [some (va_rf r0), some (.int x1), some (.int x2), o3, o4, o5] [] S Q) (k_2 : (¬ (xk0 = 0)) → aw ext d 77 65 [some (va_rf r0), some (.int x1), some (.int x2), o3, o4, o5] [] S Q) : aw ext d 77 62 [some (va_rf r0), some (.int x1), some (.int x2), o3, o4, o5] [.int xk0] S Q := by
  exact aw_if j77_62 (fun h => k_1 (of_decide_eq_true h)) (fun h => k_2 (of_decide_eq_false h))
theorem bk77_65 {r0 : Option Nat} {x1 : Int32} {x2 : Int32} {o3 : Option Value} {o4 : Option Value} {o5 : Option Value}  (k_1 : Q (some (.int (-3 : Int32))) S) : aw ext d 77 65 [some (va_rf r0), some (.int x1), some (.int x2), o3, o4, o5] [] S Q := by
  refine aw_con j77_65 ?_
  exact aw_ret j77_67 (by rw [rt77]; exact rfl) k_1
theorem bk77_68 {a0 : Nat} {x1 : Int32} {x2 : Int32} {o3 : Option Value} {o4 : Option Value} {o5 : Option Value} {b2 : Nat} {n_4 : Nat} {i_7 : Nat} {y10 : Int32} {i_12 : Nat} (t_1 : S.1 a0 = some (.inl 10)) (f_3 : S.2.1 a0 7 = .ref b2) (t_5 : S.1 b2 = some (.inr (0, n_4))) (b_6 : n_4 < 2147483648) (e_8 : x1 = nI i_7) (c_9 : i_7 < n_4) (f_11 : S.2.1 b2 i_7 = .int y10) (e_13 : x1 = nI i_12) (c_14 : i_12 < n_4) (k_15 : aw ext d 77 88 [some (.ref a0), some (.int x1), some (.int x2), some (.int y10), some (.int (0 : Int32)), some (.int (0 : Int32))] [] (av_set S b2 i_12 (.int x2)) Q) : aw ext d 77 68 [some (.ref a0), some (.int x1), some (.int x2), o3, o4, o5] [] S Q := by
  refine aw_ald j77_68 rfl rfl ?_
  refine aw_get j77_69 t_1 f_3 ?_
  refine aw_ild j77_72 rfl ?_
  refine aw_xld j77_73 t_5 e_8 c_9 b_6 f_11 ?_
  refine aw_ist j77_74 (Nat.le_of_ble_eq_true rfl) ?_
  refine aw_ald j77_75 rfl rfl ?_
  refine aw_get j77_76 t_1 f_3 ?_
  refine aw_ild j77_79 rfl ?_
  refine aw_ild j77_80 rfl ?_
  refine aw_xst j77_81 t_5 e_13 c_14 b_6 ?_
  refine aw_con j77_82 ?_
  refine aw_ist j77_83 (Nat.le_of_ble_eq_true rfl) ?_
  refine aw_con j77_85 ?_
  refine aw_ist j77_86 (Nat.le_of_ble_eq_true rfl) ?_
  exact k_15
theorem bk77_88 {a0 : Nat} {x1 : Int32} {x2 : Int32} {x3 : Int32} {x4 : Int32} {x5 : Int32} {y2 : Int32} (t_1 : S.1 a0 = some (.inl 10)) (f_3 : S.2.1 a0 5 = .int y2) (k_4 : (y2 ≤ x5) → aw ext d 77 141 [some (.ref a0), some (.int x1), some (.int x2), some (.int x3), some (.int x4), some (.int x5)] [] S Q) (k_5 : (¬ (y2 ≤ x5)) → aw ext d 77 97 [some (.ref a0), some (.int x1), some (.int x2), some (.int x3), some (.int x4), some (.int x5)] [] S Q) : aw ext d 77 88 [some (.ref a0), some (.int x1), some (.int x2), some (.int x3), some (.int x4), some (.int x5)] [] S Q := by
  refine aw_ild j77_88 rfl ?_
  refine aw_ald j77_90 rfl rfl ?_
  refine aw_get j77_91 t_1 f_3 ?_
  exact aw_ic j77_94 (fun h => k_4 (of_decide_eq_true h)) (fun h => k_5 (of_decide_eq_false h))
theorem bk77_97 {r0 : Option Nat} {x1 : Int32} {x2 : Int32} {x3 : Int32} {x4 : Int32} {x5 : Int32}  (k_1 : (¬ x4 = 0) → aw ext d 77 128 [some (va_rf r0), some (.int x1), some (.int x2), some (.int x3), some (.int x4), some (.int x5)] [] S Q) (k_2 : (x4 = 0) → aw ext d 77 102 [some (va_rf r0), some (.int x1), some (.int x2), some (.int x3), some (.int x4), some (.int x5)] [] S Q) : aw ext d 77 97 [some (va_rf r0), some (.int x1), some (.int x2), some (.int x3), some (.int x4), some (.int x5)] [] S Q := by
  refine aw_ild j77_97 rfl ?_
  exact aw_if j77_99 (fun h => k_1 (of_decide_eq_true h)) (fun h => k_2 (Decidable.of_not_not (of_decide_eq_false h)))
theorem bk77_102 {a0 : Nat} {x1 : Int32} {x2 : Int32} {x3 : Int32} {x4 : Int32} {x5 : Int32} {b2 : Nat} {n_4 : Nat} {i_7 : Nat} {y10 : Int32} (t_1 : S.1 a0 = some (.inl 10)) (f_3 : S.2.1 a0 10 = .ref b2) (t_5 : S.1 b2 = some (.inr (0, n_4))) (b_6 : n_4 < 2147483648) (e_8 : x5 = nI i_7) (c_9 : i_7 < n_4) (f_11 : S.2.1 b2 i_7 = .int y10) (k_12 : (y10 < 0) → aw ext d 77 132 [some (.ref a0), some (.int x1), some (.int x2), some (.int x3), some (.int x4), some (.int x5)] [] S Q) (k_13 : (¬ (y10 < 0)) → aw ext d 77 112 [some (.ref a0), some (.int x1), some (.int x2), some (.int x3), some (.int x4), some (.int x5)] [] S Q) : aw ext d 77 102 [some (.ref a0), some (.int x1), some (.int x2), some (.int x3), some (.int x4), some (.int x5)] [] S Q := by
  refine aw_ald j77_102 rfl rfl ?_
  refine aw_get j77_103 t_1 f_3 ?_
  refine aw_ild j77_106 rfl ?_
  refine aw_xld j77_108 t_5 e_8 c_9 b_6 f_11 ?_
  exact aw_if j77_109 (fun h => k_12 (of_decide_eq_true h)) (fun h => k_13 (of_decide_eq_false h))
theorem bk77_112 {a0 : Nat} {x1 : Int32} {x2 : Int32} {x3 : Int32} {x4 : Int32} {x5 : Int32} {b2 : Nat} {n_4 : Nat} {i_7 : Nat} {y10 : Int32} {P_12 : Int32 → av_St → Prop} (t_1 : S.1 a0 = some (.inl 10)) (f_3 : S.2.1 a0 10 = .ref b2) (t_5 : S.1 b2 = some (.inr (0, n_4))) (b_6 : n_4 < 2147483648) (e_8 : x5 = nI i_7) (c_9 : i_7 < n_4) (f_11 : S.2.1 b2 i_7 = .int y10) (m_15 : cti ext d 75 [.ref a0, .int x5, .int y10] S P_12) (k_16 : ∀ v_14 S_13, P_12 v_14 S_13 → aw ext (d + 1) 77 125 [some (.ref a0), some (.int x1), some (.int x2), some (.int x3), some (.int x4), some (.int x5)] [.int v_14] S_13 Q) : aw ext (d + 1) 77 112 [some (.ref a0), some (.int x1), some (.int x2), some (.int x3), some (.int x4), some (.int x5)] [] S Q := by
  refine aw_ald j77_112 rfl rfl ?_
  refine aw_ild j77_113 rfl ?_
  refine aw_ald j77_115 rfl rfl ?_
  refine aw_get j77_116 t_1 f_3 ?_
  refine aw_ild j77_119 rfl ?_
  refine aw_xld j77_121 t_5 e_8 c_9 b_6 f_11 ?_
  exact aw_calli (as := [.ref a0, .int x5, .int y10]) j77_122 rfl rfl (Nat.le_of_ble_eq_true rfl) cy75.1 cy75.2 (cs_cons rfl (cs_cons rfl (cs_cons rfl cs_nil))) (decide_eq_true t_1) m_15 k_16
theorem bk77_125 {r0 : Option Nat} {x1 : Int32} {x2 : Int32} {x3 : Int32} {x4 : Int32} {x5 : Int32} {xk0 : Int32}  (k_1 : (xk0 = 0) → aw ext d 77 132 [some (va_rf r0), some (.int x1), some (.int x2), some (.int x3), some (.int x4), some (.int x5)] [] S Q) (k_2 : (¬ (xk0 = 0)) → aw ext d 77 128 [some (va_rf r0), some (.int x1), some (.int x2), some (.int x3), some (.int x4), some (.int x5)] [] S Q) : aw ext d 77 125 [some (va_rf r0), some (.int x1), some (.int x2), some (.int x3), some (.int x4), some (.int x5)] [.int xk0] S Q := by
  exact aw_if j77_125 (fun h => k_1 (of_decide_eq_true h)) (fun h => k_2 (of_decide_eq_false h))
theorem bk77_128 {r0 : Option Nat} {x1 : Int32} {x2 : Int32} {x3 : Int32} {x4 : Int32} {x5 : Int32}  (k_1 : aw ext d 77 133 [some (va_rf r0), some (.int x1), some (.int x2), some (.int x3), some (.int x4), some (.int x5)] [.int (1 : Int32)] S Q) : aw ext d 77 128 [some (va_rf r0), some (.int x1), some (.int x2), some (.int x3), some (.int x4), some (.int x5)] [] S Q := by
  refine aw_con j77_128 ?_
  exact aw_goto j77_129 k_1
theorem bk77_132 {r0 : Option Nat} {x1 : Int32} {x2 : Int32} {x3 : Int32} {x4 : Int32} {x5 : Int32}  (k_1 : aw ext d 77 133 [some (va_rf r0), some (.int x1), some (.int x2), some (.int x3), some (.int x4), some (.int x5)] [.int (0 : Int32)] S Q) : aw ext d 77 132 [some (va_rf r0), some (.int x1), some (.int x2), some (.int x3), some (.int x4), some (.int x5)] [] S Q := by
  refine aw_con j77_132 ?_
  exact k_1
theorem bk77_133 {r0 : Option Nat} {x1 : Int32} {x2 : Int32} {x3 : Int32} {x4 : Int32} {x5 : Int32} {xk0 : Int32}  (k_1 : aw ext d 77 88 [some (va_rf r0), some (.int x1), some (.int x2), some (.int x3), some (.int xk0), some (.int (x5 + 1))] [] S Q) : aw ext d 77 133 [some (va_rf r0), some (.int x1), some (.int x2), some (.int x3), some (.int x4), some (.int x5)] [.int xk0] S Q := by
  refine aw_ist j77_133 (Nat.le_of_ble_eq_true rfl) ?_
  refine aw_inc j77_135 rfl ?_
  exact aw_goto j77_138 k_1
theorem bk77_141 {r0 : Option Nat} {x1 : Int32} {x2 : Int32} {x3 : Int32} {x4 : Int32} {x5 : Int32}  (k_1 : (x4 = 0) → aw ext d 77 153 [some (va_rf r0), some (.int x1), some (.int x2), some (.int x3), some (.int x4), some (.int x5)] [] S Q) (k_2 : (¬ (x4 = 0)) → aw ext d 77 146 [some (va_rf r0), some (.int x1), some (.int x2), some (.int x3), some (.int x4), some (.int x5)] [] S Q) : aw ext d 77 141 [some (va_rf r0), some (.int x1), some (.int x2), some (.int x3), some (.int x4), some (.int x5)] [] S Q := by
  refine aw_ild j77_141 rfl ?_
  exact aw_if j77_143 (fun h => k_1 (of_decide_eq_true h)) (fun h => k_2 (of_decide_eq_false h))
theorem bk77_146 {a0 : Nat} {x1 : Int32} {x2 : Int32} {x3 : Int32} {x4 : Int32} {x5 : Int32} {b2 : Nat} {n_4 : Nat} {i_7 : Nat} (t_1 : S.1 a0 = some (.inl 10)) (f_3 : S.2.1 a0 7 = .ref b2) (t_5 : S.1 b2 = some (.inr (0, n_4))) (b_6 : n_4 < 2147483648) (e_8 : x1 = nI i_7) (c_9 : i_7 < n_4) (k_10 : aw ext d 77 153 [some (.ref a0), some (.int x1), some (.int x2), some (.int x3), some (.int x4), some (.int x5)] [] (av_set S b2 i_7 (.int x3)) Q) : aw ext d 77 146 [some (.ref a0), some (.int x1), some (.int x2), some (.int x3), some (.int x4), some (.int x5)] [] S Q := by
  refine aw_ald j77_146 rfl rfl ?_
  refine aw_get j77_147 t_1 f_3 ?_
  refine aw_ild j77_150 rfl ?_
  refine aw_ild j77_151 rfl ?_
  refine aw_xst j77_152 t_5 e_8 c_9 b_6 ?_
  exact k_10
theorem bk77_153 {r0 : Option Nat} {x1 : Int32} {x2 : Int32} {x3 : Int32} {x4 : Int32} {x5 : Int32}  (k_1 : (x4 = 0) → aw ext d 77 163 [some (va_rf r0), some (.int x1), some (.int x2), some (.int x3), some (.int x4), some (.int x5)] [] S Q) (k_2 : (¬ (x4 = 0)) → aw ext d 77 158 [some (va_rf r0), some (.int x1), some (.int x2), some (.int x3), some (.int x4), some (.int x5)] [] S Q) : aw ext d 77 153 [some (va_rf r0), some (.int x1), some (.int x2), some (.int x3), some (.int x4), some (.int x5)] [] S Q := by
  refine aw_ild j77_153 rfl ?_
  exact aw_if j77_155 (fun h => k_1 (of_decide_eq_true h)) (fun h => k_2 (of_decide_eq_false h))
theorem bk77_158 {r0 : Option Nat} {x1 : Int32} {x2 : Int32} {x3 : Int32} {x4 : Int32} {x5 : Int32}  (k_1 : aw ext d 77 164 [some (va_rf r0), some (.int x1), some (.int x2), some (.int x3), some (.int x4), some (.int x5)] [.int (-3 : Int32)] S Q) : aw ext d 77 158 [some (va_rf r0), some (.int x1), some (.int x2), some (.int x3), some (.int x4), some (.int x5)] [] S Q := by
  refine aw_con j77_158 ?_
  exact aw_goto j77_160 k_1
theorem bk77_163 {r0 : Option Nat} {x1 : Int32} {x2 : Int32} {x3 : Int32} {x4 : Int32} {x5 : Int32}  (k_1 : aw ext d 77 164 [some (va_rf r0), some (.int x1), some (.int x2), some (.int x3), some (.int x4), some (.int x5)] [.int (1 : Int32)] S Q) : aw ext d 77 163 [some (va_rf r0), some (.int x1), some (.int x2), some (.int x3), some (.int x4), some (.int x5)] [] S Q := by
  refine aw_con j77_163 ?_
  exact k_1
theorem bk77_164 {r0 : Option Nat} {x1 : Int32} {x2 : Int32} {x3 : Int32} {x4 : Int32} {x5 : Int32} {xk0 : Int32}  (k_1 : Q (some (.int xk0)) S) : aw ext d 77 164 [some (va_rf r0), some (.int x1), some (.int x2), some (.int x3), some (.int x4), some (.int x5)] [.int xk0] S Q := by
  exact aw_ret j77_164 (by rw [rt77]; exact rfl) k_1
/-! Ref_isUnder -/
theorem bk78_0 {r0 : Option Nat} {x1 : Int32} {x2 : Int32} {o3 : Option Value}  (k_1 : aw ext d 78 2 [some (va_rf r0), some (.int x1), some (.int x2), some (.int x1)] [] S Q) : aw ext d 78 0 [some (va_rf r0), some (.int x1), some (.int x2), o3] [] S Q := by
  refine aw_ild j78_0 rfl ?_
  refine aw_ist j78_1 (Nat.le_of_ble_eq_true rfl) ?_
  exact k_1
theorem bk78_2 {r0 : Option Nat} {x1 : Int32} {x2 : Int32} {x3 : Int32}  (k_1 : (x3 < 0) → aw ext d 78 21 [some (va_rf r0), some (.int x1), some (.int x2), some (.int x3)] [] S Q) (k_2 : (¬ (x3 < 0)) → aw ext d 78 6 [some (va_rf r0), some (.int x1), some (.int x2), some (.int x3)] [] S Q) : aw ext d 78 2 [some (va_rf r0), some (.int x1), some (.int x2), some (.int x3)] [] S Q := by
  refine aw_ild j78_2 rfl ?_
  exact aw_if j78_3 (fun h => k_1 (of_decide_eq_true h)) (fun h => k_2 (of_decide_eq_false h))
theorem bk78_6 {r0 : Option Nat} {x1 : Int32} {x2 : Int32} {x3 : Int32}  (k_1 : (x3 = x2) → aw ext d 78 21 [some (va_rf r0), some (.int x1), some (.int x2), some (.int x3)] [] S Q) (k_2 : (¬ (x3 = x2)) → aw ext d 78 11 [some (va_rf r0), some (.int x1), some (.int x2), some (.int x3)] [] S Q) : aw ext d 78 6 [some (va_rf r0), some (.int x1), some (.int x2), some (.int x3)] [] S Q := by
  refine aw_ild j78_6 rfl ?_
  refine aw_ild j78_7 rfl ?_
  exact aw_ic j78_8 (fun h => k_1 (of_decide_eq_true h)) (fun h => k_2 (of_decide_eq_false h))
theorem bk78_11 {a0 : Nat} {x1 : Int32} {x2 : Int32} {x3 : Int32} {b2 : Nat} {n_4 : Nat} {i_7 : Nat} {y10 : Int32} (t_1 : S.1 a0 = some (.inl 10)) (f_3 : S.2.1 a0 7 = .ref b2) (t_5 : S.1 b2 = some (.inr (0, n_4))) (b_6 : n_4 < 2147483648) (e_8 : x3 = nI i_7) (c_9 : i_7 < n_4) (f_11 : S.2.1 b2 i_7 = .int y10) (k_12 : aw ext d 78 2 [some (.ref a0), some (.int x1), some (.int x2), some (.int y10)] [] S Q) : aw ext d 78 11 [some (.ref a0), some (.int x1), some (.int x2), some (.int x3)] [] S Q := by
  refine aw_ald j78_11 rfl rfl ?_
  refine aw_get j78_12 t_1 f_3 ?_
  refine aw_ild j78_15 rfl ?_
  refine aw_xld j78_16 t_5 e_8 c_9 b_6 f_11 ?_
  refine aw_ist j78_17 (Nat.le_of_ble_eq_true rfl) ?_
  exact aw_goto j78_18 k_12
theorem bk78_21 {r0 : Option Nat} {x1 : Int32} {x2 : Int32} {x3 : Int32}  (k_1 : (¬ x3 = x2) → aw ext d 78 30 [some (va_rf r0), some (.int x1), some (.int x2), some (.int x3)] [] S Q) (k_2 : (x3 = x2) → aw ext d 78 26 [some (va_rf r0), some (.int x1), some (.int x2), some (.int x3)] [] S Q) : aw ext d 78 21 [some (va_rf r0), some (.int x1), some (.int x2), some (.int x3)] [] S Q := by
  refine aw_ild j78_21 rfl ?_
  refine aw_ild j78_22 rfl ?_
  exact aw_ic j78_23 (fun h => k_1 (of_decide_eq_true h)) (fun h => k_2 (Decidable.of_not_not (of_decide_eq_false h)))
theorem bk78_26 {r0 : Option Nat} {x1 : Int32} {x2 : Int32} {x3 : Int32}  (k_1 : aw ext d 78 31 [some (va_rf r0), some (.int x1), some (.int x2), some (.int x3)] [.int (1 : Int32)] S Q) : aw ext d 78 26 [some (va_rf r0), some (.int x1), some (.int x2), some (.int x3)] [] S Q := by
  refine aw_con j78_26 ?_
  exact aw_goto j78_27 k_1
theorem bk78_30 {r0 : Option Nat} {x1 : Int32} {x2 : Int32} {x3 : Int32}  (k_1 : aw ext d 78 31 [some (va_rf r0), some (.int x1), some (.int x2), some (.int x3)] [.int (0 : Int32)] S Q) : aw ext d 78 30 [some (va_rf r0), some (.int x1), some (.int x2), some (.int x3)] [] S Q := by
  refine aw_con j78_30 ?_
  exact k_1
theorem bk78_31 {r0 : Option Nat} {x1 : Int32} {x2 : Int32} {x3 : Int32} {xk0 : Int32} (o_2 : xk0 = 0 ∨ xk0 = 1) (k_1 : Q (some (.int xk0)) S) : aw ext d 78 31 [some (va_rf r0), some (.int x1), some (.int x2), some (.int x3)] [.int xk0] S Q := by
  exact aw_ret j78_31 (by rw [rt78]; exact (decide_eq_true o_2)) k_1
/-! Ref_order -/
theorem bk79_0 {a0 : Nat} {x1 : Int32} {x2 : Int32} {P_2 : Int32 → av_St → Prop} (t_1 : S.1 a0 = some (.inl 10)) (m_5 : cti ext d 70 [.ref a0, .int x1] (av_set S a0 0 (.int (0 : Int32))) P_2) (k_6 : ∀ v_4 S_3, P_2 v_4 S_3 → aw ext (d + 1) 79 10 [some (.ref a0), some (.int x1), some (.int x2)] [.int v_4] S_3 Q) : aw ext (d + 1) 79 0 [some (.ref a0), some (.int x1), some (.int x2)] [] S Q := by
  refine aw_ald j79_0 rfl rfl ?_
  refine aw_con j79_1 ?_
  refine aw_put j79_2 t_1 rfl ?_
  refine aw_ald j79_5 rfl rfl ?_
  refine aw_ild j79_6 rfl ?_
  exact aw_calli (as := [.ref a0, .int x1]) j79_7 rfl rfl (Nat.le_of_ble_eq_true rfl) cy70.1 cy70.2 (cs_cons rfl (cs_cons rfl cs_nil)) (decide_eq_true t_1) m_5 k_6
theorem bk79_10 {r0 : Option Nat} {x1 : Int32} {x2 : Int32} {xk0 : Int32}  (k_1 : (¬ xk0 = 0) → aw ext d 79 15 [some (va_rf r0), some (.int x1), some (.int x2)] [] S Q) (k_2 : (xk0 = 0) → aw ext d 79 13 [some (va_rf r0), some (.int x1), some (.int x2)] [] S Q) : aw ext d 79 10 [some (va_rf r0), some (.int x1), some (.int x2)] [.int xk0] S Q := by
  exact aw_if j79_10 (fun h => k_1 (of_decide_eq_true h)) (fun h => k_2 (Decidable.of_not_not (of_decide_eq_false h)))
theorem bk79_13 {r0 : Option Nat} {x1 : Int32} {x2 : Int32}  (k_1 : Q (some (.int (-1 : Int32))) S) : aw ext d 79 13 [some (va_rf r0), some (.int x1), some (.int x2)] [] S Q := by
  refine aw_con j79_13 ?_
  exact aw_ret j79_14 (by rw [rt79]; exact rfl) k_1
theorem bk79_15 {a0 : Nat} {x1 : Int32} {x2 : Int32} {P_1 : av_St → Prop} (t_4 : S.1 a0 = some (.inl 10)) (m_5 : ctv ext d 80 [.ref a0, .int x1] S P_1) (k_6 : ∀ S_2, P_1 S_2 → aw ext (d + 1) 79 20 [some (.ref a0), some (.int x1), some (.int x2)] [] S_2 Q) : aw ext (d + 1) 79 15 [some (.ref a0), some (.int x1), some (.int x2)] [] S Q := by
  refine aw_ald j79_15 rfl rfl ?_
  refine aw_ild j79_16 rfl ?_
  exact aw_callv (as := [.ref a0, .int x1]) j79_17 rfl rfl (Nat.le_of_ble_eq_true rfl) cy80.1 cy80.2 (cs_cons rfl (cs_cons rfl cs_nil)) (decide_eq_true t_4) m_5 k_6
theorem bk79_20 {a0 : Nat} {x1 : Int32} {x2 : Int32} {y2 : Int32} {P_4 : Int32 → av_St → Prop} (t_1 : S.1 a0 = some (.inl 10)) (f_3 : S.2.1 a0 19 = .int y2) (m_7 : cti ext d 65 [.int x2, .int (0 : Int32), .int (y2 - (1 : Int32))] S P_4) (k_8 : ∀ v_6 S_5, P_4 v_6 S_5 → aw ext (d + 1) 79 31 [some (.ref a0), some (.int x1), some (.int x2)] [.int v_6] S_5 Q) : aw ext (d + 1) 79 20 [some (.ref a0), some (.int x1), some (.int x2)] [] S Q := by
  refine aw_ild j79_20 rfl ?_
  refine aw_con j79_21 ?_
  refine aw_ald j79_22 rfl rfl ?_
  refine aw_get j79_23 t_1 f_3 ?_
  refine aw_con j79_26 ?_
  refine aw_bin (z := (y2 - (1 : Int32))) j79_27 rfl ?_
  exact aw_calli (as := [.int x2, .int (0 : Int32), .int (y2 - (1 : Int32))]) j79_28 rfl rfl (Nat.le_of_ble_eq_true rfl) cy65.1 cy65.2 (cs_cons rfl (cs_cons rfl (cs_cons rfl cs_nil))) rfl m_7 k_8
theorem bk79_31 {r0 : Option Nat} {x1 : Int32} {x2 : Int32} {xk0 : Int32}  (k_1 : (xk0 = 0) → aw ext d 79 43 [some (va_rf r0), some (.int x1), some (.int x2)] [] S Q) (k_2 : (¬ (xk0 = 0)) → aw ext d 79 34 [some (va_rf r0), some (.int x1), some (.int x2)] [] S Q) : aw ext d 79 31 [some (va_rf r0), some (.int x1), some (.int x2)] [.int xk0] S Q := by
  exact aw_if j79_31 (fun h => k_1 (of_decide_eq_true h)) (fun h => k_2 (of_decide_eq_false h))
theorem bk79_34 {a0 : Nat} {x1 : Int32} {x2 : Int32} {b2 : Nat} {n_4 : Nat} {i_7 : Nat} {y10 : Int32} (t_1 : S.1 a0 = some (.inl 10)) (f_3 : S.2.1 a0 20 = .ref b2) (t_5 : S.1 b2 = some (.inr (0, n_4))) (b_6 : n_4 < 2147483648) (e_8 : x2 = nI i_7) (c_9 : i_7 < n_4) (f_11 : S.2.1 b2 i_7 = .int y10) (k_12 : aw ext d 79 44 [some (.ref a0), some (.int x1), some (.int x2)] [.int y10] S Q) : aw ext d 79 34 [some (.ref a0), some (.int x1), some (.int x2)] [] S Q := by
  refine aw_ald j79_34 rfl rfl ?_
  refine aw_get j79_35 t_1 f_3 ?_
  refine aw_ild j79_38 rfl ?_
  refine aw_xld j79_39 t_5 e_8 c_9 b_6 f_11 ?_
  exact aw_goto j79_40 k_12
theorem bk79_43 {r0 : Option Nat} {x1 : Int32} {x2 : Int32}  (k_1 : aw ext d 79 44 [some (va_rf r0), some (.int x1), some (.int x2)] [.int (-1 : Int32)] S Q) : aw ext d 79 43 [some (va_rf r0), some (.int x1), some (.int x2)] [] S Q := by
  refine aw_con j79_43 ?_
  exact k_1
theorem bk79_44 {r0 : Option Nat} {x1 : Int32} {x2 : Int32} {xk0 : Int32}  (k_1 : Q (some (.int xk0)) S) : aw ext d 79 44 [some (va_rf r0), some (.int x1), some (.int x2)] [.int xk0] S Q := by
  exact aw_ret j79_44 (by rw [rt79]; exact rfl) k_1
/-! Ref_go -/
theorem bk80_0 {a0 : Nat} {x1 : Int32} {o2 : Option Value} {P_2 : av_St → Prop} (t_1 : S.1 a0 = some (.inl 10)) (m_5 : ctv ext d 81 [.ref a0, .int ((-1 : Int32) - x1), .int (-1 : Int32)] (av_set (av_set S a0 19 (.int (0 : Int32))) a0 17 (.int (0 : Int32))) P_2) (k_6 : ∀ S_3, P_2 S_3 → aw ext (d + 1) 80 18 [some (.ref a0), some (.int x1), o2] [] S_3 Q) : aw ext (d + 1) 80 0 [some (.ref a0), some (.int x1), o2] [] S Q := by
  refine aw_ald j80_0 rfl rfl ?_
  refine aw_con j80_1 ?_
  refine aw_put j80_2 t_1 rfl ?_
  refine aw_ald j80_5 rfl rfl ?_
  refine aw_con j80_6 ?_
  refine aw_put j80_7 t_1 rfl ?_
  refine aw_ald j80_10 rfl rfl ?_
  refine aw_con j80_11 ?_
  refine aw_ild j80_12 rfl ?_
  refine aw_bin (z := ((-1 : Int32) - x1)) j80_13 rfl ?_
  refine aw_con j80_14 ?_
  exact aw_callv (as := [.ref a0, .int ((-1 : Int32) - x1), .int (-1 : Int32)]) j80_15 rfl rfl (Nat.le_of_ble_eq_true rfl) cy81.1 cy81.2 (cs_cons rfl (cs_cons rfl (cs_cons rfl cs_nil))) (decide_eq_true t_1) m_5 k_6
theorem bk80_18 {a0 : Nat} {x1 : Int32} {o2 : Option Value} {y2 : Int32} (t_1 : S.1 a0 = some (.inl 10)) (f_3 : S.2.1 a0 17 = .int y2) (k_4 : (y2 ≤ 0) → aw ext d 80 88 [some (.ref a0), some (.int x1), o2] [] S Q) (k_5 : (¬ (y2 ≤ 0)) → aw ext d 80 25 [some (.ref a0), some (.int x1), o2] [] S Q) : aw ext d 80 18 [some (.ref a0), some (.int x1), o2] [] S Q := by
  refine aw_ald j80_18 rfl rfl ?_
  refine aw_get j80_19 t_1 f_3 ?_
  exact aw_if j80_22 (fun h => k_4 (of_decide_eq_true h)) (fun h => k_5 (of_decide_eq_false h))
theorem bk80_25 {a0 : Nat} {x1 : Int32} {o2 : Option Value} {y2 : Int32} {b4 : Nat} {y6 : Int32} {n_8 : Nat} {i_11 : Nat} {y14 : Int32} {b16 : Nat} {y18 : Int32} {n_20 : Nat} {i_23 : Nat} {q26 : Option Nat} {y28 : Int32} {P_30 : Int32 → av_St → Prop} (t_1 : S.1 a0 = some (.inl 10)) (f_3 : S.2.1 a0 17 = .int y2) (f_5 : (av_set S a0 17 (.int (y2 - (1 : Int32)))).2.1 a0 15 = .ref b4) (f_7 : (av_set S a0 17 (.int (y2 - (1 : Int32)))).2.1 a0 17 = .int y6) (t_9 : (av_set S a0 17 (.int (y2 - (1 : Int32)))).1 b4 = some (.inr (0, n_8))) (b_10 : n_8 < 2147483648) (e_12 : y6 = nI i_11) (c_13 : i_11 < n_8) (f_15 : (av_set S a0 17 (.int (y2 - (1 : Int32)))).2.1 b4 i_11 = .int y14) (f_17 : (av_set S a0 17 (.int (y2 - (1 : Int32)))).2.1 a0 20 = .ref b16) (f_19 : (av_set S a0 17 (.int (y2 - (1 : Int32)))).2.1 a0 19 = .int y18) (t_21 : (av_set S a0 17 (.int (y2 - (1 : Int32)))).1 b16 = some (.inr (0, n_20))) (b_22 : n_20 < 2147483648) (e_24 : y18 = nI i_23) (c_25 : i_23 < n_20) (f_27 : (av_set (av_set S a0 17 (.int (y2 - (1 : Int32)))) b16 i_23 (.int y14)).2.1 a0 21 = va_rf q26) (f_29 : (av_set (av_set S a0 17 (.int (y2 - (1 : Int32)))) b16 i_23 (.int y14)).2.1 a0 19 = .int y28) (m_33 : cti ext d 82 [.ref a0, .int y14] (av_set (av_set S a0 17 (.int (y2 - (1 : Int32)))) b16 i_23 (.int y14)) P_30) (k_34 : ∀ v_32 S_31, P_30 v_32 S_31 → aw ext (d + 1) 80 68 [some (.ref a0), some (.int x1), some (.int y14)] [.int v_32, .int y28, va_rf q26] S_31 Q) : aw ext (d + 1) 80 25 [some (.ref a0), some (.int x1), o2] [] S Q := by
  refine aw_ald j80_25 rfl rfl ?_
  refine aw_dup j80_26 rfl ?_
  refine aw_get j80_27 t_1 f_3 ?_
  refine aw_con j80_30 ?_
  refine aw_bin (z := (y2 - (1 : Int32))) j80_31 rfl ?_
  refine aw_put j80_32 t_1 rfl ?_
  refine aw_ald j80_35 rfl rfl ?_
  refine aw_get j80_36 t_1 f_5 ?_
  refine aw_ald j80_39 rfl rfl ?_
  refine aw_get j80_40 t_1 f_7 ?_
  refine aw_xld j80_43 t_9 e_12 c_13 b_10 f_15 ?_
  refine aw_ist j80_44 (Nat.le_of_ble_eq_true rfl) ?_
  refine aw_ald j80_45 rfl rfl ?_
  refine aw_get j80_46 t_1 f_17 ?_
  refine aw_ald j80_49 rfl rfl ?_
  refine aw_get j80_50 t_1 f_19 ?_
  refine aw_ild j80_53 rfl ?_
  refine aw_xst j80_54 t_21 e_24 c_25 b_22 ?_
  refine aw_ald j80_55 rfl rfl ?_
  refine aw_get j80_56 t_1 f_27 ?_
  refine aw_ald j80_59 rfl rfl ?_
  refine aw_get j80_60 t_1 f_29 ?_
  refine aw_ald j80_63 rfl rfl ?_
  refine aw_ild j80_64 rfl ?_
  exact aw_calli (as := [.ref a0, .int y14]) j80_65 rfl rfl (Nat.le_of_ble_eq_true rfl) cy82.1 cy82.2 (cs_cons rfl (cs_cons rfl cs_nil)) (decide_eq_true t_1) m_33 k_34
theorem bk80_68 {a0 : Nat} {x1 : Int32} {x2 : Int32} {ak0 : Nat} {xk1 : Int32} {xk2 : Int32} {n_1 : Nat} {i_4 : Nat} {y8 : Int32} {P_10 : av_St → Prop} (t_2 : S.1 ak0 = some (.inr (0, n_1))) (b_3 : n_1 < 2147483648) (e_5 : xk1 = nI i_4) (c_6 : i_4 < n_1) (t_7 : (av_set S ak0 i_4 (.int xk2)).1 a0 = some (.inl 10)) (f_9 : (av_set S ak0 i_4 (.int xk2)).2.1 a0 19 = .int y8) (m_13 : ctv ext d 81 [.ref a0, .int x2, .int (-1 : Int32)] (av_set (av_set S ak0 i_4 (.int xk2)) a0 19 (.int (y8 + (1 : Int32)))) P_10) (k_14 : ∀ S_11, P_10 S_11 → aw ext (d + 1) 80 85 [some (.ref a0), some (.int x1), some (.int x2)] [] S_11 Q) : aw ext (d + 1) 80 68 [some (.ref a0), some (.int x1), some (.int x2)] [.int xk2, .int xk1, .ref ak0] S Q := by
  refine aw_xst j80_68 t_2 e_5 c_6 b_3 ?_
  refine aw_ald j80_69 rfl rfl ?_
  refine aw_dup j80_70 rfl ?_
  refine aw_get j80_71 t_7 f_9 ?_
  refine aw_con j80_74 ?_
  refine aw_bin (z := (y8 + (1 : Int32))) j80_75 rfl ?_
  refine aw_put j80_76 t_7 rfl ?_
  refine aw_ald j80_79 rfl rfl ?_
  refine aw_ild j80_80 rfl ?_
  refine aw_con j80_81 ?_
  exact aw_callv (as := [.ref a0, .int x2, .int (-1 : Int32)]) j80_82 rfl rfl (Nat.le_of_ble_eq_true rfl) cy81.1 cy81.2 (cs_cons rfl (cs_cons rfl (cs_cons rfl cs_nil))) (decide_eq_true t_7) m_13 k_14
theorem bk80_85 {r0 : Option Nat} {x1 : Int32} {x2 : Int32}  (k_1 : aw ext d 80 18 [some (va_rf r0), some (.int x1), some (.int x2)] [] S Q) : aw ext d 80 85 [some (va_rf r0), some (.int x1), some (.int x2)] [] S Q := by
  exact aw_goto j80_85 k_1
theorem bk80_88 {r0 : Option Nat} {x1 : Int32} {o2 : Option Value}  (k_1 : Q none S) : aw ext d 80 88 [some (va_rf r0), some (.int x1), o2] [] S Q := by
  exact aw_vret j80_88 rt80 k_1
/-! Ref_lay -/
theorem bk81_0 {a0 : Nat} {x1 : Int32} {x2 : Int32} {o3 : Option Value} {o4 : Option Value} {o5 : Option Value} {o6 : Option Value} {y2 : Int32} (t_1 : S.1 a0 = some (.inl 10)) (f_3 : S.2.1 a0 17 = .int y2) (k_4 : aw ext d 81 8 [some (.ref a0), some (.int x1), some (.int x2), some (.int y2), some (.int (0 : Int32)), o5, o6] [] S Q) : aw ext d 81 0 [some (.ref a0), some (.int x1), some (.int x2), o3, o4, o5, o6] [] S Q := by
  refine aw_ald j81_0 rfl rfl ?_
  refine aw_get j81_1 t_1 f_3 ?_
  refine aw_ist j81_4 (Nat.le_of_ble_eq_true rfl) ?_
  refine aw_con j81_5 ?_
  refine aw_ist j81_6 (Nat.le_of_ble_eq_true rfl) ?_
  exact k_4
theorem bk81_8 {a0 : Nat} {x1 : Int32} {x2 : Int32} {x3 : Int32} {x4 : Int32} {o5 : Option Value} {o6 : Option Value} {y2 : Int32} (t_1 : S.1 a0 = some (.inl 10)) (f_3 : S.2.1 a0 5 = .int y2) (k_4 : (y2 ≤ x4) → aw ext d 81 185 [some (.ref a0), some (.int x1), some (.int x2), some (.int x3), some (.int x4), o5, o6] [] S Q) (k_5 : (¬ (y2 ≤ x4)) → aw ext d 81 17 [some (.ref a0), some (.int x1), some (.int x2), some (.int x3), some (.int x4), o5, o6] [] S Q) : aw ext d 81 8 [some (.ref a0), some (.int x1), some (.int x2), some (.int x3), some (.int x4), o5, o6] [] S Q := by
  refine aw_ild j81_8 rfl ?_
  refine aw_ald j81_10 rfl rfl ?_
  refine aw_get j81_11 t_1 f_3 ?_
  exact aw_ic j81_14 (fun h => k_4 (of_decide_eq_true h)) (fun h => k_5 (of_decide_eq_false h))
theorem bk81_17 {r0 : Option Nat} {x1 : Int32} {x2 : Int32} {x3 : Int32} {x4 : Int32} {o5 : Option Value} {o6 : Option Value}  (k_1 : (x1 < 0) → aw ext d 81 40 [some (va_rf r0), some (.int x1), some (.int x2), some (.int x3), some (.int x4), o5, o6] [] S Q) (k_2 : (¬ (x1 < 0)) → aw ext d 81 21 [some (va_rf r0), some (.int x1), some (.int x2), some (.int x3), some (.int x4), o5, o6] [] S Q) : aw ext d 81 17 [some (va_rf r0), some (.int x1), some (.int x2), some (.int x3), some (.int x4), o5, o6] [] S Q := by
  refine aw_ild j81_17 rfl ?_
  exact aw_if j81_18 (fun h => k_1 (of_decide_eq_true h)) (fun h => k_2 (of_decide_eq_false h))
theorem bk81_21 {a0 : Nat} {x1 : Int32} {x2 : Int32} {x3 : Int32} {x4 : Int32} {o5 : Option Value} {o6 : Option Value} {b2 : Nat} {n_4 : Nat} {i_7 : Nat} {y10 : Int32} (t_1 : S.1 a0 = some (.inl 10)) (f_3 : S.2.1 a0 7 = .ref b2) (t_5 : S.1 b2 = some (.inr (0, n_4))) (b_6 : n_4 < 2147483648) (e_8 : x4 = nI i_7) (c_9 : i_7 < n_4) (f_11 : S.2.1 b2 i_7 = .int y10) (k_12 : (¬ y10 = x1) → aw ext d 81 36 [some (.ref a0), some (.int x1), some (.int x2), some (.int x3), some (.int x4), o5, o6] [] S Q) (k_13 : (y10 = x1) → aw ext d 81 32 [some (.ref a0), some (.int x1), some (.int x2), some (.int x3), some (.int x4), o5, o6] [] S Q) : aw ext d 81 21 [some (.ref a0), some (.int x1), some (.int x2), some (.int x3), some (.int x4), o5, o6] [] S Q := by
  refine aw_ald j81_21 rfl rfl ?_
  refine aw_get j81_22 t_1 f_3 ?_
  refine aw_ild j81_25 rfl ?_
  refine aw_xld j81_27 t_5 e_8 c_9 b_6 f_11 ?_
  refine aw_ild j81_28 rfl ?_
  exact aw_ic j81_29 (fun h => k_12 (of_decide_eq_true h)) (fun h => k_13 (Decidable.of_not_not (of_decide_eq_false h)))
theorem bk81_32 {r0 : Option Nat} {x1 : Int32} {x2 : Int32} {x3 : Int32} {x4 : Int32} {o5 : Option Value} {o6 : Option Value}  (k_1 : aw ext d 81 68 [some (va_rf r0), some (.int x1), some (.int x2), some (.int x3), some (.int x4), o5, o6] [.int (1 : Int32)] S Q) : aw ext d 81 32 [some (va_rf r0), some (.int x1), some (.int x2), some (.int x3), some (.int x4), o5, o6] [] S Q := by
  refine aw_con j81_32 ?_
  exact aw_goto j81_33 k_1
theorem bk81_36 {r0 : Option Nat} {x1 : Int32} {x2 : Int32} {x3 : Int32} {x4 : Int32} {o5 : Option Value} {o6 : Option Value}  (k_1 : aw ext d 81 68 [some (va_rf r0), some (.int x1), some (.int x2), some (.int x3), some (.int x4), o5, o6] [.int (0 : Int32)] S Q) : aw ext d 81 36 [some (va_rf r0), some (.int x1), some (.int x2), some (.int x3), some (.int x4), o5, o6] [] S Q := by
  refine aw_con j81_36 ?_
  exact aw_goto j81_37 k_1
theorem bk81_40 {a0 : Nat} {x1 : Int32} {x2 : Int32} {x3 : Int32} {x4 : Int32} {o5 : Option Value} {o6 : Option Value} {b2 : Nat} {n_4 : Nat} {i_7 : Nat} {y10 : Int32} (t_1 : S.1 a0 = some (.inl 10)) (f_3 : S.2.1 a0 7 = .ref b2) (t_5 : S.1 b2 = some (.inr (0, n_4))) (b_6 : n_4 < 2147483648) (e_8 : x4 = nI i_7) (c_9 : i_7 < n_4) (f_11 : S.2.1 b2 i_7 = .int y10) (k_12 : (0 ≤ y10) → aw ext d 81 67 [some (.ref a0), some (.int x1), some (.int x2), some (.int x3), some (.int x4), o5, o6] [] S Q) (k_13 : (¬ (0 ≤ y10)) → aw ext d 81 50 [some (.ref a0), some (.int x1), some (.int x2), some (.int x3), some (.int x4), o5, o6] [] S Q) : aw ext d 81 40 [some (.ref a0), some (.int x1), some (.int x2), some (.int x3), some (.int x4), o5, o6] [] S Q := by
  refine aw_ald j81_40 rfl rfl ?_
  refine aw_get j81_41 t_1 f_3 ?_
  refine aw_ild j81_44 rfl ?_
  refine aw_xld j81_46 t_5 e_8 c_9 b_6 f_11 ?_
  exact aw_if j81_47 (fun h => k_12 (of_decide_eq_true h)) (fun h => k_13 (of_decide_eq_false h))
theorem bk81_50 {a0 : Nat} {x1 : Int32} {x2 : Int32} {x3 : Int32} {x4 : Int32} {o5 : Option Value} {o6 : Option Value} {b2 : Nat} {n_4 : Nat} {i_7 : Nat} {y10 : Int32} (t_1 : S.1 a0 = some (.inl 10)) (f_3 : S.2.1 a0 6 = .ref b2) (t_5 : S.1 b2 = some (.inr (0, n_4))) (b_6 : n_4 < 2147483648) (e_8 : x4 = nI i_7) (c_9 : i_7 < n_4) (f_11 : S.2.1 b2 i_7 = .int y10) (k_12 : (¬ y10 = ((-1 : Int32) - x1)) → aw ext d 81 67 [some (.ref a0), some (.int x1), some (.int x2), some (.int x3), some (.int x4), o5, o6] [] S Q) (k_13 : (y10 = ((-1 : Int32) - x1)) → aw ext d 81 63 [some (.ref a0), some (.int x1), some (.int x2), some (.int x3), some (.int x4), o5, o6] [] S Q) : aw ext d 81 50 [some (.ref a0), some (.int x1), some (.int x2), some (.int x3), some (.int x4), o5, o6] [] S Q := by
  refine aw_ald j81_50 rfl rfl ?_
  refine aw_get j81_51 t_1 f_3 ?_
  refine aw_ild j81_54 rfl ?_
  refine aw_xld j81_56 t_5 e_8 c_9 b_6 f_11 ?_
  refine aw_con j81_57 ?_
  refine aw_ild j81_58 rfl ?_
  refine aw_bin (z := ((-1 : Int32) - x1)) j81_59 rfl ?_
  exact aw_ic j81_60 (fun h => k_12 (of_decide_eq_true h)) (fun h => k_13 (Decidable.of_not_not (of_decide_eq_false h)))
theorem bk81_63 {r0 : Option Nat} {x1 : Int32} {x2 : Int32} {x3 : Int32} {x4 : Int32} {o5 : Option Value} {o6 : Option Value}  (k_1 : aw ext d 81 68 [some (va_rf r0), some (.int x1), some (.int x2), some (.int x3), some (.int x4), o5, o6] [.int (1 : Int32)] S Q) : aw ext d 81 63 [some (va_rf r0), some (.int x1), some (.int x2), some (.int x3), some (.int x4), o5, o6] [] S Q := by
  refine aw_con j81_63 ?_
  exact aw_goto j81_64 k_1
theorem bk81_67 {r0 : Option Nat} {x1 : Int32} {x2 : Int32} {x3 : Int32} {x4 : Int32} {o5 : Option Value} {o6 : Option Value}  (k_1 : aw ext d 81 68 [some (va_rf r0), some (.int x1), some (.int x2), some (.int x3), some (.int x4), o5, o6] [.int (0 : Int32)] S Q) : aw ext d 81 67 [some (va_rf r0), some (.int x1), some (.int x2), some (.int x3), some (.int x4), o5, o6] [] S Q := by
  refine aw_con j81_67 ?_
  exact k_1
theorem bk81_68 {r0 : Option Nat} {x1 : Int32} {x2 : Int32} {x3 : Int32} {x4 : Int32} {o5 : Option Value} {o6 : Option Value} {xk0 : Int32}  (k_1 : (¬ xk0 = 0) → aw ext d 81 78 [some (va_rf r0), some (.int x1), some (.int x2), some (.int x3), some (.int x4), some (.int xk0), o6] [] S Q) (k_2 : (xk0 = 0) → aw ext d 81 75 [some (va_rf r0), some (.int x1), some (.int x2), some (.int x3), some (.int x4), some (.int xk0), o6] [] S Q) : aw ext d 81 68 [some (va_rf r0), some (.int x1), some (.int x2), some (.int x3), some (.int x4), o5, o6] [.int xk0] S Q := by
  refine aw_ist j81_68 (Nat.le_of_ble_eq_true rfl) ?_
  refine aw_ild j81_70 rfl ?_
  exact aw_if j81_72 (fun h => k_1 (of_decide_eq_true h)) (fun h => k_2 (Decidable.of_not_not (of_decide_eq_false h)))
theorem bk81_75 {r0 : Option Nat} {x1 : Int32} {x2 : Int32} {x3 : Int32} {x4 : Int32} {x5 : Int32} {o6 : Option Value}  (k_1 : aw ext d 81 179 [some (va_rf r0), some (.int x1), some (.int x2), some (.int x3), some (.int x4), some (.int x5), o6] [] S Q) : aw ext d 81 75 [some (va_rf r0), some (.int x1), some (.int x2), some (.int x3), some (.int x4), some (.int x5), o6] [] S Q := by
  exact aw_goto j81_75 k_1
theorem bk81_78 {a0 : Nat} {x1 : Int32} {x2 : Int32} {x3 : Int32} {x4 : Int32} {x5 : Int32} {o6 : Option Value} {y2 : Int32} (t_1 : S.1 a0 = some (.inl 10)) (f_3 : S.2.1 a0 17 = .int y2) (k_4 : aw ext d 81 84 [some (.ref a0), some (.int x1), some (.int x2), some (.int x3), some (.int x4), some (.int x5), some (.int y2)] [] S Q) : aw ext d 81 78 [some (.ref a0), some (.int x1), some (.int x2), some (.int x3), some (.int x4), some (.int x5), o6] [] S Q := by
  refine aw_ald j81_78 rfl rfl ?_
  refine aw_get j81_79 t_1 f_3 ?_
  refine aw_ist j81_82 (Nat.le_of_ble_eq_true rfl) ?_
  exact k_4
theorem bk81_84 {r0 : Option Nat} {x1 : Int32} {x2 : Int32} {x3 : Int32} {x4 : Int32} {x5 : Int32} {x6 : Int32}  (k_1 : (x6 ≤ x3) → aw ext d 81 152 [some (va_rf r0), some (.int x1), some (.int x2), some (.int x3), some (.int x4), some (.int x5), some (.int x6)] [] S Q) (k_2 : (¬ (x6 ≤ x3)) → aw ext d 81 90 [some (va_rf r0), some (.int x1), some (.int x2), some (.int x3), some (.int x4), some (.int x5), some (.int x6)] [] S Q) : aw ext d 81 84 [some (va_rf r0), some (.int x1), some (.int x2), some (.int x3), some (.int x4), some (.int x5), some (.int x6)] [] S Q := by
  refine aw_ild j81_84 rfl ?_
  refine aw_ild j81_86 rfl ?_
  exact aw_ic j81_87 (fun h => k_1 (of_decide_eq_true h)) (fun h => k_2 (of_decide_eq_false h))
theorem bk81_90 {a0 : Nat} {x1 : Int32} {x2 : Int32} {x3 : Int32} {x4 : Int32} {x5 : Int32} {x6 : Int32} {b2 : Nat} {b4 : Nat} {n_6 : Nat} {i_9 : Nat} {y12 : Int32} {n_14 : Nat} {i_17 : Nat} {y20 : Int32} {i_22 : Nat} {y25 : Int32} (t_1 : S.1 a0 = some (.inl 10)) (f_3 : S.2.1 a0 8 = .ref b2) (f_5 : S.2.1 a0 15 = .ref b4) (t_7 : S.1 b4 = some (.inr (0, n_6))) (b_8 : n_6 < 2147483648) (e_10 : (x6 - (1 : Int32)) = nI i_9) (c_11 : i_9 < n_6) (f_13 : S.2.1 b4 i_9 = .int y12) (t_15 : S.1 b2 = some (.inr (0, n_14))) (b_16 : n_14 < 2147483648) (e_18 : y12 = nI i_17) (c_19 : i_17 < n_14) (f_21 : S.2.1 b2 i_17 = .int y20) (e_23 : x4 = nI i_22) (c_24 : i_22 < n_14) (f_26 : S.2.1 b2 i_22 = .int y25) (k_27 : (y25 < y20) → aw ext d 81 152 [some (.ref a0), some (.int x1), some (.int x2), some (.int x3), some (.int x4), some (.int x5), some (.int x6)] [] S Q) (k_28 : (¬ (y25 < y20)) → aw ext d 81 114 [some (.ref a0), some (.int x1), some (.int x2), some (.int x3), some (.int x4), some (.int x5), some (.int x6)] [] S Q) : aw ext d 81 90 [some (.ref a0), some (.int x1), some (.int x2), some (.int x3), some (.int x4), some (.int x5), some (.int x6)] [] S Q := by
  refine aw_ald j81_90 rfl rfl ?_
  refine aw_get j81_91 t_1 f_3 ?_
  refine aw_ald j81_94 rfl rfl ?_
  refine aw_get j81_95 t_1 f_5 ?_
  refine aw_ild j81_98 rfl ?_
  refine aw_con j81_100 ?_
  refine aw_bin (z := (x6 - (1 : Int32))) j81_101 rfl ?_
  refine aw_xld j81_102 t_7 e_10 c_11 b_8 f_13 ?_
  refine aw_xld j81_103 t_15 e_18 c_19 b_16 f_21 ?_
  refine aw_ald j81_104 rfl rfl ?_
  refine aw_get j81_105 t_1 f_3 ?_
  refine aw_ild j81_108 rfl ?_
  refine aw_xld j81_110 t_15 e_23 c_24 b_16 f_26 ?_
  exact aw_ic j81_111 (fun h => k_27 (of_decide_eq_true h)) (fun h => k_28 (of_decide_eq_false h))
theorem bk81_114 {a0 : Nat} {x1 : Int32} {x2 : Int32} {x3 : Int32} {x4 : Int32} {x5 : Int32} {x6 : Int32} {b2 : Nat} {n_4 : Nat} {i_7 : Nat} {y10 : Int32} {i_12 : Nat} {b15 : Nat} {n_17 : Nat} {i_20 : Nat} {y23 : Int32} {i_25 : Nat} (t_1 : S.1 a0 = some (.inl 10)) (f_3 : S.2.1 a0 15 = .ref b2) (t_5 : S.1 b2 = some (.inr (0, n_4))) (b_6 : n_4 < 2147483648) (e_8 : (x6 - (1 : Int32)) = nI i_7) (c_9 : i_7 < n_4) (f_11 : S.2.1 b2 i_7 = .int y10) (e_13 : x6 = nI i_12) (c_14 : i_12 < n_4) (f_16 : (av_set S b2 i_12 (.int y10)).2.1 a0 16 = .ref b15) (t_18 : (av_set S b2 i_12 (.int y10)).1 b15 = some (.inr (0, n_17))) (b_19 : n_17 < 2147483648) (e_21 : (x6 - (1 : Int32)) = nI i_20) (c_22 : i_20 < n_17) (f_24 : (av_set S b2 i_12 (.int y10)).2.1 b15 i_20 = .int y23) (e_26 : x6 = nI i_25) (c_27 : i_25 < n_17) (k_28 : aw ext d 81 84 [some (.ref a0), some (.int x1), some (.int x2), some (.int x3), some (.int x4), some (.int x5), some (.int (x6 + (-1)))] [] (av_set (av_set S b2 i_12 (.int y10)) b15 i_25 (.int y23)) Q) : aw ext d 81 114 [some (.ref a0), some (.int x1), some (.int x2), some (.int x3), some (.int x4), some (.int x5), some (.int x6)] [] S Q := by
  refine aw_ald j81_114 rfl rfl ?_
  refine aw_get j81_115 t_1 f_3 ?_
  refine aw_ild j81_118 rfl ?_
  refine aw_ald j81_120 rfl rfl ?_
  refine aw_get j81_121 t_1 f_3 ?_
  refine aw_ild j81_124 rfl ?_
  refine aw_con j81_126 ?_
  refine aw_bin (z := (x6 - (1 : Int32))) j81_127 rfl ?_
  refine aw_xld j81_128 t_5 e_8 c_9 b_6 f_11 ?_
  refine aw_xst j81_129 t_5 e_13 c_14 b_6 ?_
  refine aw_ald j81_130 rfl rfl ?_
  refine aw_get j81_131 t_1 f_16 ?_
  refine aw_ild j81_134 rfl ?_
  refine aw_ald j81_136 rfl rfl ?_
  refine aw_get j81_137 t_1 f_16 ?_
  refine aw_ild j81_140 rfl ?_
  refine aw_con j81_142 ?_
  refine aw_bin (z := (x6 - (1 : Int32))) j81_143 rfl ?_
  refine aw_xld j81_144 t_18 e_21 c_22 b_19 f_24 ?_
  refine aw_xst j81_145 t_18 e_26 c_27 b_19 ?_
  refine aw_inc j81_146 rfl ?_
  exact aw_goto j81_149 k_28
theorem bk81_152 {a0 : Nat} {x1 : Int32} {x2 : Int32} {x3 : Int32} {x4 : Int32} {x5 : Int32} {x6 : Int32} {b2 : Nat} {n_4 : Nat} {i_7 : Nat} {b10 : Nat} {n_12 : Nat} {i_15 : Nat} {y18 : Int32} (t_1 : S.1 a0 = some (.inl 10)) (f_3 : S.2.1 a0 15 = .ref b2) (t_5 : S.1 b2 = some (.inr (0, n_4))) (b_6 : n_4 < 2147483648) (e_8 : x6 = nI i_7) (c_9 : i_7 < n_4) (f_11 : (av_set S b2 i_7 (.int x4)).2.1 a0 16 = .ref b10) (t_13 : (av_set S b2 i_7 (.int x4)).1 b10 = some (.inr (0, n_12))) (b_14 : n_12 < 2147483648) (e_16 : x6 = nI i_15) (c_17 : i_15 < n_12) (f_19 : (av_set (av_set S b2 i_7 (.int x4)) b10 i_15 (.int x2)).2.1 a0 17 = .int y18) (k_20 : aw ext d 81 179 [some (.ref a0), some (.int x1), some (.int x2), some (.int x3), some (.int x4), some (.int x5), some (.int x6)] [] (av_set (av_set (av_set S b2 i_7 (.int x4)) b10 i_15 (.int x2)) a0 17 (.int (y18 + (1 : Int32)))) Q) : aw ext d 81 152 [some (.ref a0), some (.int x1), some (.int x2), some (.int x3), some (.int x4), some (.int x5), some (.int x6)] [] S Q := by
  refine aw_ald j81_152 rfl rfl ?_
  refine aw_get j81_153 t_1 f_3 ?_
  refine aw_ild j81_156 rfl ?_
  refine aw_ild j81_158 rfl ?_
  refine aw_xst j81_160 t_5 e_8 c_9 b_6 ?_
  refine aw_ald j81_161 rfl rfl ?_
  refine aw_get j81_162 t_1 f_11 ?_
  refine aw_ild j81_165 rfl ?_
  refine aw_ild j81_167 rfl ?_
  refine aw_xst j81_168 t_13 e_16 c_17 b_14 ?_
  refine aw_ald j81_169 rfl rfl ?_
  refine aw_dup j81_170 rfl ?_
  refine aw_get j81_171 t_1 f_19 ?_
  refine aw_con j81_174 ?_
  refine aw_bin (z := (y18 + (1 : Int32))) j81_175 rfl ?_
  refine aw_put j81_176 t_1 rfl ?_
  exact k_20
theorem bk81_179 {r0 : Option Nat} {x1 : Int32} {x2 : Int32} {x3 : Int32} {x4 : Int32} {x5 : Int32} {o6 : Option Value}  (k_1 : aw ext d 81 8 [some (va_rf r0), some (.int x1), some (.int x2), some (.int x3), some (.int (x4 + 1)), some (.int x5), o6] [] S Q) : aw ext d 81 179 [some (va_rf r0), some (.int x1), some (.int x2), some (.int x3), some (.int x4), some (.int x5), o6] [] S Q := by
  refine aw_inc j81_179 rfl ?_
  exact aw_goto j81_182 k_1
theorem bk81_185 {r0 : Option Nat} {x1 : Int32} {x2 : Int32} {x3 : Int32} {x4 : Int32} {o5 : Option Value} {o6 : Option Value}  (k_1 : Q none S) : aw ext d 81 185 [some (va_rf r0), some (.int x1), some (.int x2), some (.int x3), some (.int x4), o5, o6] [] S Q := by
  exact aw_vret j81_185 rt81 k_1
/-! Ref_depth -/
theorem bk82_0 {a0 : Nat} {x1 : Int32} {o2 : Option Value} {o3 : Option Value} {b2 : Nat} {n_4 : Nat} {i_7 : Nat} {y10 : Int32} (t_1 : S.1 a0 = some (.inl 10)) (f_3 : S.2.1 a0 7 = .ref b2) (t_5 : S.1 b2 = some (.inr (0, n_4))) (b_6 : n_4 < 2147483648) (e_8 : x1 = nI i_7) (c_9 : i_7 < n_4) (f_11 : S.2.1 b2 i_7 = .int y10) (k_12 : aw ext d 82 9 [some (.ref a0), some (.int x1), some (.int (0 : Int32)), some (.int y10)] [] S Q) : aw ext d 82 0 [some (.ref a0), some (.int x1), o2, o3] [] S Q := by
  refine aw_con j82_0 ?_
  refine aw_ist j82_1 (Nat.le_of_ble_eq_true rfl) ?_
  refine aw_ald j82_2 rfl rfl ?_
  refine aw_get j82_3 t_1 f_3 ?_
  refine aw_ild j82_6 rfl ?_
  refine aw_xld j82_7 t_5 e_8 c_9 b_6 f_11 ?_
  refine aw_ist j82_8 (Nat.le_of_ble_eq_true rfl) ?_
  exact k_12
theorem bk82_9 {r0 : Option Nat} {x1 : Int32} {x2 : Int32} {x3 : Int32}  (k_1 : (x3 < 0) → aw ext d 82 26 [some (va_rf r0), some (.int x1), some (.int x2), some (.int x3)] [] S Q) (k_2 : (¬ (x3 < 0)) → aw ext d 82 13 [some (va_rf r0), some (.int x1), some (.int x2), some (.int x3)] [] S Q) : aw ext d 82 9 [some (va_rf r0), some (.int x1), some (.int x2), some (.int x3)] [] S Q := by
  refine aw_ild j82_9 rfl ?_
  exact aw_if j82_10 (fun h => k_1 (of_decide_eq_true h)) (fun h => k_2 (of_decide_eq_false h))
theorem bk82_13 {a0 : Nat} {x1 : Int32} {x2 : Int32} {x3 : Int32} {b2 : Nat} {n_4 : Nat} {i_7 : Nat} {y10 : Int32} (t_1 : S.1 a0 = some (.inl 10)) (f_3 : S.2.1 a0 7 = .ref b2) (t_5 : S.1 b2 = some (.inr (0, n_4))) (b_6 : n_4 < 2147483648) (e_8 : x3 = nI i_7) (c_9 : i_7 < n_4) (f_11 : S.2.1 b2 i_7 = .int y10) (k_12 : aw ext d 82 9 [some (.ref a0), some (.int x1), some (.int (x2 + 1)), some (.int y10)] [] S Q) : aw ext d 82 13 [some (.ref a0), some (.int x1), some (.int x2), some (.int x3)] [] S Q := by
  refine aw_inc j82_13 rfl ?_
  refine aw_ald j82_16 rfl rfl ?_
  refine aw_get j82_17 t_1 f_3 ?_
  refine aw_ild j82_20 rfl ?_
  refine aw_xld j82_21 t_5 e_8 c_9 b_6 f_11 ?_
  refine aw_ist j82_22 (Nat.le_of_ble_eq_true rfl) ?_
  exact aw_goto j82_23 k_12
theorem bk82_26 {r0 : Option Nat} {x1 : Int32} {x2 : Int32} {x3 : Int32}  (k_1 : Q (some (.int x2)) S) : aw ext d 82 26 [some (va_rf r0), some (.int x1), some (.int x2), some (.int x3)] [] S Q := by
  refine aw_ild j82_26 rfl ?_
  exact aw_ret j82_27 (by rw [rt82]; exact rfl) k_1
/-! Ref_read -/
theorem bk83_0 {a0 : Nat} {x1 : Int32} {P_2 : Int32 → av_St → Prop} (t_1 : S.1 a0 = some (.inl 10)) (m_5 : cti ext d 70 [.ref a0, .int x1] (av_set S a0 0 (.int (0 : Int32))) P_2) (k_6 : ∀ v_4 S_3, P_2 v_4 S_3 → aw ext (d + 1) 83 10 [some (.ref a0), some (.int x1)] [.int v_4] S_3 Q) : aw ext (d + 1) 83 0 [some (.ref a0), some (.int x1)] [] S Q := by
  refine aw_ald j83_0 rfl rfl ?_
  refine aw_con j83_1 ?_
  refine aw_put j83_2 t_1 rfl ?_
  refine aw_ald j83_5 rfl rfl ?_
  refine aw_ild j83_6 rfl ?_
  exact aw_calli (as := [.ref a0, .int x1]) j83_7 rfl rfl (Nat.le_of_ble_eq_true rfl) cy70.1 cy70.2 (cs_cons rfl (cs_cons rfl cs_nil)) (decide_eq_true t_1) m_5 k_6
theorem bk83_10 {r0 : Option Nat} {x1 : Int32} {xk0 : Int32}  (k_1 : (¬ xk0 = 0) → aw ext d 83 15 [some (va_rf r0), some (.int x1)] [] S Q) (k_2 : (xk0 = 0) → aw ext d 83 13 [some (va_rf r0), some (.int x1)] [] S Q) : aw ext d 83 10 [some (va_rf r0), some (.int x1)] [.int xk0] S Q := by
  exact aw_if j83_10 (fun h => k_1 (of_decide_eq_true h)) (fun h => k_2 (Decidable.of_not_not (of_decide_eq_false h)))
theorem bk83_13 {r0 : Option Nat} {x1 : Int32}  (k_1 : Q (some (.int (-1 : Int32))) S) : aw ext d 83 13 [some (va_rf r0), some (.int x1)] [] S Q := by
  refine aw_con j83_13 ?_
  exact aw_ret j83_14 (by rw [rt83]; exact rfl) k_1
theorem bk83_15 {a0 : Nat} {x1 : Int32} {q2 : Option Nat} {P_4 : Int32 → av_St → Prop} (t_1 : S.1 a0 = some (.inl 10)) (f_3 : S.2.1 a0 26 = va_rf q2) (m_7 : cti ext d 84 [.ref a0, .int x1, va_rf q2] S P_4) (k_8 : ∀ v_6 S_5, P_4 v_6 S_5 → aw ext (d + 1) 83 25 [some (.ref a0), some (.int x1)] [.int v_6, .ref a0] S_5 Q) : aw ext (d + 1) 83 15 [some (.ref a0), some (.int x1)] [] S Q := by
  refine aw_ald j83_15 rfl rfl ?_
  refine aw_ald j83_16 rfl rfl ?_
  refine aw_ild j83_17 rfl ?_
  refine aw_ald j83_18 rfl rfl ?_
  refine aw_get j83_19 t_1 f_3 ?_
  exact aw_calli (as := [.ref a0, .int x1, va_rf q2]) j83_22 rfl rfl (Nat.le_of_ble_eq_true rfl) cy84.1 cy84.2 (cs_cons rfl (cs_cons rfl (cs_cons (av_cat_rf q2) cs_nil))) (decide_eq_true t_1) m_7 k_8
theorem bk83_25 {a0 : Nat} {x1 : Int32} {ak0 : Nat} {xk1 : Int32} {y3 : Int32} (t_1 : S.1 ak0 = some (.inl 10)) (t_2 : (av_set S ak0 25 (.int xk1)).1 a0 = some (.inl 10)) (f_4 : (av_set S ak0 25 (.int xk1)).2.1 a0 25 = .int y3) (k_5 : Q (some (.int y3)) (av_set S ak0 25 (.int xk1))) : aw ext d 83 25 [some (.ref a0), some (.int x1)] [.int xk1, .ref ak0] S Q := by
  refine aw_put j83_25 t_1 rfl ?_
  refine aw_ald j83_28 rfl rfl ?_
  refine aw_get j83_29 t_2 f_4 ?_
  exact aw_ret j83_32 (by rw [rt83]; exact rfl) k_5
end
