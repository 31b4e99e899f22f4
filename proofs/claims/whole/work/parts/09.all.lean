theorem sm_ok98 : sm_c98.all (fun r => av_chk sm_Ts sm_cl sm_fT sm_aT sm_ao sm_mt sm_m98 r.1 r.2) = true := by
  unfold sm_c98
  simp only [List.all_append, sm_ok98_0, sm_ok98_1, sm_ok98_2, sm_ok98_3, sm_ok98_4, sm_ok98_5, sm_ok98_6, sm_ok98_7, sm_ok98_8, sm_ok98_9, Bool.and_self]
theorem sm_find_mem : ∀ (l : List (Nat × av_I)) (pc : Nat) (I : av_I), sm_find l pc = some I → (pc, I) ∈ l
  | [], pc, I, h => by cases h
  | (k, i) :: l, pc, I, h => by
    unfold sm_find at h
    split at h
    · rename_i e
      subst e
      cases h
      exact List.mem_cons_self
    · exact List.mem_cons_of_mem _ (sm_find_mem l pc I h)
theorem sm_each (y : Nat) (M : av_Mt) (h : sm_mt y = some M) : ∃ l, M.2.2.2.2 = sm_find l ∧ l.all (fun r => av_chk sm_Ts sm_cl sm_fT sm_aT sm_ao sm_mt M r.1 r.2) = true := by
  match y, h with
  | 0, h => cases h; exact ⟨sm_c0, rfl, sm_ok0⟩
  | 1, h => cases h; exact ⟨sm_c1, rfl, sm_ok1⟩
  | 2, h => cases h; exact ⟨sm_c2, rfl, sm_ok2⟩
  | 3, h => cases h; exact ⟨sm_c3, rfl, sm_ok3⟩
  | 4, h => cases h; exact ⟨sm_c4, rfl, sm_ok4⟩
  | 5, h => cases h; exact ⟨sm_c5, rfl, sm_ok5⟩
  | 6, h => cases h; exact ⟨sm_c6, rfl, sm_ok6⟩
  | 7, h => cases h; exact ⟨sm_c7, rfl, sm_ok7⟩
  | 8, h => cases h; exact ⟨sm_c8, rfl, sm_ok8⟩
  | 9, h => cases h; exact ⟨sm_c9, rfl, sm_ok9⟩
  | 10, h => cases h; exact ⟨sm_c10, rfl, sm_ok10⟩
  | 11, h => cases h; exact ⟨sm_c11, rfl, sm_ok11⟩
  | 12, h => cases h; exact ⟨sm_c12, rfl, sm_ok12⟩
  | 13, h => cases h; exact ⟨sm_c13, rfl, sm_ok13⟩
  | 14, h => cases h; exact ⟨sm_c14, rfl, sm_ok14⟩
  | 15, h => cases h; exact ⟨sm_c15, rfl, sm_ok15⟩
  | 16, h => cases h; exact ⟨sm_c16, rfl, sm_ok16⟩
  | 17, h => cases h; exact ⟨sm_c17, rfl, sm_ok17⟩
  | 18, h => cases h; exact ⟨sm_c18, rfl, sm_ok18⟩
  | 19, h => cases h; exact ⟨sm_c19, rfl, sm_ok19⟩
  | 20, h => cases h; exact ⟨sm_c20, rfl, sm_ok20⟩
  | 21, h => cases h; exact ⟨sm_c21, rfl, sm_ok21⟩
  | 22, h => cases h; exact ⟨sm_c22, rfl, sm_ok22⟩
  | 23, h => cases h; exact ⟨sm_c23, rfl, sm_ok23⟩
  | 24, h => cases h; exact ⟨sm_c24, rfl, sm_ok24⟩
  | 25, h => cases h; exact ⟨sm_c25, rfl, sm_ok25⟩
  | 26, h => cases h; exact ⟨sm_c26, rfl, sm_ok26⟩
  | 27, h => cases h; exact ⟨sm_c27, rfl, sm_ok27⟩
  | 28, h => cases h; exact ⟨sm_c28, rfl, sm_ok28⟩
  | 29, h => cases h; exact ⟨sm_c29, rfl, sm_ok29⟩
  | 30, h => cases h; exact ⟨sm_c30, rfl, sm_ok30⟩
  | 31, h => cases h; exact ⟨sm_c31, rfl, sm_ok31⟩
  | 32, h => cases h; exact ⟨sm_c32, rfl, sm_ok32⟩
  | 33, h => cases h; exact ⟨sm_c33, rfl, sm_ok33⟩
  | 34, h => cases h; exact ⟨sm_c34, rfl, sm_ok34⟩
  | 35, h => cases h; exact ⟨sm_c35, rfl, sm_ok35⟩
  | 36, h => cases h; exact ⟨sm_c36, rfl, sm_ok36⟩
  | 37, h => cases h; exact ⟨sm_c37, rfl, sm_ok37⟩
  | 38, h => cases h; exact ⟨sm_c38, rfl, sm_ok38⟩
  | 39, h => cases h; exact ⟨sm_c39, rfl, sm_ok39⟩
  | 40, h => cases h; exact ⟨sm_c40, rfl, sm_ok40⟩
  | 41, h => cases h; exact ⟨sm_c41, rfl, sm_ok41⟩
  | 42, h => cases h; exact ⟨sm_c42, rfl, sm_ok42⟩
  | 43, h => cases h; exact ⟨sm_c43, rfl, sm_ok43⟩
  | 44, h => cases h; exact ⟨sm_c44, rfl, sm_ok44⟩
  | 45, h => cases h; exact ⟨sm_c45, rfl, sm_ok45⟩
  | 46, h => cases h; exact ⟨sm_c46, rfl, sm_ok46⟩
  | 47, h => cases h; exact ⟨sm_c47, rfl, sm_ok47⟩
  | 48, h => cases h; exact ⟨sm_c48, rfl, sm_ok48⟩
  | 49, h => cases h; exact ⟨sm_c49, rfl, sm_ok49⟩
  | 50, h => cases h; exact ⟨sm_c50, rfl, sm_ok50⟩
  | 51, h => cases h; exact ⟨sm_c51, rfl, sm_ok51⟩
  | 52, h => cases h; exact ⟨sm_c52, rfl, sm_ok52⟩
  | 53, h => cases h; exact ⟨sm_c53, rfl, sm_ok53⟩
  | 54, h => cases h; exact ⟨sm_c54, rfl, sm_ok54⟩
  | 55, h => cases h; exact ⟨sm_c55, rfl, sm_ok55⟩
  | 56, h => cases h; exact ⟨sm_c56, rfl, sm_ok56⟩
  | 57, h => cases h; exact ⟨sm_c57, rfl, sm_ok57⟩
  | 58, h => cases h; exact ⟨sm_c58, rfl, sm_ok58⟩
  | 59, h => cases h; exact ⟨sm_c59, rfl, sm_ok59⟩
  | 60, h => cases h; exact ⟨sm_c60, rfl, sm_ok60⟩
  | 61, h => cases h; exact ⟨sm_c61, rfl, sm_ok61⟩
  | 62, h => cases h; exact ⟨sm_c62, rfl, sm_ok62⟩
  | 63, h => cases h; exact ⟨sm_c63, rfl, sm_ok63⟩
  | 64, h => cases h; exact ⟨sm_c64, rfl, sm_ok64⟩
  | 65, h => cases h; exact ⟨sm_c65, rfl, sm_ok65⟩
  | 66, h => cases h; exact ⟨sm_c66, rfl, sm_ok66⟩
  | 67, h => cases h; exact ⟨sm_c67, rfl, sm_ok67⟩
  | 68, h => cases h; exact ⟨sm_c68, rfl, sm_ok68⟩
  | 69, h => cases h; exact ⟨sm_c69, rfl, sm_ok69⟩
  | 70, h => cases h; exact ⟨sm_c70, rfl, sm_ok70⟩
  | 71, h => cases h; exact ⟨sm_c71, rfl, sm_ok71⟩
  | 72, h => cases h; exact ⟨sm_c72, rfl, sm_ok72⟩
  | 73, h => cases h; exact ⟨sm_c73, rfl, sm_ok73⟩
  | 74, h => cases h; exact ⟨sm_c74, rfl, sm_ok74⟩
  | 75, h => cases h; exact ⟨sm_c75, rfl, sm_ok75⟩
  | 76, h => cases h; exact ⟨sm_c76, rfl, sm_ok76⟩
  | 77, h => cases h; exact ⟨sm_c77, rfl, sm_ok77⟩
  | 78, h => cases h; exact ⟨sm_c78, rfl, sm_ok78⟩
  | 79, h => cases h; exact ⟨sm_c79, rfl, sm_ok79⟩
  | 80, h => cases h; exact ⟨sm_c80, rfl, sm_ok80⟩
  | 81, h => cases h; exact ⟨sm_c81, rfl, sm_ok81⟩
  | 82, h => cases h; exact ⟨sm_c82, rfl, sm_ok82⟩
  | 83, h => cases h; exact ⟨sm_c83, rfl, sm_ok83⟩
  | 84, h => cases h; exact ⟨sm_c84, rfl, sm_ok84⟩
  | 85, h => cases h; exact ⟨sm_c85, rfl, sm_ok85⟩
  | 86, h => cases h; exact ⟨sm_c86, rfl, sm_ok86⟩
  | 87, h => cases h; exact ⟨sm_c87, rfl, sm_ok87⟩
  | 88, h => cases h; exact ⟨sm_c88, rfl, sm_ok88⟩
  | 89, h => cases h; exact ⟨sm_c89, rfl, sm_ok89⟩
  | 90, h => cases h; exact ⟨sm_c90, rfl, sm_ok90⟩
  | 91, h => cases h; exact ⟨sm_c91, rfl, sm_ok91⟩
  | 92, h => cases h; exact ⟨sm_c92, rfl, sm_ok92⟩
  | 93, h => cases h; exact ⟨sm_c93, rfl, sm_ok93⟩
  | 94, h => cases h; exact ⟨sm_c94, rfl, sm_ok94⟩
  | 95, h => cases h; exact ⟨sm_c95, rfl, sm_ok95⟩
  | 96, h => cases h; exact ⟨sm_c96, rfl, sm_ok96⟩
  | 97, h => cases h; exact ⟨sm_c97, rfl, sm_ok97⟩
  | 98, h => cases h; exact ⟨sm_c98, rfl, sm_ok98⟩
  | n + 99, h => cases h
theorem sm_all (y : Nat) (M : av_Mt) (pc : Nat) (I : av_I) (h : sm_mt y = some M) (hI : M.2.2.2.2 pc = some I) : av_chk sm_Ts sm_cl sm_fT sm_aT sm_ao sm_mt M pc I = true := by
  obtain ⟨l, h1, h2⟩ := sm_each y M h
  rw [h1] at hI
  exact List.all_eq_true.mp h2 (pc, I) (sm_find_mem l pc I hI)
theorem sm_good : ∀ w ∈ sm_Ts, goodWord w = true := fun w h => (List.mem_filter.mp h).2
theorem sm_ts {args : Array Value} {s : State} (h : ∀ w ∈ lw_tbl, w.before args s = true) : ∀ w ∈ sm_Ts, w.before args s = true := fun w hw => h w (List.mem_filter.mp hw).1
theorem sm_u0 : (u_ws "StructureMap" sm_T0 11).all (fun w => decide (w ∈ sm_Ts)) = true := by decide +kernel
theorem sm_p0 : ∀ k, k < 11 → parseFieldDescriptor (sm_T0 k).2.2.1 = some (sm_t0 k) := by decide +kernel
theorem sm_n0 : ∀ a, a < 11 → ∀ b, b < 11 → a ≠ b → (sm_T0 a).2.1 ≠ (sm_T0 b).2.1 := by decide +kernel
theorem sm_u1 : (u_ws "StructureMap$Search" sm_T1 3).all (fun w => decide (w ∈ sm_Ts)) = true := by decide +kernel
theorem sm_p1 : ∀ k, k < 3 → parseFieldDescriptor (sm_T1 k).2.2.1 = some (sm_t1 k) := by decide +kernel
theorem sm_n1 : ∀ a, a < 3 → ∀ b, b < 3 → a ≠ b → (sm_T1 a).2.1 ≠ (sm_T1 b).2.1 := by decide +kernel
theorem sm_u2 : (u_ws "StructureMap$Reading" sm_T2 6).all (fun w => decide (w ∈ sm_Ts)) = true := by decide +kernel
theorem sm_p2 : ∀ k, k < 6 → parseFieldDescriptor (sm_T2 k).2.2.1 = some (sm_t2 k) := by decide +kernel
theorem sm_n2 : ∀ a, a < 6 → ∀ b, b < 6 → a ≠ b → (sm_T2 a).2.1 ≠ (sm_T2 b).2.1 := by decide +kernel
theorem sm_u3 : (u_ws "StructureMap$Steps" sm_T3 3).all (fun w => decide (w ∈ sm_Ts)) = true := by decide +kernel
theorem sm_p3 : ∀ k, k < 3 → parseFieldDescriptor (sm_T3 k).2.2.1 = some (sm_t3 k) := by decide +kernel
theorem sm_n3 : ∀ a, a < 3 → ∀ b, b < 3 → a ≠ b → (sm_T3 a).2.1 ≠ (sm_T3 b).2.1 := by decide +kernel
theorem sm_u4 : (u_ws "StructureMap$Faults" sm_T4 3).all (fun w => decide (w ∈ sm_Ts)) = true := by decide +kernel
theorem sm_p4 : ∀ k, k < 3 → parseFieldDescriptor (sm_T4 k).2.2.1 = some (sm_t4 k) := by decide +kernel
theorem sm_n4 : ∀ a, a < 3 → ∀ b, b < 3 → a ≠ b → (sm_T4 a).2.1 ≠ (sm_T4 b).2.1 := by decide +kernel
theorem sm_u5 : (u_ws "StructureMap$Signs" sm_T5 2).all (fun w => decide (w ∈ sm_Ts)) = true := by decide +kernel
theorem sm_p5 : ∀ k, k < 2 → parseFieldDescriptor (sm_T5 k).2.2.1 = some (sm_t5 k) := by decide +kernel
theorem sm_n5 : ∀ a, a < 2 → ∀ b, b < 2 → a ≠ b → (sm_T5 a).2.1 ≠ (sm_T5 b).2.1 := by decide +kernel
theorem sm_u6 : (u_ws "StructureMap$SizedFile" sm_T6 3).all (fun w => decide (w ∈ sm_Ts)) = true := by decide +kernel
theorem sm_p6 : ∀ k, k < 3 → parseFieldDescriptor (sm_T6 k).2.2.1 = some (sm_t6 k) := by decide +kernel
theorem sm_n6 : ∀ a, a < 3 → ∀ b, b < 3 → a ≠ b → (sm_T6 a).2.1 ≠ (sm_T6 b).2.1 := by decide +kernel
theorem sm_u7 : (u_ws "StructureMap$Tree" sm_T7 2).all (fun w => decide (w ∈ sm_Ts)) = true := by decide +kernel
theorem sm_p7 : ∀ k, k < 2 → parseFieldDescriptor (sm_T7 k).2.2.1 = some (sm_t7 k) := by decide +kernel
theorem sm_n7 : ∀ a, a < 2 → ∀ b, b < 2 → a ≠ b → (sm_T7 a).2.1 ≠ (sm_T7 b).2.1 := by decide +kernel
theorem sm_u8 : (u_ws "StructureMap$Division" sm_T8 10).all (fun w => decide (w ∈ sm_Ts)) = true := by decide +kernel
theorem sm_p8 : ∀ k, k < 10 → parseFieldDescriptor (sm_T8 k).2.2.1 = some (sm_t8 k) := by decide +kernel
theorem sm_n8 : ∀ a, a < 10 → ∀ b, b < 10 → a ≠ b → (sm_T8 a).2.1 ≠ (sm_T8 b).2.1 := by decide +kernel
theorem sm_u9 : (u_ws "StructureMap$Link" sm_T9 5).all (fun w => decide (w ∈ sm_Ts)) = true := by decide +kernel
theorem sm_p9 : ∀ k, k < 5 → parseFieldDescriptor (sm_T9 k).2.2.1 = some (sm_t9 k) := by decide +kernel
theorem sm_n9 : ∀ a, a < 5 → ∀ b, b < 5 → a ≠ b → (sm_T9 a).2.1 ≠ (sm_T9 b).2.1 := by decide +kernel
theorem sm_u10 : (u_ws "StructureMapModel" sm_T10 34).all (fun w => decide (w ∈ sm_Ts)) = true := by decide +kernel
theorem sm_p10 : ∀ k, k < 34 → parseFieldDescriptor (sm_T10 k).2.2.1 = some (sm_t10 k) := by decide +kernel
theorem sm_n10 : ∀ a, a < 34 → ∀ b, b < 34 → a ≠ b → (sm_T10 a).2.1 ≠ (sm_T10 b).2.1 := by decide +kernel
theorem sm_tk : av_Tk sm_Ts sm_cl sm_fT sm_fN := by
  intro ci q h
  match ci, h with
  | 0, h => cases h; exact ⟨fun w hw => of_decide_eq_true (List.all_eq_true.mp sm_u0 w hw), sm_p0, sm_n0, rfl⟩
  | 1, h => cases h; exact ⟨fun w hw => of_decide_eq_true (List.all_eq_true.mp sm_u1 w hw), sm_p1, sm_n1, rfl⟩
  | 2, h => cases h; exact ⟨fun w hw => of_decide_eq_true (List.all_eq_true.mp sm_u2 w hw), sm_p2, sm_n2, rfl⟩
  | 3, h => cases h; exact ⟨fun w hw => of_decide_eq_true (List.all_eq_true.mp sm_u3 w hw), sm_p3, sm_n3, rfl⟩
  | 4, h => cases h; exact ⟨fun w hw => of_decide_eq_true (List.all_eq_true.mp sm_u4 w hw), sm_p4, sm_n4, rfl⟩
  | 5, h => cases h; exact ⟨fun w hw => of_decide_eq_true (List.all_eq_true.mp sm_u5 w hw), sm_p5, sm_n5, rfl⟩
  | 6, h => cases h; exact ⟨fun w hw => of_decide_eq_true (List.all_eq_true.mp sm_u6 w hw), sm_p6, sm_n6, rfl⟩
  | 7, h => cases h; exact ⟨fun w hw => of_decide_eq_true (List.all_eq_true.mp sm_u7 w hw), sm_p7, sm_n7, rfl⟩
  | 8, h => cases h; exact ⟨fun w hw => of_decide_eq_true (List.all_eq_true.mp sm_u8 w hw), sm_p8, sm_n8, rfl⟩
  | 9, h => cases h; exact ⟨fun w hw => of_decide_eq_true (List.all_eq_true.mp sm_u9 w hw), sm_p9, sm_n9, rfl⟩
  | 10, h => cases h; exact ⟨fun w hw => of_decide_eq_true (List.all_eq_true.mp sm_u10 w hw), sm_p10, sm_n10, rfl⟩
  | n + 11, h => cases h
