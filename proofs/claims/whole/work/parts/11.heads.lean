def sm_is (y pc : Nat) (I : av_I) : Bool := match sm_at y pc with
  | some J => decide (J.1 = I.1) && (decide (J.2.1 = I.2.1) && (decide (J.2.2.1 = I.2.2.1) && (decide (J.2.2.2.1 = I.2.2.2.1) && (decide (J.2.2.2.2.1 = I.2.2.2.2.1) && decide (J.2.2.2.2.2 = I.2.2.2.2.2)))))
  | none => false
theorem sm_is_ok {y pc : Nat} {I : av_I} (h : sm_is y pc I = true) : sm_at y pc = some I := by
  unfold sm_is at h
  cases hq : sm_at y pc with
  | none => rw [hq] at h; cases h
  | some J =>
    rw [hq] at h
    simp only [Bool.and_eq_true, decide_eq_true_eq] at h
    obtain ⟨a, b, c, d, e, f⟩ := J
    obtain ⟨h1, h2, h3, h4, h5, h6⟩ := h
    obtain ⟨a', b', c', d', e', f'⟩ := I
    dsimp only at h1 h2 h3 h4 h5 h6
    subst h1 h2 h3 h4 h5 h6
    rfl
theorem rt0 : sm_rt 0 = none := by decide +kernel
theorem cy0 : 1 ≤ sm_ml 0 ∧ sm_mt 0 ≠ none := ⟨by decide +kernel, fun h => by cases h⟩
theorem ml0 : sm_ml 0 = 1 := by decide +kernel
theorem rt1 : sm_rt 1 = some (.int) := by decide +kernel
theorem cy1 : 2 ≤ sm_ml 1 ∧ sm_mt 1 ≠ none := ⟨by decide +kernel, fun h => by cases h⟩
theorem ml1 : sm_ml 1 = 3 := by decide +kernel
theorem rt2 : sm_rt 2 = some (.boolean) := by decide +kernel
theorem cy2 : 1 ≤ sm_ml 2 ∧ sm_mt 2 ≠ none := ⟨by decide +kernel, fun h => by cases h⟩
theorem ml2 : sm_ml 2 = 1 := by decide +kernel
theorem rt3 : sm_rt 3 = some (.int) := by decide +kernel
theorem cy3 : 3 ≤ sm_ml 3 ∧ sm_mt 3 ≠ none := ⟨by decide +kernel, fun h => by cases h⟩
theorem ml3 : sm_ml 3 = 5 := by decide +kernel
theorem rt4 : sm_rt 4 = some (.object "StructureMap$SizedFile") := by decide +kernel
theorem cy4 : 2 ≤ sm_ml 4 ∧ sm_mt 4 ≠ none := ⟨by decide +kernel, fun h => by cases h⟩
theorem ml4 : sm_ml 4 = 2 := by decide +kernel
theorem rt5 : sm_rt 5 = some (.int) := by decide +kernel
theorem cy5 : 2 ≤ sm_ml 5 ∧ sm_mt 5 ≠ none := ⟨by decide +kernel, fun h => by cases h⟩
theorem ml5 : sm_ml 5 = 3 := by decide +kernel
theorem rt6 : sm_rt 6 = some (.int) := by decide +kernel
theorem cy6 : 5 ≤ sm_ml 6 ∧ sm_mt 6 ≠ none := ⟨by decide +kernel, fun h => by cases h⟩
theorem ml6 : sm_ml 6 = 9 := by decide +kernel
theorem rt7 : sm_rt 7 = some (.object "StructureMap$Tree") := by decide +kernel
theorem cy7 : 2 ≤ sm_ml 7 ∧ sm_mt 7 ≠ none := ⟨by decide +kernel, fun h => by cases h⟩
theorem ml7 : sm_ml 7 = 2 := by decide +kernel
theorem rt8 : sm_rt 8 = some (.object "StructureMap$Division") := by decide +kernel
theorem cy8 : 3 ≤ sm_ml 8 ∧ sm_mt 8 ≠ none := ⟨by decide +kernel, fun h => by cases h⟩
theorem ml8 : sm_ml 8 = 3 := by decide +kernel
theorem rt9 : sm_rt 9 = some (.object "StructureMap$Division") := by decide +kernel
theorem cy9 : 2 ≤ sm_ml 9 ∧ sm_mt 9 ≠ none := ⟨by decide +kernel, fun h => by cases h⟩
theorem ml9 : sm_ml 9 = 2 := by decide +kernel
theorem rt10 : sm_rt 10 = some (.int) := by decide +kernel
theorem cy10 : 5 ≤ sm_ml 10 ∧ sm_mt 10 ≠ none := ⟨by decide +kernel, fun h => by cases h⟩
theorem ml10 : sm_ml 10 = 8 := by decide +kernel
theorem rt11 : sm_rt 11 = some (.int) := by decide +kernel
theorem cy11 : 3 ≤ sm_ml 11 ∧ sm_mt 11 ≠ none := ⟨by decide +kernel, fun h => by cases h⟩
theorem ml11 : sm_ml 11 = 5 := by decide +kernel
theorem rt12 : sm_rt 12 = some (.int) := by decide +kernel
theorem cy12 : 3 ≤ sm_ml 12 ∧ sm_mt 12 ≠ none := ⟨by decide +kernel, fun h => by cases h⟩
theorem ml12 : sm_ml 12 = 6 := by decide +kernel
theorem rt13 : sm_rt 13 = some (.int) := by decide +kernel
theorem cy13 : 3 ≤ sm_ml 13 ∧ sm_mt 13 ≠ none := ⟨by decide +kernel, fun h => by cases h⟩
theorem ml13 : sm_ml 13 = 6 := by decide +kernel
theorem rt14 : sm_rt 14 = some (.int) := by decide +kernel
theorem cy14 : 2 ≤ sm_ml 14 ∧ sm_mt 14 ≠ none := ⟨by decide +kernel, fun h => by cases h⟩
theorem ml14 : sm_ml 14 = 3 := by decide +kernel
theorem rt15 : sm_rt 15 = some (.int) := by decide +kernel
theorem cy15 : 3 ≤ sm_ml 15 ∧ sm_mt 15 ≠ none := ⟨by decide +kernel, fun h => by cases h⟩
theorem ml15 : sm_ml 15 = 3 := by decide +kernel
theorem rt16 : sm_rt 16 = some (.int) := by decide +kernel
theorem cy16 : 2 ≤ sm_ml 16 ∧ sm_mt 16 ≠ none := ⟨by decide +kernel, fun h => by cases h⟩
theorem ml16 : sm_ml 16 = 5 := by decide +kernel
theorem rt17 : sm_rt 17 = none := by decide +kernel
theorem cy17 : 2 ≤ sm_ml 17 ∧ sm_mt 17 ≠ none := ⟨by decide +kernel, fun h => by cases h⟩
theorem ml17 : sm_ml 17 = 2 := by decide +kernel
theorem rt18 : sm_rt 18 = none := by decide +kernel
theorem cy18 : 2 ≤ sm_ml 18 ∧ sm_mt 18 ≠ none := ⟨by decide +kernel, fun h => by cases h⟩
theorem ml18 : sm_ml 18 = 2 := by decide +kernel
theorem rt19 : sm_rt 19 = some (.int) := by decide +kernel
theorem cy19 : 2 ≤ sm_ml 19 ∧ sm_mt 19 ≠ none := ⟨by decide +kernel, fun h => by cases h⟩
theorem ml19 : sm_ml 19 = 5 := by decide +kernel
theorem rt20 : sm_rt 20 = some (.int) := by decide +kernel
theorem cy20 : 2 ≤ sm_ml 20 ∧ sm_mt 20 ≠ none := ⟨by decide +kernel, fun h => by cases h⟩
theorem ml20 : sm_ml 20 = 2 := by decide +kernel
theorem rt21 : sm_rt 21 = some (.int) := by decide +kernel
theorem cy21 : 3 ≤ sm_ml 21 ∧ sm_mt 21 ≠ none := ⟨by decide +kernel, fun h => by cases h⟩
theorem ml21 : sm_ml 21 = 9 := by decide +kernel
theorem rt22 : sm_rt 22 = some (.boolean) := by decide +kernel
theorem cy22 : 2 ≤ sm_ml 22 ∧ sm_mt 22 ≠ none := ⟨by decide +kernel, fun h => by cases h⟩
theorem ml22 : sm_ml 22 = 2 := by decide +kernel
theorem rt23 : sm_rt 23 = some (.int) := by decide +kernel
theorem cy23 : 3 ≤ sm_ml 23 ∧ sm_mt 23 ≠ none := ⟨by decide +kernel, fun h => by cases h⟩
theorem ml23 : sm_ml 23 = 4 := by decide +kernel
theorem rt24 : sm_rt 24 = none := by decide +kernel
theorem cy24 : 1 ≤ sm_ml 24 ∧ sm_mt 24 ≠ none := ⟨by decide +kernel, fun h => by cases h⟩
theorem ml24 : sm_ml 24 = 1 := by decide +kernel
theorem rt25 : sm_rt 25 = some (.boolean) := by decide +kernel
theorem cy25 : 3 ≤ sm_ml 25 ∧ sm_mt 25 ≠ none := ⟨by decide +kernel, fun h => by cases h⟩
theorem ml25 : sm_ml 25 = 5 := by decide +kernel
theorem rt26 : sm_rt 26 = none := by decide +kernel
theorem cy26 : 1 ≤ sm_ml 26 ∧ sm_mt 26 ≠ none := ⟨by decide +kernel, fun h => by cases h⟩
theorem ml26 : sm_ml 26 = 2 := by decide +kernel
theorem rt27 : sm_rt 27 = none := by decide +kernel
theorem cy27 : 2 ≤ sm_ml 27 ∧ sm_mt 27 ≠ none := ⟨by decide +kernel, fun h => by cases h⟩
theorem ml27 : sm_ml 27 = 2 := by decide +kernel
theorem rt28 : sm_rt 28 = none := by decide +kernel
theorem cy28 : 2 ≤ sm_ml 28 ∧ sm_mt 28 ≠ none := ⟨by decide +kernel, fun h => by cases h⟩
theorem ml28 : sm_ml 28 = 4 := by decide +kernel
theorem rt29 : sm_rt 29 = none := by decide +kernel
theorem cy29 : 1 ≤ sm_ml 29 ∧ sm_mt 29 ≠ none := ⟨by decide +kernel, fun h => by cases h⟩
theorem ml29 : sm_ml 29 = 1 := by decide +kernel
theorem rt30 : sm_rt 30 = none := by decide +kernel
theorem cy30 : 2 ≤ sm_ml 30 ∧ sm_mt 30 ≠ none := ⟨by decide +kernel, fun h => by cases h⟩
theorem ml30 : sm_ml 30 = 4 := by decide +kernel
theorem rt31 : sm_rt 31 = none := by decide +kernel
theorem cy31 : 2 ≤ sm_ml 31 ∧ sm_mt 31 ≠ none := ⟨by decide +kernel, fun h => by cases h⟩
theorem ml31 : sm_ml 31 = 2 := by decide +kernel
theorem rt32 : sm_rt 32 = some (.object "StructureMap$Division") := by decide +kernel
theorem cy32 : 2 ≤ sm_ml 32 ∧ sm_mt 32 ≠ none := ⟨by decide +kernel, fun h => by cases h⟩
theorem ml32 : sm_ml 32 = 2 := by decide +kernel
theorem rt33 : sm_rt 33 = some (.object "StructureMap$Division") := by decide +kernel
theorem cy33 : 3 ≤ sm_ml 33 ∧ sm_mt 33 ≠ none := ⟨by decide +kernel, fun h => by cases h⟩
theorem ml33 : sm_ml 33 = 6 := by decide +kernel
theorem rt34 : sm_rt 34 = some (.object "StructureMap$Division") := by decide +kernel
theorem cy34 : 2 ≤ sm_ml 34 ∧ sm_mt 34 ≠ none := ⟨by decide +kernel, fun h => by cases h⟩
theorem ml34 : sm_ml 34 = 3 := by decide +kernel
theorem rt35 : sm_rt 35 = none := by decide +kernel
theorem cy35 : 1 ≤ sm_ml 35 ∧ sm_mt 35 ≠ none := ⟨by decide +kernel, fun h => by cases h⟩
theorem ml35 : sm_ml 35 = 1 := by decide +kernel
theorem rt36 : sm_rt 36 = none := by decide +kernel
theorem cy36 : 2 ≤ sm_ml 36 ∧ sm_mt 36 ≠ none := ⟨by decide +kernel, fun h => by cases h⟩
theorem ml36 : sm_ml 36 = 3 := by decide +kernel
theorem rt37 : sm_rt 37 = none := by decide +kernel
theorem cy37 : 3 ≤ sm_ml 37 ∧ sm_mt 37 ≠ none := ⟨by decide +kernel, fun h => by cases h⟩
theorem ml37 : sm_ml 37 = 4 := by decide +kernel
theorem rt38 : sm_rt 38 = some (.int) := by decide +kernel
theorem cy38 : 3 ≤ sm_ml 38 ∧ sm_mt 38 ≠ none := ⟨by decide +kernel, fun h => by cases h⟩
theorem ml38 : sm_ml 38 = 5 := by decide +kernel
theorem rt39 : sm_rt 39 = none := by decide +kernel
theorem cy39 : 1 ≤ sm_ml 39 ∧ sm_mt 39 ≠ none := ⟨by decide +kernel, fun h => by cases h⟩
theorem ml39 : sm_ml 39 = 1 := by decide +kernel
theorem rt40 : sm_rt 40 = none := by decide +kernel
theorem cy40 : 3 ≤ sm_ml 40 ∧ sm_mt 40 ≠ none := ⟨by decide +kernel, fun h => by cases h⟩
theorem ml40 : sm_ml 40 = 3 := by decide +kernel
theorem rt41 : sm_rt 41 = none := by decide +kernel
theorem cy41 : 1 ≤ sm_ml 41 ∧ sm_mt 41 ≠ none := ⟨by decide +kernel, fun h => by cases h⟩
theorem ml41 : sm_ml 41 = 1 := by decide +kernel
theorem rt42 : sm_rt 42 = none := by decide +kernel
theorem cy42 : 2 ≤ sm_ml 42 ∧ sm_mt 42 ≠ none := ⟨by decide +kernel, fun h => by cases h⟩
theorem ml42 : sm_ml 42 = 4 := by decide +kernel
theorem rt43 : sm_rt 43 = none := by decide +kernel
theorem cy43 : 2 ≤ sm_ml 43 ∧ sm_mt 43 ≠ none := ⟨by decide +kernel, fun h => by cases h⟩
theorem ml43 : sm_ml 43 = 2 := by decide +kernel
theorem rt44 : sm_rt 44 = none := by decide +kernel
theorem cy44 : 2 ≤ sm_ml 44 ∧ sm_mt 44 ≠ none := ⟨by decide +kernel, fun h => by cases h⟩
theorem ml44 : sm_ml 44 = 3 := by decide +kernel
theorem rt45 : sm_rt 45 = none := by decide +kernel
theorem cy45 : 3 ≤ sm_ml 45 ∧ sm_mt 45 ≠ none := ⟨by decide +kernel, fun h => by cases h⟩
theorem ml45 : sm_ml 45 = 3 := by decide +kernel
theorem rt46 : sm_rt 46 = none := by decide +kernel
theorem cy46 : 2 ≤ sm_ml 46 ∧ sm_mt 46 ≠ none := ⟨by decide +kernel, fun h => by cases h⟩
theorem ml46 : sm_ml 46 = 5 := by decide +kernel
theorem rt47 : sm_rt 47 = some (.boolean) := by decide +kernel
theorem cy47 : 2 ≤ sm_ml 47 ∧ sm_mt 47 ≠ none := ⟨by decide +kernel, fun h => by cases h⟩
theorem ml47 : sm_ml 47 = 6 := by decide +kernel
theorem rt48 : sm_rt 48 = some (.boolean) := by decide +kernel
theorem cy48 : 2 ≤ sm_ml 48 ∧ sm_mt 48 ≠ none := ⟨by decide +kernel, fun h => by cases h⟩
theorem ml48 : sm_ml 48 = 5 := by decide +kernel
theorem rt49 : sm_rt 49 = none := by decide +kernel
theorem cy49 : 3 ≤ sm_ml 49 ∧ sm_mt 49 ≠ none := ⟨by decide +kernel, fun h => by cases h⟩
theorem ml49 : sm_ml 49 = 3 := by decide +kernel
theorem rt50 : sm_rt 50 = none := by decide +kernel
theorem cy50 : 5 ≤ sm_ml 50 ∧ sm_mt 50 ≠ none := ⟨by decide +kernel, fun h => by cases h⟩
theorem ml50 : sm_ml 50 = 5 := by decide +kernel
theorem rt51 : sm_rt 51 = none := by decide +kernel
theorem cy51 : 2 ≤ sm_ml 51 ∧ sm_mt 51 ≠ none := ⟨by decide +kernel, fun h => by cases h⟩
theorem ml51 : sm_ml 51 = 5 := by decide +kernel
theorem rt52 : sm_rt 52 = some (.boolean) := by decide +kernel
theorem cy52 : 2 ≤ sm_ml 52 ∧ sm_mt 52 ≠ none := ⟨by decide +kernel, fun h => by cases h⟩
theorem ml52 : sm_ml 52 = 2 := by decide +kernel
theorem rt53 : sm_rt 53 = some (.boolean) := by decide +kernel
theorem cy53 : 1 ≤ sm_ml 53 ∧ sm_mt 53 ≠ none := ⟨by decide +kernel, fun h => by cases h⟩
theorem ml53 : sm_ml 53 = 1 := by decide +kernel
theorem rt54 : sm_rt 54 = none := by decide +kernel
theorem cy54 : 2 ≤ sm_ml 54 ∧ sm_mt 54 ≠ none := ⟨by decide +kernel, fun h => by cases h⟩
theorem ml54 : sm_ml 54 = 5 := by decide +kernel
theorem rt55 : sm_rt 55 = some (.object "StructureMap$Division") := by decide +kernel
theorem cy55 : 2 ≤ sm_ml 55 ∧ sm_mt 55 ≠ none := ⟨by decide +kernel, fun h => by cases h⟩
theorem ml55 : sm_ml 55 = 4 := by decide +kernel
theorem rt56 : sm_rt 56 = some (.boolean) := by decide +kernel
theorem cy56 : 1 ≤ sm_ml 56 ∧ sm_mt 56 ≠ none := ⟨by decide +kernel, fun h => by cases h⟩
theorem ml56 : sm_ml 56 = 3 := by decide +kernel
theorem rt57 : sm_rt 57 = some (.boolean) := by decide +kernel
theorem cy57 : 1 ≤ sm_ml 57 ∧ sm_mt 57 ≠ none := ⟨by decide +kernel, fun h => by cases h⟩
theorem ml57 : sm_ml 57 = 3 := by decide +kernel
theorem rt58 : sm_rt 58 = some (.int) := by decide +kernel
theorem cy58 : 1 ≤ sm_ml 58 ∧ sm_mt 58 ≠ none := ⟨by decide +kernel, fun h => by cases h⟩
theorem ml58 : sm_ml 58 = 4 := by decide +kernel
theorem rt59 : sm_rt 59 = some (.int) := by decide +kernel
theorem cy59 : 1 ≤ sm_ml 59 ∧ sm_mt 59 ≠ none := ⟨by decide +kernel, fun h => by cases h⟩
theorem ml59 : sm_ml 59 = 4 := by decide +kernel
theorem rt60 : sm_rt 60 = none := by decide +kernel
theorem cy60 : 5 ≤ sm_ml 60 ∧ sm_mt 60 ≠ none := ⟨by decide +kernel, fun h => by cases h⟩
theorem ml60 : sm_ml 60 = 5 := by decide +kernel
theorem rt61 : sm_rt 61 = some (.int) := by decide +kernel
theorem cy61 : 2 ≤ sm_ml 61 ∧ sm_mt 61 ≠ none := ⟨by decide +kernel, fun h => by cases h⟩
theorem ml61 : sm_ml 61 = 3 := by decide +kernel
theorem rt62 : sm_rt 62 = none := by decide +kernel
theorem cy62 : 1 ≤ sm_ml 62 ∧ sm_mt 62 ≠ none := ⟨by decide +kernel, fun h => by cases h⟩
theorem ml62 : sm_ml 62 = 1 := by decide +kernel
theorem rt63 : sm_rt 63 = some (.int) := by decide +kernel
theorem cy63 : 1 ≤ sm_ml 63 ∧ sm_mt 63 ≠ none := ⟨by decide +kernel, fun h => by cases h⟩
theorem ml63 : sm_ml 63 = 1 := by decide +kernel
theorem rt64 : sm_rt 64 = some (.int) := by decide +kernel
theorem cy64 : 2 ≤ sm_ml 64 ∧ sm_mt 64 ≠ none := ⟨by decide +kernel, fun h => by cases h⟩
theorem ml64 : sm_ml 64 = 2 := by decide +kernel
theorem rt65 : sm_rt 65 = some (.boolean) := by decide +kernel
theorem cy65 : 3 ≤ sm_ml 65 ∧ sm_mt 65 ≠ none := ⟨by decide +kernel, fun h => by cases h⟩
theorem ml65 : sm_ml 65 = 3 := by decide +kernel
theorem rt66 : sm_rt 66 = some (.int) := by decide +kernel
theorem cy66 : 3 ≤ sm_ml 66 ∧ sm_mt 66 ≠ none := ⟨by decide +kernel, fun h => by cases h⟩
theorem ml66 : sm_ml 66 = 4 := by decide +kernel
theorem rt67 : sm_rt 67 = some (.boolean) := by decide +kernel
theorem cy67 : 2 ≤ sm_ml 67 ∧ sm_mt 67 ≠ none := ⟨by decide +kernel, fun h => by cases h⟩
theorem ml67 : sm_ml 67 = 2 := by decide +kernel
theorem rt68 : sm_rt 68 = some (.int) := by decide +kernel
theorem cy68 : 2 ≤ sm_ml 68 ∧ sm_mt 68 ≠ none := ⟨by decide +kernel, fun h => by cases h⟩
theorem ml68 : sm_ml 68 = 2 := by decide +kernel
theorem rt69 : sm_rt 69 = some (.int) := by decide +kernel
theorem cy69 : 5 ≤ sm_ml 69 ∧ sm_mt 69 ≠ none := ⟨by decide +kernel, fun h => by cases h⟩
theorem ml69 : sm_ml 69 = 5 := by decide +kernel
theorem rt70 : sm_rt 70 = some (.boolean) := by decide +kernel
theorem cy70 : 2 ≤ sm_ml 70 ∧ sm_mt 70 ≠ none := ⟨by decide +kernel, fun h => by cases h⟩
theorem ml70 : sm_ml 70 = 2 := by decide +kernel
theorem rt71 : sm_rt 71 = some (.boolean) := by decide +kernel
theorem cy71 : 2 ≤ sm_ml 71 ∧ sm_mt 71 ≠ none := ⟨by decide +kernel, fun h => by cases h⟩
theorem ml71 : sm_ml 71 = 2 := by decide +kernel
theorem rt72 : sm_rt 72 = some (.int) := by decide +kernel
theorem cy72 : 5 ≤ sm_ml 72 ∧ sm_mt 72 ≠ none := ⟨by decide +kernel, fun h => by cases h⟩
theorem ml72 : sm_ml 72 = 6 := by decide +kernel
theorem rt73 : sm_rt 73 = some (.int) := by decide +kernel
theorem cy73 : 3 ≤ sm_ml 73 ∧ sm_mt 73 ≠ none := ⟨by decide +kernel, fun h => by cases h⟩
theorem ml73 : sm_ml 73 = 4 := by decide +kernel
theorem rt74 : sm_rt 74 = some (.int) := by decide +kernel
theorem cy74 : 2 ≤ sm_ml 74 ∧ sm_mt 74 ≠ none := ⟨by decide +kernel, fun h => by cases h⟩
theorem ml74 : sm_ml 74 = 4 := by decide +kernel
theorem rt75 : sm_rt 75 = some (.boolean) := by decide +kernel
theorem cy75 : 3 ≤ sm_ml 75 ∧ sm_mt 75 ≠ none := ⟨by decide +kernel, fun h => by cases h⟩
theorem ml75 : sm_ml 75 = 5 := by decide +kernel
theorem rt76 : sm_rt 76 = none := by decide +kernel
theorem cy76 : 2 ≤ sm_ml 76 ∧ sm_mt 76 ≠ none := ⟨by decide +kernel, fun h => by cases h⟩
theorem ml76 : sm_ml 76 = 6 := by decide +kernel
theorem rt77 : sm_rt 77 = some (.int) := by decide +kernel
theorem cy77 : 3 ≤ sm_ml 77 ∧ sm_mt 77 ≠ none := ⟨by decide +kernel, fun h => by cases h⟩
theorem ml77 : sm_ml 77 = 6 := by decide +kernel
theorem rt78 : sm_rt 78 = some (.boolean) := by decide +kernel
theorem cy78 : 3 ≤ sm_ml 78 ∧ sm_mt 78 ≠ none := ⟨by decide +kernel, fun h => by cases h⟩
theorem ml78 : sm_ml 78 = 4 := by decide +kernel
theorem rt79 : sm_rt 79 = some (.int) := by decide +kernel
theorem cy79 : 3 ≤ sm_ml 79 ∧ sm_mt 79 ≠ none := ⟨by decide +kernel, fun h => by cases h⟩
theorem ml79 : sm_ml 79 = 3 := by decide +kernel
theorem rt80 : sm_rt 80 = none := by decide +kernel
theorem cy80 : 2 ≤ sm_ml 80 ∧ sm_mt 80 ≠ none := ⟨by decide +kernel, fun h => by cases h⟩
theorem ml80 : sm_ml 80 = 3 := by decide +kernel
theorem rt81 : sm_rt 81 = none := by decide +kernel
theorem cy81 : 3 ≤ sm_ml 81 ∧ sm_mt 81 ≠ none := ⟨by decide +kernel, fun h => by cases h⟩
theorem ml81 : sm_ml 81 = 7 := by decide +kernel
theorem rt82 : sm_rt 82 = some (.int) := by decide +kernel
theorem cy82 : 2 ≤ sm_ml 82 ∧ sm_mt 82 ≠ none := ⟨by decide +kernel, fun h => by cases h⟩
theorem ml82 : sm_ml 82 = 4 := by decide +kernel
theorem rt83 : sm_rt 83 = some (.int) := by decide +kernel
theorem cy83 : 2 ≤ sm_ml 83 ∧ sm_mt 83 ≠ none := ⟨by decide +kernel, fun h => by cases h⟩
theorem ml83 : sm_ml 83 = 2 := by decide +kernel
theorem rt84 : sm_rt 84 = some (.int) := by decide +kernel
theorem cy84 : 3 ≤ sm_ml 84 ∧ sm_mt 84 ≠ none := ⟨by decide +kernel, fun h => by cases h⟩
theorem ml84 : sm_ml 84 = 8 := by decide +kernel
theorem rt85 : sm_rt 85 = some (.int) := by decide +kernel
theorem cy85 : 3 ≤ sm_ml 85 ∧ sm_mt 85 ≠ none := ⟨by decide +kernel, fun h => by cases h⟩
theorem ml85 : sm_ml 85 = 3 := by decide +kernel
theorem rt86 : sm_rt 86 = some (.int) := by decide +kernel
theorem cy86 : 2 ≤ sm_ml 86 ∧ sm_mt 86 ≠ none := ⟨by decide +kernel, fun h => by cases h⟩
theorem ml86 : sm_ml 86 = 3 := by decide +kernel
theorem rt87 : sm_rt 87 = none := by decide +kernel
theorem cy87 : 2 ≤ sm_ml 87 ∧ sm_mt 87 ≠ none := ⟨by decide +kernel, fun h => by cases h⟩
theorem ml87 : sm_ml 87 = 5 := by decide +kernel
theorem rt88 : sm_rt 88 = none := by decide +kernel
theorem cy88 : 3 ≤ sm_ml 88 ∧ sm_mt 88 ≠ none := ⟨by decide +kernel, fun h => by cases h⟩
theorem ml88 : sm_ml 88 = 3 := by decide +kernel
theorem rt89 : sm_rt 89 = none := by decide +kernel
theorem cy89 : 2 ≤ sm_ml 89 ∧ sm_mt 89 ≠ none := ⟨by decide +kernel, fun h => by cases h⟩
theorem ml89 : sm_ml 89 = 10 := by decide +kernel
theorem rt90 : sm_rt 90 = some (.int) := by decide +kernel
theorem cy90 : 3 ≤ sm_ml 90 ∧ sm_mt 90 ≠ none := ⟨by decide +kernel, fun h => by cases h⟩
theorem ml90 : sm_ml 90 = 3 := by decide +kernel
theorem rt91 : sm_rt 91 = some (.int) := by decide +kernel
theorem cy91 : 2 ≤ sm_ml 91 ∧ sm_mt 91 ≠ none := ⟨by decide +kernel, fun h => by cases h⟩
theorem ml91 : sm_ml 91 = 5 := by decide +kernel
theorem rt92 : sm_rt 92 = none := by decide +kernel
theorem cy92 : 2 ≤ sm_ml 92 ∧ sm_mt 92 ≠ none := ⟨by decide +kernel, fun h => by cases h⟩
theorem ml92 : sm_ml 92 = 2 := by decide +kernel
theorem rt93 : sm_rt 93 = some (.int) := by decide +kernel
theorem cy93 : 2 ≤ sm_ml 93 ∧ sm_mt 93 ≠ none := ⟨by decide +kernel, fun h => by cases h⟩
theorem ml93 : sm_ml 93 = 2 := by decide +kernel
theorem rt94 : sm_rt 94 = some (.int) := by decide +kernel
theorem cy94 : 3 ≤ sm_ml 94 ∧ sm_mt 94 ≠ none := ⟨by decide +kernel, fun h => by cases h⟩
theorem ml94 : sm_ml 94 = 6 := by decide +kernel
theorem rt95 : sm_rt 95 = some (.int) := by decide +kernel
theorem cy95 : 3 ≤ sm_ml 95 ∧ sm_mt 95 ≠ none := ⟨by decide +kernel, fun h => by cases h⟩
theorem ml95 : sm_ml 95 = 5 := by decide +kernel
theorem rt96 : sm_rt 96 = none := by decide +kernel
theorem cy96 : 2 ≤ sm_ml 96 ∧ sm_mt 96 ≠ none := ⟨by decide +kernel, fun h => by cases h⟩
theorem ml96 : sm_ml 96 = 4 := by decide +kernel
theorem rt97 : sm_rt 97 = some (.int) := by decide +kernel
theorem cy97 : 2 ≤ sm_ml 97 ∧ sm_mt 97 ≠ none := ⟨by decide +kernel, fun h => by cases h⟩
theorem ml97 : sm_ml 97 = 2 := by decide +kernel
theorem rt98 : sm_rt 98 = some (.boolean) := by decide +kernel
theorem cy98 : 1 ≤ sm_ml 98 ∧ sm_mt 98 ≠ none := ⟨by decide +kernel, fun h => by cases h⟩
theorem ml98 : sm_ml 98 = 7 := by decide +kernel
