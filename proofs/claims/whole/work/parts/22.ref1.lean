/-! THE REFERENCE'S SMALL METHODS -/
theorem rI_rng {f : Int32} {n : Nat} (hn : n ≤ 1000000) : (0 ≤ f ∧ f ≤ nI n - 1) ↔ ∃ i, i < n ∧ f = nI i := by
  have h1 : (nI n - 1).toInt = (n : Int) - 1 := by
    have h2 := pk_sub_toInt (a := n) (b := 1) (by omega) (by omega)
    exact h2
  constructor
  · rintro ⟨a, b⟩
    rw [Int32.le_iff_toInt_le] at a b
    rw [h1] at b
    rw [Int32.toInt_zero] at a
    obtain ⟨j, hj, rfl⟩ := nI_of (x := f) (fun q => by rw [Int32.lt_iff_toInt_lt, Int32.toInt_zero] at q; omega)
    rw [nI_toInt hj] at b
    exact ⟨j, by omega, rfl⟩
  · rintro ⟨i, hi, rfl⟩
    refine ⟨nI_pos' (by omega), ?_⟩
    rw [Int32.le_iff_toInt_le, h1, nI_toInt (by omega)]
    omega
theorem rI_rg2 {f : Int32} {n : Nat} {m : Int32} (hm : m = nI n) (hn : n ≤ 1000000) : (0 ≤ f ∧ f ≤ m) ↔ ∃ i, i ≤ n ∧ f = nI i := by
  subst hm
  constructor
  · rintro ⟨a, b⟩
    obtain ⟨j, hj, rfl⟩ := nI_of (x := f) (fun q => by rw [Int32.le_iff_toInt_le, Int32.toInt_zero] at a; rw [Int32.lt_iff_toInt_lt, Int32.toInt_zero] at q; omega)
    rw [nI_leI hj (by omega)] at b
    exact ⟨j, b, rfl⟩
  · rintro ⟨i, hi, rfl⟩
    exact ⟨nI_pos' (by omega), nI_le hi (by omega)⟩
section RS
variable {ext : av_X} {X : rX} {W : rW}
/-- in(v, low, high) -/
theorem r_in (v lo hi : Int32) : rCi ext X 0 65 [.int v, .int lo, .int hi] W (fun x W' => W' = W ∧ x = if lo ≤ v ∧ v ≤ hi then 1 else 0) := by
  refine rCi.of (L := [some (.int v), some (.int lo), some (.int hi)]) (by rw [ml65]; rfl) ?_
  refine br65_0 (fun h => ?_) (fun h => ?_)
  · refine br65_14 (br65_15 (Or.inl rfl) ⟨0, rfl, rfl, ?_⟩)
    rw [if_neg (fun z => Int32.not_lt.mpr z.1 h)]
  · refine br65_5 (fun h2 => ?_) (fun h2 => ?_)
    · refine br65_14 (br65_15 (Or.inl rfl) ⟨0, rfl, rfl, ?_⟩)
      rw [if_neg (fun z => Int32.not_lt.mpr z.2 h2)]
    · refine br65_10 (br65_15 (Or.inr rfl) ⟨1, rfl, rfl, ?_⟩)
      rw [if_pos ⟨Int32.not_lt.mp h, Int32.not_lt.mp h2⟩]
theorem r_01 {c : Prop} [Decidable c] : (if c then (1 : Int32) else 0) = 0 ∨ (if c then (1 : Int32) else 0) = 1 := by
  by_cases h : c
  · rw [if_pos h]; exact Or.inr rfl
  · rw [if_neg h]; exact Or.inl rfl
/-- thrown() -/
theorem r_thrown : rCi ext X 0 63 [.ref X.1] W (fun x W' => W' = W ∧ x = W.2 0) := by
  refine rCi.of (L := [some (.ref X.1)]) (by rw [ml63]; rfl) ?_
  exact br63_0 ⟨_, rfl, rfl, rfl⟩
theorem r_isFile (f : Int32) : rCi ext X 1 67 [.ref X.1, .int f] W (fun x W' => W' = W ∧ x = if 0 ≤ f ∧ f ≤ W.2 1 - 1 then 1 else 0) := by
  refine rCi.of (L := [some (.ref X.1), some (.int f)]) (by rw [ml67]; rfl) ?_
  refine br67_0 (r_in _ _ _) ?_
  rintro v W1 ⟨rfl, rfl⟩
  exact br67_11 r_01 ⟨_, rfl, rfl, rfl⟩
theorem r_isMap (f : Int32) : rCi ext X 1 70 [.ref X.1, .int f] W (fun x W' => W' = W ∧ x = if 0 ≤ f ∧ f ≤ W.2 3 - 1 then 1 else 0) := by
  refine rCi.of (L := [some (.ref X.1), some (.int f)]) (by rw [ml70]; rfl) ?_
  refine br70_0 (r_in _ _ _) ?_
  rintro v W1 ⟨rfl, rfl⟩
  exact br70_11 r_01 ⟨_, rfl, rfl, rfl⟩
theorem r_isDiv (f : Int32) : rCi ext X 1 71 [.ref X.1, .int f] W (fun x W' => W' = W ∧ x = if 0 ≤ f ∧ f ≤ W.2 5 - 1 then 1 else 0) := by
  refine rCi.of (L := [some (.ref X.1), some (.int f)]) (by rw [ml71]; rfl) ?_
  refine br71_0 (r_in _ _ _) ?_
  rintro v W1 ⟨rfl, rfl⟩
  exact br71_11 r_01 ⟨_, rfl, rfl, rfl⟩
end RS
