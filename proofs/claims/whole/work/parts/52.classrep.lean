/-! WHAT THE CLASS'S CELLS HOLD -/
def c_ix (c : Nat ⊕ Nat) : Nat := match c with
  | .inl d => d
  | .inr m => 1000 + m
def c_pa (A : mS) (d : Nat) : Nat ⊕ Nat := match m_un A d with
  | some p => .inl p
  | none => .inr (m_mp A d)
def c_ok (A : mS) (c : Nat ⊕ Nat) : Prop := match c with
  | .inl d => d < m_nD A
  | .inr m => m < m_nM A
def c_lvD (A : mS) (i : Nat) : Prop := i < m_nD A ∨ (1000 ≤ i ∧ i < 1000 + m_nM A)
def c_lvL (A : mS) (i : Nat) : Prop := ∃ d j e, d < m_nD A ∧ (m_lk A d)[j]? = some e ∧ i = 5 * d + j
def c_lv (A : mS) (s i : Nat) : Prop := match s with
  | 6 => i < m_nF A
  | 7 => i < m_nM A
  | 8 => c_lvD A i
  | 34 => c_lvD A i
  | 9 => c_lvL A i
  | s => i = 0 ∧ (s < 6 ∨ (20 ≤ s ∧ s < 34))
/-- a link's file, beginning, end -/
def m_lnk (A : mS) (t : Nat) : Nat × Nat × Nat := (m_lk A (t / 5)).getD (t % 5) (0, 0, 0)
def c_gN (A : mS) (T : cT) : Prop := T.1 0 0 1 = nI (m_nF A) ∧ T.1 0 0 3 = nI (m_nM A) ∧ T.1 0 0 5 = nI (m_nD A)
def c_gF (A : mS) (T : cT) : Prop := ∀ f, f < m_nF A → T.2 20 0 f = some f ∧ T.1 6 f 0 = nI f ∧ T.1 6 f 1 = nI (m_fz A f)
def c_gM (A : mS) (T : cT) : Prop := ∀ m, m < m_nM A → T.2 21 0 m = some m ∧ T.1 7 m 0 = nI (m_kd A m) ∧ T.2 7 m 1 = some (1000 + m) ∧ T.1 8 (1000 + m) 0 = -1 ∧ T.1 8 (1000 + m) 1 = nI m ∧ T.2 8 (1000 + m) 9 = none
def c_gD (A : mS) (T : cT) : Prop := ∀ d, d < m_nD A → T.2 22 0 d = some d ∧ T.1 8 d 0 = nI d ∧ T.1 8 d 1 = nI (m_mp A d) ∧ T.1 8 d 2 = nI (m_od A d) ∧ T.1 8 d 3 = nI (m_lb A d) ∧ T.1 8 d 5 = nI (m_lk A d).length ∧ T.2 8 d 6 = some (c_ix (c_pa A d)) ∧ T.2 8 d 9 = m_rp A d
def c_chn (T : cT) (s k : Nat) (l : List Nat) : Prop := ∀ l1 x l2, l = l1 ++ x :: l2 → T.2 s x k = l2.head?
def c_gK (A : mS) (T : cT) : Prop := ∀ c, c_ok A c → T.2 8 (c_ix c) 7 = (m_kids A c).head? ∧ c_chn T 8 8 (m_kids A c)
def c_gL (A : mS) (T : cT) : Prop := ∀ d j e, d < m_nD A → (m_lk A d)[j]? = some e → T.2 34 d j = some (5 * d + j) ∧ T.2 9 (5 * d + j) 0 = some d ∧ T.2 9 (5 * d + j) 1 = some e.1 ∧ T.1 9 (5 * d + j) 2 = nI e.2.1 ∧ T.1 9 (5 * d + j) 3 = nI e.2.2
def c_gC (A : mS) (T : cT) : Prop := ∀ f, f < m_nF A → ∃ l : List Nat, T.2 6 f 2 = l.head? ∧ c_chn T 9 4 l ∧ l.Nodup ∧ (∀ t, t ∈ l ↔ (c_lvL A t ∧ (m_lnk A t).1 = f)) ∧ l.Pairwise (fun t u => (m_lnk A t).2.1 ≤ (m_lnk A u).2.1)
def c_gS (A : mS) (T : cT) : Prop := T.1 3 0 2 = nI (m_st A).length ∧ ∀ i e, (m_st A)[i]? = some e → (∃ t, T.2 29 0 i = some t ∧ c_lvL A t ∧ t / 5 = e.1 ∧ m_lnk A t = (e.2.1, e.2.2.1, e.2.2.2.1)) ∧ T.2 30 0 i = some e.2.2.2.2 ∧ e.2.2.2.2 < m_nD A
def c_gT (A : mS) (T : cT) : Prop := T.1 4 0 2 = nI (m_ft A).length ∧ ∀ i e, (m_ft A)[i]? = some e → T.1 31 0 i = nI e.1 ∧ T.1 32 0 i = nI e.2
def c_gP (A : mS) (T : cT) : Prop := T.1 5 0 1 = nI (m_sg A).length ∧ ∀ i c, (m_sg A)[i]? = some c → T.1 33 0 i = nI c
def c_G (A : mS) (T : cT) : Prop := c_gN A T ∧ c_gF A T ∧ c_gM A T ∧ c_gD A T ∧ c_gK A T ∧ c_gL A T ∧ c_gC A T
def c_RA (A : mS) (T : cT) : Prop := c_G A T ∧ c_gS A T ∧ c_gT A T ∧ c_gP A T
def c_X (A : mS) (X : cX) : Prop := ∀ s i, X.2.1 s i ↔ c_lv A s i
theorem c_G.cong {A : mS} {T T' : cT} (h : c_G A T) (h1 : ∀ s, s ∈ [0, 6, 7, 8, 9, 20, 21, 22, 34] → T'.1 s = T.1 s ∧ T'.2 s = T.2 s) : c_G A T' := by
  have a0 := h1 0 (by decide)
  have a6 := h1 6 (by decide)
  have a7 := h1 7 (by decide)
  have a8 := h1 8 (by decide)
  have a9 := h1 9 (by decide)
  have a20 := h1 20 (by decide)
  have a21 := h1 21 (by decide)
  have a22 := h1 22 (by decide)
  have a34 := h1 34 (by decide)
  unfold c_G c_gN c_gF c_gM c_gD c_gK c_gL c_gC c_chn
  rw [a0.1, a6.1, a6.2, a7.1, a7.2, a8.1, a8.2, a9.1, a9.2, a20.2, a21.2, a22.2, a34.2]
  exact h
theorem c_gS.cong {A : mS} {T T' : cT} (h : c_gS A T) (h1 : ∀ s, s ∈ [3, 29, 30] → T'.1 s = T.1 s ∧ T'.2 s = T.2 s) : c_gS A T' := by
  have a3 := h1 3 (by decide)
  have a29 := h1 29 (by decide)
  have a30 := h1 30 (by decide)
  unfold c_gS
  rw [a3.1, a29.2, a30.2]
  exact h
theorem c_gT.cong {A : mS} {T T' : cT} (h : c_gT A T) (h1 : ∀ s, s ∈ [4, 31, 32] → T'.1 s = T.1 s ∧ T'.2 s = T.2 s) : c_gT A T' := by
  have a3 := h1 4 (by decide)
  have a29 := h1 31 (by decide)
  have a30 := h1 32 (by decide)
  unfold c_gT
  rw [a3.1, a29.1, a30.1]
  exact h
theorem c_gP.cong {A : mS} {T T' : cT} (h : c_gP A T) (h1 : ∀ s, s ∈ [5, 33] → T'.1 s = T.1 s ∧ T'.2 s = T.2 s) : c_gP A T' := by
  have a3 := h1 5 (by decide)
  have a29 := h1 33 (by decide)
  unfold c_gP
  rw [a3.1, a29.1]
  exact h
/-- all but these sorts is as it was -/
def c_sm (ss : List Nat) (T T' : cT) : Prop := ∀ s, s ∉ ss → T'.1 s = T.1 s ∧ T'.2 s = T.2 s
theorem c_sm.rf (ss : List Nat) (T : cT) : c_sm ss T T := fun _ _ => ⟨rfl, rfl⟩
theorem c_sm.tr {ss : List Nat} {T T1 T2 : cT} (h : c_sm ss T T1) (h2 : c_sm ss T1 T2) : c_sm ss T T2 := fun s hs => ⟨(h2 s hs).1.trans (h s hs).1, (h2 s hs).2.trans (h s hs).2⟩
theorem c_sm.wk {ss tt : List Nat} {T T' : cT} (h : c_sm ss T T') (hs : ∀ s, s ∈ ss → s ∈ tt) : c_sm tt T T' := fun s hn => h s (fun q => hn (hs s q))
theorem c_sm.i {ss : List Nat} {T T' : cT} (h : c_sm ss T T') {s : Nat} (i k : Nat) (x : Int32) (hs : s ∈ ss) : c_sm ss T (iset T' s i k x) := fun s' hn => by
  have e : s' ≠ s := fun e => hn (e ▸ hs)
  refine ⟨?_, (h s' hn).2⟩
  rw [← (h s' hn).1]
  funext i' k'
  exact iset_n _ _ (fun q => e q.1)
theorem c_sm.o {ss : List Nat} {T T' : cT} (h : c_sm ss T T') {s : Nat} (i k : Nat) (x : Option Nat) (hs : s ∈ ss) : c_sm ss T (oset T' s i k x) := fun s' hn => by
  have e : s' ≠ s := fun e => hn (e ▸ hs)
  refine ⟨(h s' hn).1, ?_⟩
  rw [← (h s' hn).2]
  funext i' k'
  exact oset_n _ _ (fun q => e q.1)
theorem c_sm.G {ss : List Nat} {A : mS} {T T' : cT} (h : c_sm ss T T') (hG : c_G A T) (hs : ∀ s, s ∈ [0, 6, 7, 8, 9, 20, 21, 22, 34] → s ∉ ss) : c_G A T' := hG.cong (fun s a => h s (hs s a))
section CF
variable {ext : av_X} {X : cX} {T : cT} {A : mS}
theorem c_X.z (h : c_X A X) {s : Nat} (hs : s < 6 ∨ (20 ≤ s ∧ s < 34)) : X.2.1 s 0 := by
  rw [h]
  unfold c_lv
  split
  · omega
  · omega
  · omega
  · omega
  · omega
  · exact ⟨rfl, hs⟩
theorem c_X.d (h : c_X A X) {d : Nat} (hd : d < m_nD A) : X.2.1 8 d := (h 8 d).mpr (Or.inl hd)
theorem c_X.c (h : c_X A X) {c : Nat ⊕ Nat} (hc : c_ok A c) : X.2.1 8 (c_ix c) := by
  cases c with
  | inl d => exact h.d hc
  | inr m =>
    have hc' : m < m_nM A := hc
    exact (h 8 _).mpr (Or.inr ⟨by show 1000 ≤ 1000 + m; omega, by show 1000 + m < _; omega⟩)
theorem c_X.m (h : c_X A X) {m : Nat} (hm : m < m_nM A) : X.2.1 7 m := (h 7 m).mpr hm
theorem c_X.f (h : c_X A X) {f : Nat} (hf : f < m_nF A) : X.2.1 6 f := (h 6 f).mpr hf
theorem cI_not {x : Int32} : ¬ x < 0 → 0 ≤ x := fun h => by
  rw [Int32.lt_iff_toInt_lt] at h
  rw [Int32.le_iff_toInt_le]
  omega
theorem cI_nlt {x y : Int32} : ¬ x < y ↔ y ≤ x := by
  rw [Int32.lt_iff_toInt_lt, Int32.le_iff_toInt_le]
  omega
/-- a number in the range, or not -/
theorem cI_rng {x : Int32} {n : Nat} (hn : n ≤ 1000000) : (x < 0 ∧ ¬ (0 ≤ x ∧ x ≤ nI n - 1)) ∨ (¬ x < 0 ∧ ¬ x < nI n ∧ ¬ (0 ≤ x ∧ x ≤ nI n - 1)) ∨ (∃ i, i < n ∧ x = nI i ∧ ¬ x < 0 ∧ x < nI n ∧ (0 ≤ x ∧ x ≤ nI n - 1)) := by
  by_cases h : 0 ≤ x ∧ x ≤ nI n - 1
  · obtain ⟨i, hi, rfl⟩ := (rI_rng hn).mp h
    exact Or.inr (Or.inr ⟨i, hi, rfl, nI_pos (by omega), (nI_ltI (by omega) (by omega)).mpr hi, h⟩)
  · by_cases c : x < 0
    · exact Or.inl ⟨c, h⟩
    · refine Or.inr (Or.inl ⟨c, fun q => h ?_, h⟩)
      obtain ⟨j, hj, rfl⟩ := nI_of c
      exact (rI_rng hn).mpr ⟨j, (nI_ltI (by omega) (by omega)).mp q, rfl⟩
theorem c_isSize (x : Int32) : cCi ext X 0 2 [.int x] T (fun v T' => T' = T ∧ v = if 0 ≤ x ∧ x ≤ 100000 then 1 else 0) := by
  refine cCi.of (L := [some (.int x)]) (by rw [ml2]; rfl) ?_
  refine bc2_0 (fun c => ?_) (fun c => ?_)
  · refine bc2_14 (bc2_15 (Or.inl rfl) (cQi.e ⟨rfl, ?_⟩))
    rw [if_neg]
    rintro ⟨a, -⟩
    rw [Int32.lt_iff_toInt_lt] at c
    rw [Int32.le_iff_toInt_le] at a
    omega
  · refine bc2_4 (fun c2 => ?_) (fun c2 => ?_)
    · refine bc2_14 (bc2_15 (Or.inl rfl) (cQi.e ⟨rfl, ?_⟩))
      rw [if_neg]
      rintro ⟨-, a⟩
      rw [Int32.lt_iff_toInt_lt] at c2
      rw [Int32.le_iff_toInt_le] at a
      omega
    · refine bc2_10 (bc2_15 (Or.inr rfl) (cQi.e ⟨rfl, ?_⟩))
      rw [if_pos ⟨cI_not c, cI_nlt.mp c2⟩]
theorem c_findFile (hI : m_Inv A) (hX : c_X A X) (h : c_G A T) (x : Int32) : cCr ext X 6 0 4 [cv X 0 (some 0), .int x] T (fun o T' => T' = T ∧ o = if 0 ≤ x ∧ x ≤ nI (m_nF A) - 1 then some x.toNatClampNeg else none) := by
  have hn := hI.1.1
  have l0 := hX.z (s := 0) (by decide)
  refine cCr.of (L := [some (cv X 0 (some 0)), some (.int x)]) (by rw [ml4]; rfl) ?_
  rcases cI_rng (x := x) (n := m_nF A) (by omega) with ⟨a, b⟩ | ⟨a, b, c⟩ | ⟨i, hi, rfl, a, b, c⟩
  · exact bc4_0 (fun _ => bc4_12 (bc4_22 (cQr.e ⟨rfl, by rw [if_neg b]⟩))) (fun q => absurd a q)
  · refine bc4_0 (fun q => absurd q a) (fun _ => bc4_4 l0 (fun q => absurd q ?_) (fun _ => bc4_12 (bc4_22 (cQr.e ⟨rfl, by rw [if_neg c]⟩))))
    rw [h.1.1]; exact b
  · refine bc4_0 (fun q => absurd q a) (fun _ => bc4_4 l0 (fun _ => ?_) (fun q => absurd (by rw [h.1.1]; exact b) q))
    refine bc4_16 (i_2 := i) l0 rfl (by omega) (bc4_22 (cQr.e ⟨rfl, ?_⟩))
    rw [if_pos c, nI_clamp (by omega), (h.2.1 i hi).1]
theorem c_findTree (hI : m_Inv A) (hX : c_X A X) (h : c_G A T) (x : Int32) : cCr ext X 7 0 7 [cv X 0 (some 0), .int x] T (fun o T' => T' = T ∧ o = if 0 ≤ x ∧ x ≤ nI (m_nM A) - 1 then some x.toNatClampNeg else none) := by
  have hn := hI.2.1.1
  have l0 := hX.z (s := 0) (by decide)
  refine cCr.of (L := [some (cv X 0 (some 0)), some (.int x)]) (by rw [ml7]; rfl) ?_
  rcases cI_rng (x := x) (n := m_nM A) (by omega) with ⟨a, b⟩ | ⟨a, b, c⟩ | ⟨i, hi, rfl, a, b, c⟩
  · exact bc7_0 (fun _ => bc7_12 (bc7_22 (cQr.e ⟨rfl, by rw [if_neg b]⟩))) (fun q => absurd a q)
  · refine bc7_0 (fun q => absurd q a) (fun _ => bc7_4 l0 (fun q => absurd q ?_) (fun _ => bc7_12 (bc7_22 (cQr.e ⟨rfl, by rw [if_neg c]⟩))))
    rw [h.1.2.1]; exact b
  · refine bc7_0 (fun q => absurd q a) (fun _ => bc7_4 l0 (fun _ => ?_) (fun q => absurd (by rw [h.1.2.1]; exact b) q))
    refine bc7_16 (i_2 := i) l0 rfl (by omega) (bc7_22 (cQr.e ⟨rfl, ?_⟩))
    rw [if_pos c, nI_clamp (by omega), (h.2.2.1 i hi).1]
theorem c_findDivision (hI : m_Inv A) (hX : c_X A X) (h : c_G A T) (x : Int32) : cCr ext X 8 0 9 [cv X 0 (some 0), .int x] T (fun o T' => T' = T ∧ o = if 0 ≤ x ∧ x ≤ nI (m_nD A) - 1 then some x.toNatClampNeg else none) := by
  have hn := hI.2.2.1
  have l0 := hX.z (s := 0) (by decide)
  refine cCr.of (L := [some (cv X 0 (some 0)), some (.int x)]) (by rw [ml9]; rfl) ?_
  rcases cI_rng (x := x) (n := m_nD A) (by omega) with ⟨a, b⟩ | ⟨a, b, c⟩ | ⟨i, hi, rfl, a, b, c⟩
  · exact bc9_0 (fun _ => bc9_12 (bc9_22 (cQr.e ⟨rfl, by rw [if_neg b]⟩))) (fun q => absurd a q)
  · refine bc9_0 (fun q => absurd q a) (fun _ => bc9_4 l0 (fun q => absurd q ?_) (fun _ => bc9_12 (bc9_22 (cQr.e ⟨rfl, by rw [if_neg c]⟩))))
    rw [h.1.2.2]; exact b
  · refine bc9_0 (fun q => absurd q a) (fun _ => bc9_4 l0 (fun _ => ?_) (fun q => absurd (by rw [h.1.2.2]; exact b) q))
    refine bc9_16 (i_2 := i) l0 rfl (by omega) (bc9_22 (cQr.e ⟨rfl, ?_⟩))
    rw [if_pos c, nI_clamp (by omega), (h.2.2.2.1 i hi).1]
theorem c_findParent (hI : m_Inv A) (hX : c_X A X) (h : c_G A T) {m : Nat} (hm : m < m_nM A) (x : Int32) : cCr ext X 8 1 8 [cv X 0 (some 0), cv X 7 (some m), .int x] T (fun o T' => T' = T ∧ o = if x = -1 then some (1000 + m) else if 0 ≤ x ∧ x ≤ nI (m_nD A) - 1 then some x.toNatClampNeg else none) := by
  have l0 := hX.z (s := 0) (by decide)
  refine cCr.of (L := [some (cv X 0 (some 0)), some (cv X 7 (some m)), some (.int x)]) (by rw [ml8]; rfl) ?_
  refine bc8_0 (fun c => ?_) (fun c => ?_)
  · refine bc8_12 l0 (c_findDivision hI hX h x) ?_
    rintro o T1 ⟨rfl, rfl⟩
    exact bc8_17 (cQr.e ⟨rfl, by rw [if_neg c]⟩)
  · refine bc8_5 (hX.m hm) (bc8_17 (cQr.e ⟨rfl, ?_⟩))
    rw [if_pos c, (h.2.2.1 m hm).2.2.1]
end CF
