/-! WHAT BOTH ARE: files, maps, divisions, what was read, checked, printed -/
abbrev mS : Type := (Nat × (Nat → Nat)) × (Nat × (Nat → Nat)) × (Nat × (Nat → Nat) × (Nat → Option Nat) × (Nat → Nat) × (Nat → Nat) × (Nat → Option Nat) × (Nat → List (Nat × Nat × Nat))) × List (Nat × Nat × Nat × Nat × Nat) × List (Nat × Nat) × List Nat
abbrev m_nF (A : mS) : Nat := A.1.1
abbrev m_fz (A : mS) : Nat → Nat := A.1.2
abbrev m_nM (A : mS) : Nat := A.2.1.1
abbrev m_kd (A : mS) : Nat → Nat := A.2.1.2
abbrev m_nD (A : mS) : Nat := A.2.2.1.1
abbrev m_mp (A : mS) : Nat → Nat := A.2.2.1.2.1
abbrev m_un (A : mS) : Nat → Option Nat := A.2.2.1.2.2.1
abbrev m_od (A : mS) : Nat → Nat := A.2.2.1.2.2.2.1
abbrev m_lb (A : mS) : Nat → Nat := A.2.2.1.2.2.2.2.1
abbrev m_rp (A : mS) : Nat → Option Nat := A.2.2.1.2.2.2.2.2.1
abbrev m_lk (A : mS) : Nat → List (Nat × Nat × Nat) := A.2.2.1.2.2.2.2.2.2
abbrev m_st (A : mS) : List (Nat × Nat × Nat × Nat × Nat) := A.2.2.2.1
abbrev m_ft (A : mS) : List (Nat × Nat) := A.2.2.2.2.1
abbrev m_sg (A : mS) : List Nat := A.2.2.2.2.2
def m_wF (A : mS) (n : Nat) (f : Nat → Nat) : mS := ((n, f), A.2)
def m_wM (A : mS) (n : Nat) (f : Nat → Nat) : mS := (A.1, (n, f), A.2.2)
def m_wD (A : mS) (n : Nat) (mp : Nat → Nat) (un : Nat → Option Nat) (od lb : Nat → Nat) (rp : Nat → Option Nat) (lk : Nat → List (Nat × Nat × Nat)) : mS := (A.1, A.2.1, (n, mp, un, od, lb, rp, lk), A.2.2.2)
def m_wS (A : mS) (l : List (Nat × Nat × Nat × Nat × Nat)) : mS := (A.1, A.2.1, A.2.2.1, l, A.2.2.2.2)
def m_wT (A : mS) (l : List (Nat × Nat)) : mS := (A.1, A.2.1, A.2.2.1, A.2.2.2.1, l, A.2.2.2.2.2)
def m_wP (A : mS) (l : List Nat) : mS := (A.1, A.2.1, A.2.2.1, A.2.2.2.1, A.2.2.2.2.1, l)
def m_0 : mS := ((0, fun _ => 0), (0, fun _ => 0), (0, fun _ => 0, fun _ => none, fun _ => 0, fun _ => 0, fun _ => none, fun _ => []), [], [], [])
def oI (o : Option Nat) : Int32 := match o with
  | none => -1
  | some p => nI p
/-- what always holds -/
def m_Inv (A : mS) : Prop :=
  (m_nF A ≤ 30 ∧ ∀ i, i < m_nF A → m_fz A i ≤ 100000) ∧ (m_nM A ≤ 5 ∧ ∀ i, i < m_nM A → m_kd A i ≤ 1) ∧ m_nD A ≤ 120 ∧
  (∀ d, d < m_nD A → m_mp A d < m_nM A ∧ m_od A d ≤ 999 ∧ m_lb A d ≤ 9999) ∧
  (∀ d, d < m_nD A → ∀ p, m_un A d = some p → p < m_nD A ∧ m_mp A p = m_mp A d ∧ m_rp A p = none) ∧
  (∀ d, d < m_nD A → ∀ r, m_rp A d = some r → r < m_nD A ∧ m_mp A r = m_mp A d ∧ m_lk A d = []) ∧
  (∀ d, d < m_nD A → (m_lk A d).length ≤ 5 ∧ ∀ e ∈ m_lk A d, e.1 < m_nF A ∧ e.2.1 < e.2.2 ∧ e.2.2 ≤ 100000) ∧
  (∃ rk : Nat → Nat, ∀ d, d < m_nD A → (∀ p, m_un A d = some p → rk d < rk p) ∧ ∀ r, m_rp A d = some r → rk r < rk d) ∧
  (m_st A).length ≤ 5000 ∧ (m_ft A).length ≤ 300 ∧ (m_sg A).length ≤ 7860
/-- the reference's arrays hold it -/
def r_gF (A : mS) (f : Nat → Int32) (n : Int32) : Prop := n = nI (m_nF A) ∧ ∀ i, i < m_nF A → f i = nI (m_fz A i)
def r_gM (A : mS) (f : Nat → Int32) (n : Int32) : Prop := n = nI (m_nM A) ∧ ∀ i, i < m_nM A → f i = nI (m_kd A i)
def r_gD (A : mS) (mp un od lb rp lk : Nat → Int32) (n : Int32) : Prop := n = nI (m_nD A) ∧ (∀ d, d < m_nD A → mp d = nI (m_mp A d) ∧ un d = oI (m_un A d) ∧ od d = nI (m_od A d) ∧ lb d = nI (m_lb A d) ∧ rp d = oI (m_rp A d) ∧ lk d = nI (m_lk A d).length) ∧ ∀ d, m_nD A ≤ d → d < 120 → lk d = 0
def r_gL (A : mS) (f a b : Nat → Int32) : Prop := ∀ d j e, d < m_nD A → (m_lk A d)[j]? = some e → f (5 * d + j) = nI e.1 ∧ a (5 * d + j) = nI e.2.1 ∧ b (5 * d + j) = nI e.2.2
def r_st5 (f : Nat → Int32) (l : List (Nat × Nat × Nat × Nat × Nat)) : Prop := ∀ i e, l[i]? = some e → f (5 * i) = nI e.1 ∧ f (5 * i + 1) = nI e.2.1 ∧ f (5 * i + 2) = nI e.2.2.1 ∧ f (5 * i + 3) = nI e.2.2.2.1 ∧ f (5 * i + 4) = nI e.2.2.2.2
def r_gS (A : mS) (f : Nat → Int32) (n : Int32) : Prop := n = nI (m_st A).length ∧ r_st5 f (m_st A)
def r_gT (A : mS) (f g : Nat → Int32) (n : Int32) : Prop := n = nI (m_ft A).length ∧ ∀ i e, (m_ft A)[i]? = some e → f i = nI e.1 ∧ g i = nI e.2
def r_gP (A : mS) (f : Nat → Int32) (n : Int32) : Prop := n = nI (m_sg A).length ∧ ∀ i c, (m_sg A)[i]? = some c → f i = nI c
def r_RA (A : mS) (W : rW) : Prop := r_gF A (W.1 2) (W.2 1) ∧ r_gM A (W.1 4) (W.2 3) ∧ r_gD A (W.1 6) (W.1 7) (W.1 8) (W.1 9) (W.1 10) (W.1 11) (W.2 5) ∧ r_gL A (W.1 12) (W.1 13) (W.1 14) ∧ r_gS A (W.1 26) (W.2 25) ∧ r_gT A (W.1 30) (W.1 31) (W.2 29) ∧ r_gP A (W.1 33) (W.2 32)
theorem gset_k (W : rW) {k k' : Nat} (i : Nat) (x : Int32) (h : k' ≠ k) : (gset W k i x).1 k' = W.1 k' := funext fun i' => if_neg (fun z => h z.1)
/-- what is said of the arrays of the state holds in any contents that agree there -/
theorem r_RA.cong {A : mS} {W W' : rW} (h : r_RA A W) (h1 : ∀ k, k ∈ [2, 4, 6, 7, 8, 9, 10, 11, 12, 13, 14, 26, 30, 31, 33] → W'.1 k = W.1 k) (h2 : ∀ k, k ∈ [1, 3, 5, 25, 29, 32] → W'.2 k = W.2 k) : r_RA A W' := by
  unfold r_RA
  rw [h1 2 (by decide), h1 4 (by decide), h1 6 (by decide), h1 7 (by decide), h1 8 (by decide), h1 9 (by decide), h1 10 (by decide), h1 11 (by decide), h1 12 (by decide), h1 13 (by decide), h1 14 (by decide), h1 26 (by decide), h1 30 (by decide), h1 31 (by decide), h1 33 (by decide), h2 1 (by decide), h2 3 (by decide), h2 5 (by decide), h2 25 (by decide), h2 29 (by decide), h2 32 (by decide)]
  exact h
theorem r_RA.hset {A : mS} {W : rW} (h : r_RA A W) (k : Nat) (x : Int32) (hk : k ∉ [1, 3, 5, 25, 29, 32]) : r_RA A (hset W k x) :=
  h.cong (fun _ _ => rfl) (fun k' hk' => hset_n _ _ (fun e => hk (e ▸ hk')))
theorem r_RA.gset {A : mS} {W : rW} (h : r_RA A W) (k i : Nat) (x : Int32) (hk : k ∉ [2, 4, 6, 7, 8, 9, 10, 11, 12, 13, 14, 26, 30, 31, 33]) : r_RA A (gset W k i x) :=
  h.cong (fun k' hk' => gset_k _ _ _ (fun e => hk (e ▸ hk'))) (fun _ _ => rfl)
/-- what a call answers, and what is then -/
def sp_file (A : mS) (n : Int32) : Int32 × mS := if 0 ≤ n ∧ n ≤ 100000 then (if m_nF A = 30 then (-4, A) else (nI (m_nF A), m_wF A (m_nF A + 1) (va_up (m_fz A) (m_nF A) n.toNatClampNeg))) else (-2, A)
def sp_size (A : mS) (f n : Int32) : Int32 × mS := if 0 ≤ f ∧ f ≤ nI (m_nF A) - 1 then (if 0 ≤ n ∧ n ≤ 100000 then (nI (m_fz A f.toNatClampNeg), m_wF A (m_nF A) (va_up (m_fz A) f.toNatClampNeg n.toNatClampNeg)) else (-2, A)) else (-1, A)
def sp_map (A : mS) (k : Int32) : Int32 × mS := if 0 ≤ k ∧ k ≤ 1 then (if m_nM A = 5 then (-4, A) else (nI (m_nM A), m_wM A (m_nM A + 1) (va_up (m_kd A) (m_nM A) k.toNatClampNeg))) else (-2, A)
/-- a division's number, or -1 for the top -/
def sp_new (A : mS) (m : Nat) (u : Option Nat) (o l : Nat) : mS := m_wD A (m_nD A + 1) (va_up (m_mp A) (m_nD A) m) (va_up (m_un A) (m_nD A) u) (va_up (m_od A) (m_nD A) o) (va_up (m_lb A) (m_nD A) l) (va_up (m_rp A) (m_nD A) none) (va_up (m_lk A) (m_nD A) [])
def sp_opt (u : Int32) : Option Nat := if u = -1 then none else some u.toNatClampNeg
def sp_bad (A : mS) (u : Option Nat) (m : Nat) : Bool := match u with
  | none => false
  | some p => decide (m_mp A p ≠ m) || decide (m_rp A p ≠ none)
def sp_division (A : mS) (m u o l : Int32) : Int32 × mS :=
  if (0 ≤ m ∧ m ≤ nI (m_nM A) - 1) ∧ (u = -1 ∨ (0 ≤ u ∧ u ≤ nI (m_nD A) - 1)) then
    (if (0 ≤ o ∧ o ≤ 999) ∧ (0 ≤ l ∧ l ≤ 9999) then
      (if sp_bad A (sp_opt u) m.toNatClampNeg = true then (-3, A)
       else if m_nD A = 120 then (-4, A) else (nI (m_nD A), sp_new A m.toNatClampNeg (sp_opt u) o.toNatClampNeg l.toNatClampNeg))
     else (-2, A))
  else (-1, A)
theorem r_RA.wF {A : mS} {W W' : rW} {n : Nat} {f : Nat → Nat} (h : r_RA A W) (hF : r_gF (m_wF A n f) (W'.1 2) (W'.2 1)) (h1 : ∀ k, k ∈ [4, 6, 7, 8, 9, 10, 11, 12, 13, 14, 26, 30, 31, 33] → W'.1 k = W.1 k) (h2 : ∀ k, k ∈ [3, 5, 25, 29, 32] → W'.2 k = W.2 k) : r_RA (m_wF A n f) W' := by
  refine ⟨hF, ?_⟩
  rw [h1 4 (by decide), h1 6 (by decide), h1 7 (by decide), h1 8 (by decide), h1 9 (by decide), h1 10 (by decide), h1 11 (by decide), h1 12 (by decide), h1 13 (by decide), h1 14 (by decide), h1 26 (by decide), h1 30 (by decide), h1 31 (by decide), h1 33 (by decide), h2 3 (by decide), h2 5 (by decide), h2 25 (by decide), h2 29 (by decide), h2 32 (by decide)]
  exact h.2
theorem r_RA.wM {A : mS} {W W' : rW} {n : Nat} {f : Nat → Nat} (h : r_RA A W) (hF : r_gM (m_wM A n f) (W'.1 4) (W'.2 3)) (h1 : ∀ k, k ∈ [2, 6, 7, 8, 9, 10, 11, 12, 13, 14, 26, 30, 31, 33] → W'.1 k = W.1 k) (h2 : ∀ k, k ∈ [1, 5, 25, 29, 32] → W'.2 k = W.2 k) : r_RA (m_wM A n f) W' := by
  refine ⟨?_, hF, ?_⟩
  · rw [h1 2 (by decide), h2 1 (by decide)]
    exact h.1
  · rw [h1 6 (by decide), h1 7 (by decide), h1 8 (by decide), h1 9 (by decide), h1 10 (by decide), h1 11 (by decide), h1 12 (by decide), h1 13 (by decide), h1 14 (by decide), h1 26 (by decide), h1 30 (by decide), h1 31 (by decide), h1 33 (by decide), h2 5 (by decide), h2 25 (by decide), h2 29 (by decide), h2 32 (by decide)]
    exact h.2.2
theorem r_RA.wD {A : mS} {W W' : rW} {n : Nat} {mp : Nat → Nat} {un : Nat → Option Nat} {od lb : Nat → Nat} {rp : Nat → Option Nat} {lk : Nat → List (Nat × Nat × Nat)} (h : r_RA A W) (hD : r_gD (m_wD A n mp un od lb rp lk) (W'.1 6) (W'.1 7) (W'.1 8) (W'.1 9) (W'.1 10) (W'.1 11) (W'.2 5)) (hL : r_gL (m_wD A n mp un od lb rp lk) (W'.1 12) (W'.1 13) (W'.1 14)) (h1 : ∀ k, k ∈ [2, 4, 26, 30, 31, 33] → W'.1 k = W.1 k) (h2 : ∀ k, k ∈ [1, 3, 25, 29, 32] → W'.2 k = W.2 k) : r_RA (m_wD A n mp un od lb rp lk) W' := by
  refine ⟨?_, ?_, hD, hL, ?_⟩
  · rw [h1 2 (by decide), h2 1 (by decide)]
    exact h.1
  · rw [h1 4 (by decide), h2 3 (by decide)]
    exact h.2.1
  · rw [h1 26 (by decide), h1 30 (by decide), h1 31 (by decide), h1 33 (by decide), h2 25 (by decide), h2 29 (by decide), h2 32 (by decide)]
    exact h.2.2.2.2
theorem nI_32 (x : Int32) (h : 0 ≤ x) : x = nI x.toNatClampNeg := by
  obtain ⟨j, hj, e⟩ := nI_of (x := x) (fun q => by rw [Int32.le_iff_toInt_le] at h; rw [Int32.lt_iff_toInt_lt] at q; omega)
  rw [e, nI_clamp hj]
theorem nI_33 {x : Int32} {n : Nat} (h : 0 ≤ x) (h2 : x ≤ nI n) (hn : n < 2147483648) : x.toNatClampNeg ≤ n := by
  have e := nI_32 x h
  obtain ⟨j, hj, e2⟩ := nI_of (x := x) (fun q => by rw [Int32.le_iff_toInt_le] at h; rw [Int32.lt_iff_toInt_lt] at q; omega)
  rw [e2, nI_leI hj hn] at h2
  rw [e2, nI_clamp hj]
  exact h2
