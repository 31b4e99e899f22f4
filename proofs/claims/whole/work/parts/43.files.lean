/-! FAULTS OF FILES: the sweep over the places -/
/-- no border of a step strictly between -/
def m_gap (ss : List (Nat × Nat × Nat × Nat × Nat)) (f a b : Nat) : Prop := ∀ e ∈ ss, e.2.1 = f → (e.2.2.1 ≤ a ∨ b ≤ e.2.2.1) ∧ (e.2.2.2.1 ≤ a ∨ b ≤ e.2.2.2.1)
theorem m_gap_in {ss : List (Nat × Nat × Nat × Nat × Nat)} {f a b x : Nat} (h : m_gap ss f a b) (h1 : a ≤ x) (h2 : x < b) {e : Nat × Nat × Nat × Nat × Nat} (he : e ∈ ss) : m_in f x e = m_in f a e := by
  unfold m_in
  by_cases hf : e.2.1 = f
  · obtain ⟨p, q⟩ := h e he hf
    have e1 : decide (e.2.2.1 ≤ x) = decide (e.2.2.1 ≤ a) := by
      rw [decide_eq_decide]
      omega
    have e2 : decide (x < e.2.2.2.1) = decide (a < e.2.2.2.1) := by
      rw [decide_eq_decide]
      omega
    rw [e1, e2]
  · rw [decide_eq_false hf]
    rfl
theorem m_gap_cov {ss : List (Nat × Nat × Nat × Nat × Nat)} {f a b x : Nat} (h : m_gap ss f a b) (h1 : a ≤ x) (h2 : x < b) : m_cov ss f x = m_cov ss f a := by
  unfold m_cov
  rw [List.filter_congr (fun e he => m_gap_in h h1 h2 he)]
theorem m_cov_app (ss : List (Nat × Nat × Nat × Nat × Nat)) (e : Nat × Nat × Nat × Nat × Nat) (f x : Nat) : m_cov (ss ++ [e]) f x = m_cov ss f x + (if m_in f x e = true then 1 else 0) := by
  unfold m_cov
  rw [List.filter_append, List.length_append]
  by_cases h : m_in f x e = true
  · rw [if_pos h, List.filter_cons, if_pos h]; rfl
  · rw [if_neg h, List.filter_cons, if_neg h]; rfl
theorem m_cov_le (ss : List (Nat × Nat × Nat × Nat × Nat)) (f x : Nat) : m_cov ss f x ≤ ss.length := List.length_filter_le _ _
section RF
variable {ext : av_X} {X : rX} {W : rW} {A : mS}
set_option maxHeartbeats 2000000 in
theorem r_checkFile (hI : m_Inv A) (h : r_RB A W) {l : List (Nat × Nat)} (hT : r_gT (m_wT A l) (W.1 30) (W.1 31) (W.2 29)) (hl : l.length + 2 < 500) {f : Nat} (hf : f < m_nF A) {ss : List (Nat × Nat × Nat × Nat × Nat)} (h27 : W.2 27 = nI ss.length) (hss : r_st5 (W.1 28) ss) (hs5 : ss.length ≤ 5000) (hb : ∀ e ∈ ss, e.2.1 < 30 ∧ e.2.2.1 < e.2.2.2.1 ∧ e.2.2.2.1 ≤ 100000) : rCv ext X 1 89 [.ref X.1, .int (nI f)] W (fun W' => r_bw W W' ∧ r_gT (m_wT A (l ++ m_ff A ss f)) (W'.1 30) (W'.1 31) (W'.2 29)) := by
  have hF30 := hI.1.1
  have hsz := hI.1.2 f hf
  have h2 : W.1 2 f = nI (m_fz A f) := h.1.2 f hf
  refine rCv.of (L := [some (.ref X.1), some (.int (nI f)), none, none, none, none, none, none, none, none]) (by rw [ml89]; rfl) ?_
  refine br89_0 ?_
  generalize hQ : (fun (r : Option Value) (W' : rW) => r = none ∧ r_bw W W' ∧ r_gT (m_wT A (l ++ m_ff A ss f)) (W'.1 30) (W'.1 31) (W'.2 29)) = Q
  generalize hz : m_fz A f = z at hsz h2
  -- the steps, for one place
  have steps : ∀ (todo done : List (Nat × Nat × Nat × Nat × Nat)) (x2 x3 : Int32) (p nx : Nat) (o8 o9 : Option Value), done ++ todo = ss → p < nx → nx ≤ z → m_gap done f p nx →
      (∀ (nx' : Nat) (x7 : Int32) (o8 o9 : Option Value), p < nx' → nx' ≤ z → m_gap ss f p nx' → rA ext X 1 89 161 [some (.ref X.1), some (.int (nI f)), some (.int x2), some (.int x3), some (.int (nI p)), some (.int (nI (m_cov ss f p))), some (.int (nI nx')), some (.int x7), o8, o9] [] W Q) →
      rA ext X 1 89 32 [some (.ref X.1), some (.int (nI f)), some (.int x2), some (.int x3), some (.int (nI p)), some (.int (nI (m_cov done f p))), some (.int (nI nx)), some (.int (nI done.length)), o8, o9] [] W Q := by
    intro todo
    induction todo with
    | nil =>
      intro done x2 x3 p nx o8 o9 hsum hp hn hg kk
      rw [List.append_nil] at hsum
      subst hsum
      refine br89_32 (fun _ => kk nx _ _ _ hp hn hg) (fun e => absurd (by rw [h27]; exact nI_le (Nat.le_refl _) (by omega)) e)
    | cons e todo ih =>
      intro done x2 x3 p nx o8 o9 hsum hp hn hg kk
      have hdl : done.length < ss.length := by rw [← hsum, List.length_append]; show _ < _ + (todo.length + 1); omega
      have hget : ss[done.length]? = some e := by rw [← hsum, List.getElem?_append_right (Nat.le_refl _), Nat.sub_self]; rfl
      have hr := hss _ _ hget
      have hbe := hb e (List.mem_of_getElem? hget)
      have n5 : ∀ t, (5 : Int32) * nI done.length + nI t = nI (5 * done.length + t) := fun t => nI_5
      have el : (done ++ [e]).length = done.length + 1 := by rw [List.length_append]; rfl
      have hsum2 : (done ++ [e]) ++ todo = ss := by rw [List.append_assoc]; exact hsum
      have hcl := m_cov_le done f p
      refine br89_32 (fun z => absurd z (by rw [h27]; exact nI_ge hdl (by omega))) (fun _ => ?_)
      refine br89_41 (i_1 := 5 * done.length + 1) (n5 1) (by omega) (fun ef => ?_) (fun ef => ?_)
      · rw [hr.2.1] at ef
        have ef' : e.2.1 = f := (nI_eq (by omega) (by omega)).mp ef
        -- behind the counting, and the two borders
        have behind : ∀ (b : Bool), m_in f p e = b → rA ext X 1 89 106 [some (.ref X.1), some (.int (nI f)), some (.int x2), some (.int x3), some (.int (nI p)), some (.int (nI (m_cov done f p))), some (.int (nI nx)), some (.int (nI done.length)), some (.int (nI e.2.2.1)), some (.int (nI e.2.2.2.1))] [.int (bI b), .int (nI (m_cov done f p))] W Q := by
          intro b hbb
          have ec : nI (m_cov done f p) + bI b = nI (m_cov (done ++ [e]) f p) := by
            rw [m_cov_app, hbb]
            cases b with
            | true => exact nI_add _ 1
            | false => exact nI_add _ 0
          -- the second border
          have snd : ∀ (n1 : Nat), p < n1 → n1 ≤ nx → (e.2.2.1 ≤ p ∨ n1 ≤ e.2.2.1) → rA ext X 1 89 130 [some (.ref X.1), some (.int (nI f)), some (.int x2), some (.int x3), some (.int (nI p)), some (.int (nI (m_cov (done ++ [e]) f p))), some (.int (nI nx)), some (.int (nI done.length)), some (.int (nI e.2.2.1)), some (.int (nI e.2.2.2.1))] [.int (nI n1)] W Q := by
            intro n1 hp1 hn1 hg1
            have fin : ∀ (n2 : Nat), p < n2 → n2 ≤ n1 → (e.2.2.2.1 ≤ p ∨ n2 ≤ e.2.2.2.1) → rA ext X 1 89 153 [some (.ref X.1), some (.int (nI f)), some (.int x2), some (.int x3), some (.int (nI p)), some (.int (nI (m_cov (done ++ [e]) f p))), some (.int (nI n1)), some (.int (nI done.length)), some (.int (nI e.2.2.1)), some (.int (nI e.2.2.2.1))] [.int (nI n2)] W Q := by
              intro n2 hp2 hn2 hg2
              refine br89_153 (br89_155 ?_)
              rw [nI_1]
              have := ih (done ++ [e]) x2 x3 p n2 (some (.int (nI e.2.2.1))) (some (.int (nI e.2.2.2.1))) hsum2 hp2 (by omega) (fun e' he' hf' => ?_) kk
              · rw [el] at this
                exact this
              · rcases List.mem_append.mp he' with he' | he'
                · obtain ⟨g1, g2⟩ := hg e' he' hf'
                  exact ⟨by omega, by omega⟩
                · rw [List.mem_singleton.mp he']
                  exact ⟨by omega, hg2⟩
            refine br89_130 (fun c => ?_) (fun c => ?_)
            · rw [nI_leI (by omega) (by omega)] at c
              exact br89_151 (fin n1 hp1 (Nat.le_refl _) (Or.inl c))
            · rw [nI_leI (by omega) (by omega)] at c
              refine br89_139 (fun c2 => ?_) (fun c2 => ?_)
              · rw [nI_leI (by omega) (by omega)] at c2
                exact br89_151 (fin n1 hp1 (Nat.le_refl _) (Or.inr c2))
              · rw [nI_leI (by omega) (by omega)] at c2
                exact br89_146 (fin e.2.2.2.1 (by omega) (by omega) (Or.inr (Nat.le_refl _)))
          refine br89_106 (fun c => ?_) (fun c => ?_)
          · rw [nI_leI (by omega) (by omega)] at c
            rw [ec]
            exact br89_128 (snd nx hp (Nat.le_refl _) (Or.inl c))
          · rw [nI_leI (by omega) (by omega)] at c
            rw [ec]
            refine br89_116 (fun c2 => ?_) (fun c2 => ?_)
            · rw [nI_leI (by omega) (by omega)] at c2
              exact br89_128 (snd nx hp (Nat.le_refl _) (Or.inr c2))
            · rw [nI_leI (by omega) (by omega)] at c2
              exact br89_123 (snd e.2.2.1 (by omega) (by omega) (Or.inr (Nat.le_refl _)))
        refine br89_59 (i_1 := 5 * done.length + 2) (i_4 := 5 * done.length + 3) (n5 2) (by omega) (n5 3) (by omega) (fun c1 => ?_) (fun c1 => ?_)
        all_goals rw [hr.2.2.1, hr.2.2.2.1]
        all_goals rw [hr.2.2.1, nI_ltI (by omega) (by omega)] at c1
        · refine br89_105 (behind false ?_)
          unfold m_in
          rw [decide_eq_false (show ¬ e.2.2.1 ≤ p by omega)]
          simp
        · refine br89_94 (fun c2 => ?_) (fun c2 => ?_)
          · rw [nI_leI (by omega) (by omega)] at c2
            refine br89_105 (behind false ?_)
            unfold m_in
            rw [decide_eq_false (show ¬ p < e.2.2.2.1 by omega), Bool.and_false, Bool.and_false]
          · rw [nI_leI (by omega) (by omega)] at c2
            refine br89_101 (behind true ?_)
            unfold m_in
            rw [decide_eq_true ef', decide_eq_true (show e.2.2.1 ≤ p by omega), decide_eq_true (show p < e.2.2.2.1 by omega)]
            rfl
      · rw [hr.2.1] at ef
        have ef' : e.2.1 ≠ f := fun q => ef (by rw [q])
        refine br89_56 (br89_155 ?_)
        rw [nI_1]
        have ecov : m_cov (done ++ [e]) f p = m_cov done f p := by
          rw [m_cov_app]
          unfold m_in
          rw [decide_eq_false ef']
          rfl
        have := ih (done ++ [e]) x2 x3 p nx o8 o9 hsum2 hp hn (fun e' he' hf' => ?_) kk
        · rw [el, ecov] at this
          exact this
        · rcases List.mem_append.mp he' with he' | he'
          · exact hg e' he' hf'
          · rw [List.mem_singleton.mp he'] at hf'
            exact absurd hf' ef'
  -- place after place
  have sweep : ∀ (n p : Nat) (t u : Bool) (o5 o6 o7 o8 o9 : Option Value), z ≤ p + n → p ≤ z → (t = true ↔ ∃ x, x < p ∧ 1 < m_cov ss f x) → (u = true ↔ ∃ x, x < p ∧ m_cov ss f x = 0) → rA ext X 1 89 7 [some (.ref X.1), some (.int (nI f)), some (.int (bI t)), some (.int (bI u)), some (.int (nI p)), o5, o6, o7, o8, o9] [] W Q := by
    intro n
    induction n with
    | zero =>
      intro p t u o5 o6 o7 o8 o9 hn hp ht hu
      have ep : p = z := by omega
      subst ep
      refine br89_7 (i_1 := f) rfl (by omega) (fun _ => ?_) (fun e => absurd (by rw [h2]; exact nI_le (Nat.le_refl _) (by omega)) e)
      have et : t = m_twi ss f p := by
        cases ha : m_twi ss f p with
        | true => exact ht.mpr (m_twi_iff.mp ha)
        | false =>
          cases t with
          | false => rfl
          | true => rw [m_twi_iff.mpr (ht.mp rfl)] at ha; cases ha
      have eu : u = m_non ss f p := by
        cases ha : m_non ss f p with
        | true => exact hu.mpr (m_non_iff.mp ha)
        | false =>
          cases u with
          | false => rfl
          | true => rw [m_non_iff.mpr (hu.mp rfl)] at ha; cases ha
      have eff : m_ff A ss f = m_w1 t 4 f ++ m_w1 u 5 f := by unfold m_ff; rw [hz, et, eu]
      have second : ∀ (l1 : List (Nat × Nat)) (W2 : rW), l1.length + 1 < 500 → l1 ++ m_w1 u 5 f = l ++ m_ff A ss f → r_bw W W2 → r_gT (m_wT A l1) (W2.1 30) (W2.1 31) (W2.2 29) → rA ext X 1 89 209 [some (.ref X.1), some (.int (nI f)), some (.int (bI t)), some (.int (bI u)), some (.int (nI p)), o5, o6, o7, o8, o9] [] W2 Q := by
        intro l1 W2 hl1 hrest hw hT2
        refine br89_209 (fun e => ?_) (fun e => ?_)
        · have ec : u = false := bI_0.mp e
          rw [ec, show m_w1 false 5 f = [] from rfl, List.append_nil] at hrest
          refine br89_219 ?_
          rw [← hQ, ← hrest]
          exact ⟨rfl, hw, hT2⟩
        · have ec : u = true := by
            cases u with
            | true => rfl
            | false => exact absurd rfl e
          rw [ec, show m_w1 true 5 f = [(5, f)] from rfl] at hrest
          refine br89_213 (r_blame (A := A) hT2 (by omega) 5 f) ?_
          rintro W3 ⟨p1, p2⟩
          refine br89_219 ?_
          rw [← hQ, ← hrest]
          exact ⟨rfl, hw.tr p1, p2⟩
      refine br89_199 (fun e => ?_) (fun e => ?_)
      · have ec : t = false := bI_0.mp e
        exact second l W (by omega) (by rw [eff, ec]; rfl) (r_bw.rf W) hT
      · have ec : t = true := by
          cases t with
          | true => rfl
          | false => exact absurd rfl e
        refine br89_203 (r_blame (A := A) hT (by omega) 4 f) ?_
        rintro W3 ⟨p1, p2⟩
        exact second (l ++ [(4, f)]) W3 (by rw [List.length_append]; show l.length + 1 + 1 < 500; omega) (by rw [eff, ec, List.append_assoc]; rfl) p1 p2
    | succ n ih =>
      intro p t u o5 o6 o7 o8 o9 hn hp ht hu
      by_cases c0 : p = z
      · exact ih p t u o5 o6 o7 o8 o9 (by omega) hp ht hu
      · refine br89_7 (i_1 := f) rfl (by omega) (fun e => absurd e (by rw [h2]; exact nI_ge (by omega) (by omega))) (fun _ => ?_)
        refine br89_18 (i_1 := f) rfl (by omega) ?_
        rw [h2]
        refine steps ss [] (bI t) (bI u) p z _ _ rfl (by omega) (Nat.le_refl _) (fun e he => by cases he) (fun nx x7 o8 o9 hp1 hn1 hg => ?_)
        have hcl := m_cov_le ss f p
        have cov : ∀ x, p ≤ x → x < nx → m_cov ss f x = m_cov ss f p := fun x a b => m_gap_cov hg a b
        have last : rA ext X 1 89 191 [some (.ref X.1), some (.int (nI f)), some (.int (bI (t || decide (1 < m_cov ss f p)))), some (.int (bI u)), some (.int (nI p)), some (.int (nI (m_cov ss f p))), some (.int (nI nx)), some (.int x7), o8, o9] [.int (bI (u || decide (m_cov ss f p = 0)))] W Q := by
          refine br89_191 ?_
          refine ih nx _ _ _ _ _ _ _ (by omega) hn1 ?_ ?_
          · rw [Bool.or_eq_true, decide_eq_true_eq, ht]
            constructor
            · rintro (⟨x, a, b⟩ | a)
              · exact ⟨x, by omega, b⟩
              · exact ⟨p, hp1, a⟩
            · rintro ⟨x, a, b⟩
              by_cases c : x < p
              · exact Or.inl ⟨x, c, b⟩
              · rw [cov x (by omega) a] at b
                exact Or.inr b
          · rw [Bool.or_eq_true, decide_eq_true_eq, hu]
            constructor
            · rintro (⟨x, a, b⟩ | a)
              · exact ⟨x, by omega, b⟩
              · exact ⟨p, hp1, a⟩
            · rintro ⟨x, a, b⟩
              by_cases c : x < p
              · exact Or.inl ⟨x, c, b⟩
              · rw [cov x (by omega) a] at b
                exact Or.inr b
        have mid : rA ext X 1 89 176 [some (.ref X.1), some (.int (nI f)), some (.int (bI t)), some (.int (bI u)), some (.int (nI p)), some (.int (nI (m_cov ss f p))), some (.int (nI nx)), some (.int x7), o8, o9] [.int (bI (t || decide (1 < m_cov ss f p)))] W Q := by
          refine br89_176 (fun e => ?_) (fun e => ?_)
          · have ec : u = true := by
              cases u with
              | true => rfl
              | false => exact absurd rfl e
            rw [ec, Bool.true_or] at last
            rw [ec]
            exact br89_186 last
          · have ec : u = false := bI_0.mp e
            rw [ec, Bool.false_or] at last
            rw [ec]
            refine br89_181 (fun c => ?_) (fun c => ?_)
            · rw [decide_eq_false (show ¬ m_cov ss f p = 0 from fun q => c (by rw [q]; rfl))] at last
              exact br89_190 last
            · rw [decide_eq_true ((nI_eq (b := 0) (by omega) (by decide)).mp c)] at last
              exact br89_186 last
        refine br89_161 (fun e => ?_) (fun e => ?_)
        · have ec : t = true := by
            cases t with
            | true => rfl
            | false => exact absurd rfl e
          rw [ec, Bool.true_or] at mid
          rw [ec]
          exact br89_171 mid
        · have ec : t = false := bI_0.mp e
          rw [ec, Bool.false_or] at mid
          rw [ec]
          refine br89_165 (fun c => ?_) (fun c => ?_)
          · have c' : m_cov ss f p ≤ 1 := (nI_leI (b := 1) (by omega) (by decide)).mp c
            rw [decide_eq_false (show ¬ 1 < m_cov ss f p by omega)] at mid
            exact br89_175 mid
          · have c' : ¬ m_cov ss f p ≤ 1 := fun q => c ((nI_leI (b := 1) (by omega) (by decide)).mpr q)
            rw [decide_eq_true (show 1 < m_cov ss f p by omega)] at mid
            exact br89_171 mid
  refine sweep z 0 false false _ _ _ _ _ (by omega) (Nat.zero_le _) ⟨fun q => (by cases q), fun ⟨x, a, _⟩ => (by omega)⟩ ⟨fun q => (by cases q), fun ⟨x, a, _⟩ => (by omega)⟩
end RF
