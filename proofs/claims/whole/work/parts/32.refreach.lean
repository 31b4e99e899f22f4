/-! THE REFERENCE'S reach AND comesBack -/
def m_uns (A : mS) (b : Nat → Bool) : Nat := ((List.range (m_nD A)).filter (fun k => !b k)).length
section RR2
variable {ext : av_X} {X : rX} {W : rW} {A : mS}
set_option maxHeartbeats 1000000 in
theorem r_reach (hI : m_J A) (h : r_RA A W) {f : Nat} (hf : f < m_nD A) : rCv ext X 0 76 [.ref X.1, .int (nI f)] W (fun W' => ∃ b, r_sn A W b W' ∧ ∀ k, k < m_nD A → (b k = true ↔ m_rc A f k)) := by
  have hD := hI.1
  refine rCv.of (L := [some (.ref X.1), some (.int (nI f)), none, none, none, none]) (by rw [ml76]; rfl) ?_
  refine br76_0 ?_
  generalize hQ : (fun (r : Option Value) (W' : rW) => r = none ∧ ∃ b, r_sn A W b W' ∧ ∀ k, k < m_nD A → (b k = true ↔ m_rc A f k)) = Q
  -- the loop over those that repeat
  have inner : ∀ (n j : Nat) (k : Nat) (i : Bool) (b : Nat → Bool) (W1 : rW) (x2 : Int32), k < m_nD A → j + n = m_nD A → r_sn A W b W1 → (∀ x5 : Int32, rA ext X 0 76 131 [some (.ref X.1), some (.int (nI f)), some (.int x2), some (.int (nI k)), some (.int (bI (i || m_any (m_isr A b k) j n))), some (.int x5)] [] W1 Q) → rA ext X 0 76 83 [some (.ref X.1), some (.int (nI f)), some (.int x2), some (.int (nI k)), some (.int (bI i)), some (.int (nI j))] [] W1 Q := by
    intro n
    induction n with
    | zero =>
      intro j k i b W1 x2 hk hj hs kk
      have hn : W1.2 5 = nI (m_nD A) := (hs.RA h).2.2.1.1
      refine br76_83 (fun _ => ?_) (fun e => absurd (by rw [hn]; exact nI_le (by omega) (by omega)) e)
      have := kk (nI j)
      rw [m_any, Bool.or_false] at this
      exact this
    | succ n ih =>
      intro j k i b W1 x2 hk hj hs kk
      have hR := hs.RA h
      have hn : W1.2 5 = nI (m_nD A) := hR.2.2.1.1
      have hjl : j < m_nD A := by omega
      refine br76_83 (fun e => absurd e (by rw [hn]; exact nI_ge (by omega) (by omega))) (fun _ => ?_)
      refine br76_92 (fun e => ?_) (fun e => ?_)
      · have hi : i = true := by
          cases i with
          | true => rfl
          | false => exact absurd rfl e
        subst hi
        have := kk (nI j)
        rw [Bool.true_or] at this
        exact this
      · have hi : i = false := bI_0.mp e
        subst hi
        have hrow := hR.2.2.1.2.1 j hjl
        have hrp : ∀ q, m_rp A j = some q → q < 2147483648 := fun q hq => by have := hI.2.2 j hjl q hq; omega
        have nxt : rA ext X 0 76 123 [some (.ref X.1), some (.int (nI f)), some (.int x2), some (.int (nI k)), some (.int (bI false)), some (.int (nI j))] [.int (bI (m_isr A b k j))] W1 Q := by
          refine br76_123 ?_
          rw [nI_1]
          refine ih (j + 1) k _ b W1 x2 hk (by omega) hs (fun x5 => ?_)
          have := kk x5
          rw [Bool.false_or, m_any] at this
          exact this
        refine br76_97 (i_1 := j) rfl (by omega) (fun e2 => ?_) (fun e2 => ?_)
        · rw [hs.2.2 j hjl, bI_0] at e2
          have hz : m_isr A b k j = false := by unfold m_isr; rw [e2]; rfl
          rw [hz] at nxt
          exact br76_122 nxt
        · rw [hs.2.2 j hjl, bI_0] at e2
          have e2' : b j = true := by simpa using e2
          refine br76_107 (i_1 := j) rfl (by omega) (fun e3 => ?_) (fun e3 => ?_)
          · rw [hrow.2.2.2.2.1, oI_eq hrp (by omega)] at e3
            have hz : m_isr A b k j = false := by unfold m_isr; rw [decide_eq_false e3, Bool.and_false]
            rw [hz] at nxt
            exact br76_122 nxt
          · rw [hrow.2.2.2.2.1, oI_eq hrp (by omega)] at e3
            have hz : m_isr A b k j = true := by unfold m_isr; rw [e2', decide_eq_true e3]; rfl
            rw [hz] at nxt
            exact br76_118 nxt
  -- one pass
  have pass : ∀ (n k : Nat) (b : Nat → Bool) (m : Bool) (W1 : rW) (o4 o5 : Option Value), k + n = m_nD A → r_sn A W b W1 → (∀ (W2 : rW) (x3 : Int32) (o4 o5 : Option Value), r_sn A W (m_pass A n k b m).1 W2 → rA ext X 0 76 186 [some (.ref X.1), some (.int (nI f)), some (.int (bI (m_pass A n k b m).2)), some (.int x3), o4, o5] [] W2 Q) → rA ext X 0 76 42 [some (.ref X.1), some (.int (nI f)), some (.int (bI m)), some (.int (nI k)), o4, o5] [] W1 Q := by
    intro n
    induction n with
    | zero =>
      intro k b m W1 o4 o5 hk hs kk
      have hn : W1.2 5 = nI (m_nD A) := (hs.RA h).2.2.1.1
      refine br76_42 (fun _ => ?_) (fun e => absurd (by rw [hn]; exact nI_le (by omega) (by omega)) e)
      exact kk W1 (nI k) o4 o5 hs
    | succ n ih =>
      intro k b m W1 o4 o5 hk hs kk
      have hR := hs.RA h
      have hn : W1.2 5 = nI (m_nD A) := hR.2.2.1.1
      have hkl : k < m_nD A := by omega
      refine br76_42 (fun e => absurd e (by rw [hn]; exact nI_ge (by omega) (by omega))) (fun _ => ?_)
      have hu := r_un hI hR.D hkl
      have hu2 : ∀ p, m_un A k = some p → p < 2147483648 := fun p hp => by have := hu.2 p hp; omega
      rw [m_pass] at kk
      -- behind the two loops
      have fin : rA ext X 0 76 78 [some (.ref X.1), some (.int (nI f)), some (.int (bI m)), some (.int (nI k)), o4, o5] [.int (bI (m_isa A b k))] W1 Q := by
        refine br76_78 ?_
        refine inner (m_nD A) 0 k (m_isa A b k) b W1 (bI m) hkl (Nat.zero_add _) hs (fun x5 => ?_)
        have hisf : (m_isa A b k || m_any (m_isr A b k) 0 (m_nD A)) = m_isf A b k := rfl
        rw [hisf]
        have store : rA ext X 0 76 154 [some (.ref X.1), some (.int (nI f)), some (.int (bI m)), some (.int (nI k)), some (.int (bI (m_isf A b k))), some (.int x5)] [.int (bI (m || (m_isf A b k && !b k)))] W1 Q := by
          have put : rA ext X 0 76 179 [some (.ref X.1), some (.int (nI f)), some (.int (bI (m || (m_isf A b k && !b k)))), some (.int (nI k)), some (.int (bI (m_isf A b k))), some (.int x5)] [.int (bI (b k || m_isf A b k)), .int (nI k), .ref (X.2.1 18)] W1 Q := by
            refine br76_179 (i_1 := k) rfl (by omega) ?_
            rw [bI_and, nI_1]
            exact ih (k + 1) _ _ _ _ _ (by omega) (hs.set k _) kk
          refine br76_154 (i_1 := k) rfl (by omega) (fun e => ?_) (fun e => ?_)
          · rw [hs.2.2 k hkl, bI_0] at e
            have e' : b k = true := by simpa using e
            rw [show (b k || m_isf A b k) = true by rw [e', Bool.true_or]] at put
            exact br76_174 put
          · rw [hs.2.2 k hkl, bI_0] at e
            rw [show (b k || m_isf A b k) = m_isf A b k by rw [e, Bool.false_or]] at put
            refine br76_169 (fun e2 => ?_) (fun e2 => ?_)
            · rw [show m_isf A b k = false from bI_0.mp e2] at put ⊢
              exact br76_178 put
            · have e3 : m_isf A b k = true := by
                cases hq : m_isf A b k with
                | true => rfl
                | false => rw [hq] at e2; exact absurd rfl e2
              rw [e3] at put ⊢
              exact br76_174 put
        refine br76_131 (fun e => ?_) (fun e => ?_)
        · have hm : m = true := by
            cases m with
            | true => rfl
            | false => exact absurd rfl e
          subst hm
          rw [Bool.true_or] at store
          exact br76_149 store
        · have hm : m = false := bI_0.mp e
          subst hm
          rw [Bool.false_or] at store
          refine br76_135 (fun e2 => ?_) (fun e2 => ?_)
          · rw [show m_isf A b k = false from bI_0.mp e2] at store ⊢
            exact br76_153 store
          · have e3 : m_isf A b k = true := by
              cases hq : m_isf A b k with
              | true => rfl
              | false => rw [hq] at e2; exact absurd rfl e2
            rw [e3] at store ⊢
            refine br76_140 (i_1 := k) rfl (by omega) (fun e4 => ?_) (fun e4 => ?_)
            · rw [hs.2.2 k hkl, bI_0] at e4
              have e4' : b k = true := by simpa using e4
              rw [e4'] at store
              exact br76_153 store
            · rw [hs.2.2 k hkl, bI_0] at e4
              rw [e4] at store
              exact br76_149 store
      refine br76_50 (i_1 := k) rfl (by omega) (fun e => ?_) (fun e => ?_)
      · rw [hu.1, oI_neg hu2] at e
        rw [show m_isa A b k = false by unfold m_isa; rw [e]] at fin
        exact br76_77 fin
      · rw [hu.1, oI_neg hu2] at e
        cases hup : m_un A k with
        | none => exact absurd hup e
        | some p =>
          have hp := hu.2 p hup
          refine br76_59 (i_1 := k) (i_4 := p) rfl (by omega) (by rw [hu.1, hup]; rfl) (by omega) (fun e2 => ?_) (fun e2 => ?_)
          · rw [hs.2.2 p hp, bI_0] at e2
            rw [show m_isa A b k = false by unfold m_isa; rw [hup]; exact e2] at fin
            exact br76_77 fin
          · rw [hs.2.2 p hp, bI_0] at e2
            rw [show m_isa A b k = true by unfold m_isa; rw [hup]; simpa using e2] at fin
            exact br76_73 fin
  -- pass after pass
  have outer : ∀ (u : Nat) (b : Nat → Bool) (W1 : rW) (o3 o4 o5 : Option Value), m_uns A b ≤ u → r_sn A W b W1 → b f = true → (∀ t, t < m_nD A → b t = true → m_rc A f t) → rA ext X 0 76 34 [some (.ref X.1), some (.int (nI f)), some (.int (bI true)), o3, o4, o5] [] W1 Q := by
    intro u
    induction u with
    | zero =>
      intro b W1 o3 o4 o5 hu hs hbf hb
      refine br76_34 (fun e => absurd e (by decide)) (fun _ => br76_38 ?_)
      refine pass (m_nD A) 0 b false W1 _ _ (Nat.zero_add _) hs (fun W2 x3 o4 o5 hs2 => ?_)
      cases hm : (m_pass A (m_nD A) 0 b false).2 with
      | true =>
        obtain ⟨t, -, h2, h3, -⟩ := m_pass_yes (m_nD A) 0 b hm
        have : 0 < m_uns A b := by
          unfold m_uns
          refine List.length_pos_of_mem (a := t) (List.mem_filter.mpr ⟨List.mem_range.mpr (by omega), by rw [h3]; rfl⟩)
        omega
      | false =>
        obtain ⟨i1, i2⟩ := m_pass_no (m_nD A) 0 b false hm
        rw [i1] at hs2
        refine br76_186 (br76_34 (fun _ => br76_189 ?_) (fun e => absurd rfl e))
        rw [← hQ]
        exact ⟨rfl, b, hs2, fun k hk => ⟨hb k hk, fun z => m_closed_rc hI hbf (fun t ht => i2 t (Nat.zero_le _) (by omega)) z⟩⟩
    | succ u ih =>
      intro b W1 o3 o4 o5 hu hs hbf hb
      refine br76_34 (fun e => absurd e (by decide)) (fun _ => br76_38 ?_)
      refine pass (m_nD A) 0 b false W1 _ _ (Nat.zero_add _) hs (fun W2 x3 o4 o5 hs2 => ?_)
      cases hm : (m_pass A (m_nD A) 0 b false).2 with
      | true =>
        refine br76_186 (ih _ W2 _ _ _ ?_ hs2 ((m_pass_up _ _ _ _).1 f hbf) (m_pass_rc hI (m_nD A) 0 b false (by omega) hb))
        obtain ⟨t, -, h2, h3, h4⟩ := m_pass_yes (m_nD A) 0 b hm
        have : m_uns A (m_pass A (m_nD A) 0 b false).1 < m_uns A b := by
          unfold m_uns
          refine cnt_lt (y := t) _ (fun x _ hx => ?_) (List.mem_range.mpr (by omega)) (by rw [h3]; rfl) (by rw [h4]; rfl)
          cases hbx : b x with
          | false => rfl
          | true => rw [(m_pass_up (A := A) (m_nD A) 0 b false).1 x hbx] at hx; exact hx
        omega
      | false =>
        obtain ⟨i1, i2⟩ := m_pass_no (m_nD A) 0 b false hm
        rw [i1] at hs2
        refine br76_186 (br76_34 (fun _ => br76_189 ?_) (fun e => absurd rfl e))
        rw [← hQ]
        exact ⟨rfl, b, hs2, fun k hk => ⟨hb k hk, fun z => m_closed_rc hI hbf (fun t ht => i2 t (Nat.zero_le _) (by omega)) z⟩⟩
  -- the start
  have init : ∀ (n k : Nat) (W1 : rW), k + n = m_nD A → (∀ j, j ≠ 18 → W1.1 j = W.1 j) → W1.2 = W.2 → (∀ j, j < k → W1.1 18 j = bI (decide (j = f))) → rA ext X 0 76 2 [some (.ref X.1), some (.int (nI f)), some (.int (nI k)), none, none, none] [] W1 Q := by
    intro n
    induction n with
    | zero =>
      intro k W1 hk h1 h2 h3
      have hn : W1.2 5 = nI (m_nD A) := by rw [h2]; exact h.2.2.1.1
      refine br76_2 (fun _ => ?_) (fun e => absurd (by rw [hn]; exact nI_le (by omega) (by omega)) e)
      refine br76_32 ?_
      refine outer _ (fun j => decide (j = f)) W1 _ _ _ (Nat.le_refl _) ⟨h1, h2, fun j hj => h3 j (by omega)⟩ (decide_eq_true rfl) (fun t ht hb => ?_)
      rw [of_decide_eq_true hb]
      exact m_rc.refl A f
    | succ n ih =>
      intro k W1 hk h1 h2 h3
      have hn : W1.2 5 = nI (m_nD A) := by rw [h2]; exact h.2.2.1.1
      refine br76_2 (fun e => absurd e (by rw [hn]; exact nI_ge (by omega) (by omega))) (fun _ => ?_)
      have put : rA ext X 0 76 25 [some (.ref X.1), some (.int (nI f)), some (.int (nI k)), none, none, none] [.int (bI (decide (k = f))), .int (nI k), .ref (X.2.1 18)] W1 Q := by
        refine br76_25 (i_1 := k) rfl (by omega) ?_
        rw [bI_and, nI_1]
        refine ih (k + 1) _ (by omega) (fun j hj => by rw [gset_k _ _ _ hj]; exact h1 j hj) h2 (fun j hj => ?_)
        rw [gset_e]
        by_cases e : j = k
        · rw [e, va_up_self]
        · rw [va_up_ne _ _ e]; exact h3 j (by omega)
      refine br76_10 (fun e => ?_) (fun e => ?_)
      · rw [show decide (k = f) = false from decide_eq_false (fun z => e (by rw [z]))] at put
        exact br76_24 put
      · rw [show decide (k = f) = true from decide_eq_true ((nI_eq (by omega) (by omega)).mp e)] at put
        exact br76_20 put
  exact init (m_nD A) 0 W (Nat.zero_add _) (fun _ _ => rfl) rfl (fun j hj => by omega)
theorem m_isU_rc (hI : m_J A) : ∀ (n d o : Nat), d < m_nD A → m_depth A d = n → m_isU A d o = true → m_rc A o d := by
  intro n
  induction n with
  | zero =>
    intro d o hd hn h
    cases hu : m_un A d with
    | none => rw [m_isU_none o hu] at h; rw [of_decide_eq_true h]; exact m_rc.refl A o
    | some p => rw [m_depth_some hI hd hu] at hn; omega
  | succ n ih =>
    intro d o hd hn h
    cases hu : m_un A d with
    | none => rw [m_depth_none hu] at hn; omega
    | some p =>
      have hp := hI.un hd hu
      rw [m_isU_some hI o hd hu, Bool.or_eq_true] at h
      rcases h with h | h
      · rw [of_decide_eq_true h]; exact m_rc.refl A o
      · rw [m_depth_some hI hd hu] at hn
        exact (ih p o hp (by omega) h).step ⟨hp, hd, Or.inl hu⟩
theorem r_comesBack (hI : m_J A) (h : r_RA A W) {d f : Nat} (hd : d < m_nD A) (hf : f < m_nD A) : rCi ext X 1 75 [.ref X.1, .int (nI d), .int (nI f)] W (fun x W' => (∃ b, r_sn A W b W') ∧ ∃ c : Bool, x = bI c ∧ (c = true ↔ m_rc A f d)) := by
  have hD := hI.1
  refine rCi.of (L := [some (.ref X.1), some (.int (nI d)), some (.int (nI f)), none, none]) (by rw [ml75]; rfl) ?_
  refine br75_0 (r_reach hI h hf) ?_
  rintro W1 ⟨b, hs, hb⟩
  have hR := hs.RA h
  refine br75_5 ?_
  -- c: has one been seen; k: where it is
  have loop : ∀ (n k : Nat) (c : Bool), k < m_nD A → m_depth A k = n → m_rc A k d → (c = true → m_rc A f d) → (m_rc A f d → c = true ∨ ∃ a, m_isU A k a = true ∧ a < m_nD A ∧ b a = true) → rA ext X 1 75 10 [some (.ref X.1), some (.int (nI d)), some (.int (nI f)), some (.int (bI c)), some (.int (nI k))] [] W1 (fun r W' => ∃ x, r = some (.int x) ∧ (∃ b, r_sn A W b W') ∧ ∃ c : Bool, x = bI c ∧ (c = true ↔ m_rc A f d)) := by
    intro n
    induction n with
    | zero =>
      intro k c hk hn hkd hc1 hc2
      have hun : m_un A k = none := by
        cases hq : m_un A k with
        | none => rfl
        | some q => rw [m_depth_some hI hk hq] at hn; omega
      refine br75_10 (fun e => absurd e (nI_pos (by omega))) (fun _ => ?_)
      have nxt : rA ext X 1 75 34 [some (.ref X.1), some (.int (nI d)), some (.int (nI f)), some (.int (bI c)), some (.int (nI k))] [.int (bI (c || b k))] W1 (fun r W' => ∃ x, r = some (.int x) ∧ (∃ b, r_sn A W b W') ∧ ∃ c : Bool, x = bI c ∧ (c = true ↔ m_rc A f d)) := by
        refine br75_34 (i_1 := k) rfl (by omega) ?_
        rw [(r_un hI hR.D hk).1, hun]
        refine br75_10 (fun _ => ?_) (fun e => absurd (by decide) e)
        refine br75_47 (bI_01 _) ⟨_, rfl, ⟨b, hs⟩, _, rfl, fun z => ?_, fun z => ?_⟩
        · rw [Bool.or_eq_true] at z
          rcases z with z | z
          · exact hc1 z
          · exact ((hb k hk).mp z).trans hkd
        · rw [Bool.or_eq_true]
          rcases hc2 z with z | ⟨a, h1, h2, h3⟩
          · exact Or.inl z
          · rw [m_isU_none a hun] at h1
            rw [of_decide_eq_true h1]
            exact Or.inr h3
      refine br75_15 (fun e => ?_) (fun e => ?_)
      · have ec : c = true := by
          cases c with
          | true => rfl
          | false => exact absurd rfl e
        rw [ec, Bool.true_or] at nxt
        rw [ec]
        exact br75_29 nxt
      · have ec : c = false := bI_0.mp e
        rw [ec, Bool.false_or] at nxt
        rw [ec]
        refine br75_19 (i_1 := k) rfl (by omega) (fun e2 => ?_) (fun e2 => ?_)
        · rw [hs.2.2 k hk, bI_0] at e2
          rw [e2] at nxt
          exact br75_33 nxt
        · rw [hs.2.2 k hk, bI_0] at e2
          rw [show b k = true by simpa using e2] at nxt
          exact br75_29 nxt
    | succ n ih =>
      intro k c hk hn hkd hc1 hc2
      cases hq : m_un A k with
      | none => rw [m_depth_none hq] at hn; omega
      | some q =>
        have hql := hI.un hk hq
        refine br75_10 (fun e => absurd e (nI_pos (by omega))) (fun _ => ?_)
        have nxt : rA ext X 1 75 34 [some (.ref X.1), some (.int (nI d)), some (.int (nI f)), some (.int (bI c)), some (.int (nI k))] [.int (bI (c || b k))] W1 (fun r W' => ∃ x, r = some (.int x) ∧ (∃ b, r_sn A W b W') ∧ ∃ c : Bool, x = bI c ∧ (c = true ↔ m_rc A f d)) := by
          refine br75_34 (i_1 := k) rfl (by omega) ?_
          rw [(r_un hI hR.D hk).1, hq]
          rw [m_depth_some hI hk hq] at hn
          refine ih q _ hql (by omega) (((m_rc.refl A q).step ⟨hql, hk, Or.inl hq⟩).trans hkd) (fun z => ?_) (fun z => ?_)
          · rw [Bool.or_eq_true] at z
            rcases z with z | z
            · exact hc1 z
            · exact ((hb k hk).mp z).trans hkd
          · rw [Bool.or_eq_true]
            rcases hc2 z with z | ⟨a, h1, h2, h3⟩
            · exact Or.inl (Or.inl z)
            · rw [m_isU_some hI a hk hq, Bool.or_eq_true] at h1
              rcases h1 with h1 | h1
              · rw [of_decide_eq_true h1]
                exact Or.inl (Or.inr h3)
              · exact Or.inr ⟨a, h1, h2, h3⟩
        refine br75_15 (fun e => ?_) (fun e => ?_)
        · have ec : c = true := by
            cases c with
            | true => rfl
            | false => exact absurd rfl e
          rw [ec, Bool.true_or] at nxt
          rw [ec]
          exact br75_29 nxt
        · have ec : c = false := bI_0.mp e
          rw [ec, Bool.false_or] at nxt
          rw [ec]
          refine br75_19 (i_1 := k) rfl (by omega) (fun e2 => ?_) (fun e2 => ?_)
          · rw [hs.2.2 k hk, bI_0] at e2
            rw [e2] at nxt
            exact br75_33 nxt
          · rw [hs.2.2 k hk, bI_0] at e2
            rw [show b k = true by simpa using e2] at nxt
            exact br75_29 nxt
  refine loop _ d false hd rfl (m_rc.refl A d) (fun z => by cases z) (fun z => Or.inr ⟨d, ?_, hd, (hb d hd).mpr z⟩)
  cases hq : m_un A d with
  | none => rw [m_isU_none d hq]; exact decide_eq_true rfl
  | some q => rw [m_isU_some hI d hd hq, decide_eq_true rfl, Bool.true_or]
end RR2
