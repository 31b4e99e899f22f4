/-! THE REFERENCE AS ARRAYS: its object at b, its arrays at ra k (k: the field); everything else as in S0 -/
def rl_ar (k : Nat) : Bool := match k with
  | 0 => false
  | 1 => false
  | 3 => false
  | 5 => false
  | 17 => false
  | 19 => false
  | 22 => false
  | 25 => false
  | 27 => false
  | 29 => false
  | 32 => false
  | k => decide (k < 34)
def rl_sc (k : Nat) : Bool := decide (k < 34) && !rl_ar k
def rl_len (k : Nat) : Nat := match k with
  | 2 => 30
  | 4 => 5
  | 12 => 600
  | 13 => 600
  | 14 => 600
  | 15 => 1000
  | 16 => 1000
  | 26 => 25000
  | 28 => 25000
  | 30 => 500
  | 31 => 500
  | 33 => 9000
  | _ => 120
def rl_kd (k : Nat) : Nat := match k with
  | 18 => 2
  | 33 => 3
  | _ => 0
/-- contents: of the arrays, of the numbers -/
abbrev rW : Type := (Nat → Nat → Int32) × (Nat → Int32)
abbrev rX : Type := Nat × (Nat → Nat) × av_St
def gset (W : rW) (k i : Nat) (x : Int32) : rW := (fun k' i' => if k' = k ∧ i' = i then x else W.1 k' i', W.2)
def hset (W : rW) (k : Nat) (x : Int32) : rW := (W.1, fun k' => if k' = k then x else W.2 k')
theorem gset_s (W : rW) (k i : Nat) (x : Int32) : (gset W k i x).1 k i = x := if_pos ⟨rfl, rfl⟩
theorem gset_n (W : rW) {k i k' i' : Nat} (x : Int32) (h : ¬ (k' = k ∧ i' = i)) : (gset W k i x).1 k' i' = W.1 k' i' := if_neg h
theorem gset_2 (W : rW) (k i : Nat) (x : Int32) : (gset W k i x).2 = W.2 := rfl
theorem hset_1 (W : rW) (k : Nat) (x : Int32) : (hset W k x).1 = W.1 := rfl
theorem hset_s (W : rW) (k : Nat) (x : Int32) : (hset W k x).2 k = x := if_pos rfl
theorem hset_n (W : rW) {k k' : Nat} (x : Int32) (h : k' ≠ k) : (hset W k x).2 k' = W.2 k' := if_neg h
def rr (X : rX) (W : rW) (S : av_St) : Prop :=
  S.1 = X.2.2.1 ∧ S.2.2 = X.2.2.2.2 ∧ S.1 X.1 = some (.inl 10) ∧ (∀ k, rl_ar k = true → S.1 (X.2.1 k) = some (.inr (rl_kd k, rl_len k)) ∧ S.2.1 X.1 k = .ref (X.2.1 k)) ∧ (∀ k k', rl_ar k = true → rl_ar k' = true → X.2.1 k = X.2.1 k' → k = k') ∧
  (∀ k i, rl_ar k = true → i < rl_len k → S.2.1 (X.2.1 k) i = .int (W.1 k i)) ∧ (∀ k, rl_sc k = true → S.2.1 X.1 k = .int (W.2 k)) ∧ ∀ a, a ≠ X.1 → (∀ k, rl_ar k = true → a ≠ X.2.1 k) → S.2.1 a = X.2.2.2.1 a
section RR
variable {X : rX} {W : rW} {S : av_St}
theorem rr.to (h : rr X W S) : S.1 X.1 = some (.inl 10) := h.2.2.1
theorem rr.ta (h : rr X W S) (k : Nat) (hk : rl_ar k = true) : S.1 (X.2.1 k) = some (.inr (rl_kd k, rl_len k)) := (h.2.2.2.1 k hk).1
theorem rr.fa (h : rr X W S) (k : Nat) (hk : rl_ar k = true) : S.2.1 X.1 k = .ref (X.2.1 k) := (h.2.2.2.1 k hk).2
theorem rr.g (h : rr X W S) (k i : Nat) (hk : rl_ar k = true) (hi : i < rl_len k) : S.2.1 (X.2.1 k) i = .int (W.1 k i) := h.2.2.2.2.2.1 k i hk hi
theorem rr.n (h : rr X W S) (k : Nat) (hk : rl_sc k = true) : S.2.1 X.1 k = .int (W.2 k) := h.2.2.2.2.2.2.1 k hk
theorem rr.ne (h : rr X W S) (k : Nat) (hk : rl_ar k = true) : X.2.1 k ≠ X.1 := fun e => by
  have h1 := h.ta k hk
  rw [e, h.to] at h1
  cases h1
theorem rl_sc_ar {k : Nat} (h : rl_sc k = true) : rl_ar k = false := by
  unfold rl_sc at h
  cases hk : rl_ar k with
  | false => rfl
  | true => rw [hk] at h; simp at h
theorem rr.seta (h : rr X W S) (k i : Nat) (x : Int32) (hk : rl_ar k = true) : rr X (gset W k i x) (av_set S (X.2.1 k) i (.int x)) := by
  have hne := h.ne k hk
  have hb : (av_set S (X.2.1 k) i (.int x)).2.1 X.1 = S.2.1 X.1 := av_put_ne _ _ _ (Ne.symm hne)
  refine ⟨h.1, h.2.1, h.2.2.1, fun k' hk' => ⟨(h.2.2.2.1 k' hk').1, by rw [hb]; exact (h.2.2.2.1 k' hk').2⟩, h.2.2.2.2.1, fun k' i' hk' hi' => ?_, fun k' hk' => by rw [hb]; exact h.n k' hk', fun a ha hna => ?_⟩
  · by_cases e : k' = k
    · subst e
      have e2 : (av_set S (X.2.1 k') i (.int x)).2.1 (X.2.1 k') i' = updV (S.2.1 (X.2.1 k')) i (.int x) i' := congrFun (av_put_eq _ _ _ _) i'
      rw [e2]
      unfold updV
      by_cases e3 : i' = i
      · subst e3
        rw [if_pos rfl, gset_s]
      · rw [if_neg e3, gset_n _ _ (fun z => e3 z.2)]
        exact h.g k' i' hk' hi'
    · have e1 : X.2.1 k' ≠ X.2.1 k := fun z => e (h.2.2.2.2.1 k' k hk' hk z)
      have e2 : (av_set S (X.2.1 k) i (.int x)).2.1 (X.2.1 k') = S.2.1 (X.2.1 k') := av_put_ne _ _ _ e1
      rw [e2, gset_n _ _ (fun z => e z.1)]
      exact h.g k' i' hk' hi'
  · have e2 : (av_set S (X.2.1 k) i (.int x)).2.1 a = S.2.1 a := av_put_ne _ _ _ (hna k hk)
    rw [e2]
    exact h.2.2.2.2.2.2.2 a ha hna
theorem rr.seth (h : rr X W S) (k : Nat) (x : Int32) (hk : rl_sc k = true) : rr X (hset W k x) (av_set S X.1 k (.int x)) := by
  have hb : ∀ k', (av_set S X.1 k (.int x)).2.1 X.1 k' = updV (S.2.1 X.1) k (.int x) k' := fun k' => congrFun (av_put_eq _ _ _ _) k'
  have ho : ∀ a, a ≠ X.1 → (av_set S X.1 k (.int x)).2.1 a = S.2.1 a := fun a ha => av_put_ne _ _ _ ha
  refine ⟨h.1, h.2.1, h.2.2.1, fun k' hk' => ⟨(h.2.2.2.1 k' hk').1, ?_⟩, h.2.2.2.2.1, fun k' i' hk' hi' => by rw [ho _ (h.ne k' hk')]; exact h.g k' i' hk' hi', fun k' hk' => ?_, fun a ha hna => by rw [ho a ha]; exact h.2.2.2.2.2.2.2 a ha hna⟩
  · rw [hb]
    unfold updV
    rw [if_neg (fun e => by subst e; rw [rl_sc_ar hk] at hk'; cases hk')]
    exact (h.2.2.2.1 k' hk').2
  · rw [hb]
    unfold updV
    by_cases e : k' = k
    · subst e
      rw [if_pos rfl, hset_s]
    · rw [if_neg e, hset_n _ _ e]
      exact h.n k' hk'
end RR
/-- walking, and contracts, of the reference -/
def rA (ext : av_X) (X : rX) (d y pc : Nat) (L : av_Ls) (K : List Value) (W : rW) (Q : Option Value → rW → Prop) : Prop := ∀ S, rr X W S → aw ext d y pc L K S (fun r S' => ∃ W', rr X W' S' ∧ Q r W')
def rCi (ext : av_X) (X : rX) (d y : Nat) (as : List Value) (W : rW) (P : Int32 → rW → Prop) : Prop := ∀ S, rr X W S → cti ext d y as S (fun x S' => ∃ W', rr X W' S' ∧ P x W')
def rCv (ext : av_X) (X : rX) (d y : Nat) (as : List Value) (W : rW) (P : rW → Prop) : Prop := ∀ S, rr X W S → ctv ext d y as S (fun S' => ∃ W', rr X W' S' ∧ P W')
theorem rCi.post {ext : av_X} {X : rX} {d y : Nat} {as : List Value} {W : rW} {P P' : Int32 → rW → Prop} (h : rCi ext X d y as W P) (hp : ∀ x W', P x W' → P' x W') : rCi ext X d y as W P' := fun S hS => ct.post (h S hS) (fun r S' ⟨x, e, W', h1, h2⟩ => ⟨x, e, W', h1, hp x W' h2⟩)
theorem rCv.post {ext : av_X} {X : rX} {d y : Nat} {as : List Value} {W : rW} {P P' : rW → Prop} (h : rCv ext X d y as W P) (hp : ∀ W', P W' → P' W') : rCv ext X d y as W P' := fun S hS => ct.post (h S hS) (fun r S' ⟨e, W', h1, h2⟩ => ⟨e, W', h1, hp W' h2⟩)
theorem rCi.mono {ext : av_X} {X : rX} {d e y : Nat} {as : List Value} {W : rW} {P : Int32 → rW → Prop} (h : rCi ext X d y as W P) (hd : d ≤ e) : rCi ext X e y as W P := fun S hS => ct.mono (h S hS) hd
theorem rCv.mono {ext : av_X} {X : rX} {d e y : Nat} {as : List Value} {W : rW} {P : rW → Prop} (h : rCv ext X d y as W P) (hd : d ≤ e) : rCv ext X e y as W P := fun S hS => ct.mono (h S hS) hd
/-- a contract out of a walk -/
theorem rCi.of {ext : av_X} {X : rX} {d y : Nat} {as : List Value} {W : rW} {P : Int32 → rW → Prop} {L : av_Ls} (hL : av_ent as (sm_ml y) = L) (h : rA ext X d y 0 L [] W (fun r W' => ∃ x, r = some (.int x) ∧ P x W')) : rCi ext X d y as W P := by
  intro S hS
  unfold cti ct
  rw [hL]
  exact aw.post (h S hS) (fun r S' ⟨W', h1, x, e, h2⟩ => ⟨x, e, W', h1, h2⟩)
theorem rCv.of {ext : av_X} {X : rX} {d y : Nat} {as : List Value} {W : rW} {P : rW → Prop} {L : av_Ls} (hL : av_ent as (sm_ml y) = L) (h : rA ext X d y 0 L [] W (fun r W' => r = none ∧ P W')) : rCv ext X d y as W P := by
  intro S hS
  unfold ctv ct
  rw [hL]
  exact aw.post (h S hS) (fun r S' ⟨W', h1, e, h2⟩ => ⟨e, W', h1, h2⟩)
