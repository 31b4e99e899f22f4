/-! THE CLASS AS CELLS WITH NAMES: a name is a sort and a number; ad: its address; what is said of cells is said of names -/
def c_kd (s : Nat) : av_Ty := match s with
  | 20 => .inr (5, 30)
  | 21 => .inr (6, 5)
  | 22 => .inr (7, 120)
  | 23 => .inr (7, 120)
  | 24 => .inr (2, 120)
  | 25 => .inr (7, 1000)
  | 26 => .inr (7, 1000)
  | 27 => .inr (0, 120)
  | 28 => .inr (7, 120)
  | 29 => .inr (8, 5000)
  | 30 => .inr (7, 5000)
  | 31 => .inr (0, 300)
  | 32 => .inr (0, 300)
  | 33 => .inr (1, 7860)
  | 34 => .inr (8, 5)
  | s => .inl s
/-- the sort that a field, or an element, refers to -/
def c_R (s k : Nat) : Option Nat := match s with
  | 0 => (match k with
    | 0 => none
    | 1 => none
    | 2 => none
    | 3 => none
    | 4 => none
    | 5 => none
    | 6 => none
    | 7 => none
    | 8 => none
    | 9 => none
    | 10 => none
    | _ => some 5)
  | 6 => (match k with
    | 0 => none
    | 1 => none
    | _ => some 9)
  | 7 => (match k with
    | 0 => none
    | _ => some 8)
  | 8 => (match k with
    | 0 => none
    | 1 => none
    | 2 => none
    | 3 => none
    | 4 => none
    | 5 => none
    | _ => some 8)
  | 9 => (match k with
    | 0 => some 8
    | 1 => some 6
    | 2 => none
    | 3 => none
    | _ => some 9)
  | 20 => some 6
  | 21 => some 7
  | 22 => some 8
  | 23 => some 8
  | 25 => some 8
  | 26 => some 8
  | 28 => some 8
  | 29 => some 9
  | 30 => some 8
  | 34 => some 9
  | _ => none
/-- the fields that are made once: they refer to the name of that sort with the same number -/
def c_F (s k : Nat) : Option Nat := match s with
  | 0 => (match k with
    | 0 => some 20
    | 2 => some 21
    | 4 => some 22
    | 6 => some 1
    | 7 => some 2
    | 8 => some 3
    | 9 => some 4
    | 10 => some 5
    | _ => none)
  | 1 => (match k with
    | 0 => some 23
    | 1 => some 24
    | _ => none)
  | 2 => (match k with
    | 0 => some 25
    | 1 => some 26
    | 3 => some 27
    | 4 => some 28
    | _ => none)
  | 3 => (match k with
    | 0 => some 29
    | 1 => some 30
    | _ => none)
  | 4 => (match k with
    | 0 => some 31
    | 1 => some 32
    | _ => none)
  | 5 => (match k with
    | 0 => some 33
    | _ => none)
  | 8 => (match k with
    | 4 => some 34
    | _ => none)
  | _ => none
abbrev cT : Type := (Nat → Nat → Nat → Int32) × (Nat → Nat → Nat → Option Nat)
/-- addresses, which names there are, the state that all else is as in -/
abbrev cX : Type := (Nat → Nat → Nat) × (Nat → Nat → Prop) × av_St
def iset (T : cT) (s i k : Nat) (x : Int32) : cT := (fun s' i' k' => if s' = s ∧ i' = i ∧ k' = k then x else T.1 s' i' k', T.2)
def oset (T : cT) (s i k : Nat) (o : Option Nat) : cT := (T.1, fun s' i' k' => if s' = s ∧ i' = i ∧ k' = k then o else T.2 s' i' k')
theorem iset_s (T : cT) (s i k : Nat) (x : Int32) : (iset T s i k x).1 s i k = x := if_pos ⟨rfl, rfl, rfl⟩
theorem iset_n (T : cT) {s i k s' i' k' : Nat} (x : Int32) (h : ¬ (s' = s ∧ i' = i ∧ k' = k)) : (iset T s i k x).1 s' i' k' = T.1 s' i' k' := if_neg h
theorem iset_2 (T : cT) (s i k : Nat) (x : Int32) : (iset T s i k x).2 = T.2 := rfl
theorem oset_s (T : cT) (s i k : Nat) (x : Option Nat) : (oset T s i k x).2 s i k = x := if_pos ⟨rfl, rfl, rfl⟩
theorem oset_n (T : cT) {s i k s' i' k' : Nat} (x : Option Nat) (h : ¬ (s' = s ∧ i' = i ∧ k' = k)) : (oset T s i k x).2 s' i' k' = T.2 s' i' k' := if_neg h
theorem oset_1 (T : cT) (s i k : Nat) (x : Option Nat) : (oset T s i k x).1 = T.1 := rfl
def cv (X : cX) (s : Nat) (o : Option Nat) : Value := va_rf (o.map (X.1 s))
theorem cv_isR (X : cX) (s : Nat) (o : Option Nat) : av_isR (cv X s o) = true := av_isR_rf _
theorem cv_cat (X : cX) (s : Nat) (o : Option Nat) : (cv X s o).category = 1 := av_cat_rf _
theorem cv_none {X : cX} {s : Nat} {o : Option Nat} (h : o.map (X.1 s) = none) : o = none := by
  cases o with
  | none => rfl
  | some a => cases h
theorem cv_some {X : cX} {s a : Nat} {o : Option Nat} (h : o.map (X.1 s) = some a) : ∃ c, o = some c := by
  cases o with
  | none => cases h
  | some c => exact ⟨c, rfl⟩
def cr (X : cX) (T : cT) (S : av_St) : Prop :=
  S.1 = X.2.2.1 ∧ S.2.2 = X.2.2.2.2 ∧ (∀ s i, X.2.1 s i → S.1 (X.1 s i) = some (c_kd s)) ∧ (∀ s i s' i', X.2.1 s i → X.2.1 s' i' → X.1 s i = X.1 s' i' → s = s' ∧ i = i') ∧
  (∀ s i k, X.2.1 s i → c_R s k = none → c_F s k = none → S.2.1 (X.1 s i) k = .int (T.1 s i k)) ∧
  (∀ s i k t, X.2.1 s i → c_R s k = some t → S.2.1 (X.1 s i) k = cv X t (T.2 s i k) ∧ ∀ j, T.2 s i k = some j → X.2.1 t j) ∧
  (∀ s i k t, X.2.1 s i → c_F s k = some t → S.2.1 (X.1 s i) k = .ref (X.1 t i) ∧ X.2.1 t i) ∧
  ∀ a, (∀ s i, X.2.1 s i → a ≠ X.1 s i) → S.2.1 a = X.2.2.2.1 a
section CR
variable {X : cX} {T : cT} {S : av_St}
theorem cr.kd (h : cr X T S) {s i : Nat} (l : X.2.1 s i) : S.1 (X.1 s i) = some (c_kd s) := h.2.2.1 s i l
theorem cr.i (h : cr X T S) {s i : Nat} (k : Nat) (a : c_R s k = none) (b : c_F s k = none) (l : X.2.1 s i) : S.2.1 (X.1 s i) k = .int (T.1 s i k) := h.2.2.2.2.1 s i k l a b
theorem cr.r (h : cr X T S) {s i t : Nat} (k : Nat) (a : c_R s k = some t) (l : X.2.1 s i) : S.2.1 (X.1 s i) k = cv X t (T.2 s i k) := (h.2.2.2.2.2.1 s i k t l a).1
theorem cr.rr (h : cr X T S) {s i t b : Nat} (k : Nat) (a : c_R s k = some t) (l : X.2.1 s i) (e : T.2 s i k = some b) : S.2.1 (X.1 s i) k = .ref (X.1 t b) := by rw [h.r k a l, e]; rfl
theorem cr.rl (h : cr X T S) {s i t : Nat} (k : Nat) (a : c_R s k = some t) (l : X.2.1 s i) : ∀ j, T.2 s i k = some j → X.2.1 t j := (h.2.2.2.2.2.1 s i k t l a).2
theorem cr.f (h : cr X T S) {s i t : Nat} (k : Nat) (a : c_F s k = some t) (l : X.2.1 s i) : S.2.1 (X.1 s i) k = .ref (X.1 t i) := (h.2.2.2.2.2.2.1 s i k t l a).1
theorem cr.fl (h : cr X T S) {s i t : Nat} (k : Nat) (a : c_F s k = some t) (l : X.2.1 s i) : X.2.1 t i := (h.2.2.2.2.2.2.1 s i k t l a).2
theorem cr.inj (h : cr X T S) {s : Nat} {o1 o2 : Option Nat} (l1 : ∀ j, o1 = some j → X.2.1 s j) (l2 : ∀ j, o2 = some j → X.2.1 s j) : o1.map (X.1 s) = o2.map (X.1 s) ↔ o1 = o2 := by
  constructor
  · intro e
    cases o1 with
    | none =>
      cases o2 with
      | none => rfl
      | some b => cases e
    | some a =>
      cases o2 with
      | none => cases e
      | some b =>
        have e' : X.1 s a = X.1 s b := Option.some.inj e
        rw [(h.2.2.2.1 s a s b (l1 a rfl) (l2 b rfl) e').2]
  · intro e; rw [e]
theorem cr.tv (h : cr X T S) {s : Nat} {o : Option Nat} (l : ∀ j, o = some j → X.2.1 s j) : ∀ w, o.map (X.1 s) = some w → S.1 w = some (c_kd s) := by
  intro w hw
  cases o with
  | none => cases hw
  | some a =>
    cases hw
    exact h.kd (l a rfl)
theorem cr.put (h : cr X T S) {s i : Nat} (l : X.2.1 s i) (k : Nat) (v : Value) {T' : cT} (e1 : ∀ s' i' k', ¬ (s' = s ∧ i' = i ∧ k' = k) → T'.1 s' i' k' = T.1 s' i' k' ∧ T'.2 s' i' k' = T.2 s' i' k')
    (e2 : c_F s k = none) (e3 : c_R s k = none → v = .int (T'.1 s i k)) (e4 : ∀ t, c_R s k = some t → v = cv X t (T'.2 s i k) ∧ ∀ j, T'.2 s i k = some j → X.2.1 t j) : cr X T' (av_set S (X.1 s i) k v) := by
  have hb : ∀ k', (av_set S (X.1 s i) k v).2.1 (X.1 s i) k' = updV (S.2.1 (X.1 s i)) k v k' := fun k' => congrFun (av_put_eq _ _ _ _) k'
  have ho : ∀ a, a ≠ X.1 s i → (av_set S (X.1 s i) k v).2.1 a = S.2.1 a := fun a ha => av_put_ne _ _ _ ha
  have key : ∀ s' i' k', X.2.1 s' i' → ¬ (s' = s ∧ i' = i ∧ k' = k) → (av_set S (X.1 s i) k v).2.1 (X.1 s' i') k' = S.2.1 (X.1 s' i') k' := by
    intro s' i' k' l' hn
    by_cases e : X.1 s' i' = X.1 s i
    · obtain ⟨e5, e6⟩ := h.2.2.2.1 s' i' s i l' l e
      subst e5 e6
      rw [hb]
      unfold updV
      rw [if_neg (fun z => hn ⟨rfl, rfl, z⟩)]
    · rw [ho _ e]
  have keyE : (av_set S (X.1 s i) k v).2.1 (X.1 s i) k = v := by
    rw [hb]
    unfold updV
    rw [if_pos rfl]
  refine ⟨h.1, h.2.1, h.2.2.1, h.2.2.2.1, fun s' i' k' l' a b => ?_, fun s' i' k' t l' a => ?_, fun s' i' k' t l' a => ?_, fun a ha => ?_⟩
  · by_cases e : s' = s ∧ i' = i ∧ k' = k
    · obtain ⟨rfl, rfl, rfl⟩ := e
      rw [keyE]
      exact e3 a
    · rw [key s' i' k' l' e, (e1 s' i' k' e).1]
      exact h.i k' a b l'
  · by_cases e : s' = s ∧ i' = i ∧ k' = k
    · obtain ⟨rfl, rfl, rfl⟩ := e
      rw [keyE]
      exact e4 t a
    · rw [key s' i' k' l' e, (e1 s' i' k' e).2]
      exact h.2.2.2.2.2.1 s' i' k' t l' a
  · by_cases e : s' = s ∧ i' = i ∧ k' = k
    · obtain ⟨rfl, rfl, rfl⟩ := e
      rw [e2] at a
      cases a
    · rw [key s' i' k' l' e]
      exact h.2.2.2.2.2.2.1 s' i' k' t l' a
  · rw [ho a (ha s i l)]
    exact h.2.2.2.2.2.2.2 a ha
theorem cr.seti (h : cr X T S) {s i : Nat} (k : Nat) (x : Int32) (a : c_R s k = none) (b : c_F s k = none) (l : X.2.1 s i) : cr X (iset T s i k x) (av_set S (X.1 s i) k (.int x)) :=
  h.put l k _ (fun s' i' k' hn => ⟨iset_n _ _ hn, rfl⟩) b (fun _ => by rw [iset_s]) (fun t e => by rw [a] at e; cases e)
theorem cr.setr (h : cr X T S) {s i t : Nat} (k : Nat) (o : Option Nat) (a : c_R s k = some t) (b : c_F s k = none) (l : X.2.1 s i) (l2 : ∀ j, o = some j → X.2.1 t j) : cr X (oset T s i k o) (av_set S (X.1 s i) k (cv X t o)) :=
  h.put l k _ (fun s' i' k' hn => ⟨rfl, oset_n _ _ hn⟩) b (fun e => by rw [a] at e; cases e) (fun t' e => by
    rw [a] at e
    cases e
    rw [oset_s]
    exact ⟨rfl, l2⟩)
end CR
theorem cv_fo (t : String) (X : cX) (s : Nat) (o : Option Nat) : av_fits (.object t) (cv X s o) = true := av_fo_rf _ _
/-- walking, and contracts, of the class -/
def cA (ext : av_X) (X : cX) (d y pc : Nat) (L : av_Ls) (K : List Value) (T : cT) (Q : Option Value → av_St → Prop) : Prop := ∀ S, cr X T S → aw ext d y pc L K S Q
def cCi (ext : av_X) (X : cX) (d y : Nat) (as : List Value) (T : cT) (P : Int32 → cT → Prop) : Prop := ∀ S, cr X T S → cti ext d y as S (fun x S' => ∃ T', cr X T' S' ∧ P x T')
def cCv (ext : av_X) (X : cX) (d y : Nat) (as : List Value) (T : cT) (P : cT → Prop) : Prop := ∀ S, cr X T S → ctv ext d y as S (fun S' => ∃ T', cr X T' S' ∧ P T')
def cCr (ext : av_X) (X : cX) (s d y : Nat) (as : List Value) (T : cT) (P : Option Nat → cT → Prop) : Prop := ∀ S, cr X T S → ctr ext d y as S (fun r S' => ∃ o T', r = o.map (X.1 s) ∧ cr X T' S' ∧ P o T')
section CC
variable {ext : av_X} {X : cX} {d y s : Nat} {as : List Value} {T : cT}
theorem cCi.post {P P' : Int32 → cT → Prop} (h : cCi ext X d y as T P) (hp : ∀ x T', P x T' → P' x T') : cCi ext X d y as T P' := fun S hS => ct.post (h S hS) (fun r S' ⟨x, e, W', h1, h2⟩ => ⟨x, e, W', h1, hp x W' h2⟩)
theorem cCv.post {P P' : cT → Prop} (h : cCv ext X d y as T P) (hp : ∀ T', P T' → P' T') : cCv ext X d y as T P' := fun S hS => ct.post (h S hS) (fun r S' ⟨e, W', h1, h2⟩ => ⟨e, W', h1, hp W' h2⟩)
theorem cCr.post {P P' : Option Nat → cT → Prop} (h : cCr ext X s d y as T P) (hp : ∀ x T', P x T' → P' x T') : cCr ext X s d y as T P' := fun S hS => ct.post (h S hS) (fun r S' ⟨x, e, o, W', e2, h1, h2⟩ => ⟨x, e, o, W', e2, h1, hp o W' h2⟩)
theorem cCi.mono {e : Nat} {P : Int32 → cT → Prop} (h : cCi ext X d y as T P) (hd : d ≤ e) : cCi ext X e y as T P := fun S hS => ct.mono (h S hS) hd
theorem cCv.mono {e : Nat} {P : cT → Prop} (h : cCv ext X d y as T P) (hd : d ≤ e) : cCv ext X e y as T P := fun S hS => ct.mono (h S hS) hd
theorem cCr.mono {e : Nat} {P : Option Nat → cT → Prop} (h : cCr ext X s d y as T P) (hd : d ≤ e) : cCr ext X s e y as T P := fun S hS => ct.mono (h S hS) hd
/-- what a walk comes to, for a contract -/
def cQi (X : cX) (P : Int32 → cT → Prop) : Option Value → av_St → Prop := fun r S' => ∃ x, r = some (.int x) ∧ ∃ T', cr X T' S' ∧ P x T'
def cQv (X : cX) (P : cT → Prop) : Option Value → av_St → Prop := fun r S' => r = none ∧ ∃ T', cr X T' S' ∧ P T'
def cQr (X : cX) (s : Nat) (P : Option Nat → cT → Prop) : Option Value → av_St → Prop := fun r S' => ∃ o, r = some (cv X s o) ∧ ∃ T', cr X T' S' ∧ P o T'
theorem cQi.e {P : Int32 → cT → Prop} {x : Int32} (h : P x T) : ∀ S, cr X T S → cQi X P (some (.int x)) S := fun _ hS => ⟨x, rfl, T, hS, h⟩
theorem cQv.e {P : cT → Prop} (h : P T) : ∀ S, cr X T S → cQv X P none S := fun _ hS => ⟨rfl, T, hS, h⟩
theorem cQr.e {P : Option Nat → cT → Prop} {o : Option Nat} (h : P o T) : ∀ S, cr X T S → cQr X s P (some (cv X s o)) S := fun _ hS => ⟨o, rfl, T, hS, h⟩
theorem cCi.of {P : Int32 → cT → Prop} {L : av_Ls} (hL : av_ent as (sm_ml y) = L) (h : cA ext X d y 0 L [] T (cQi X P)) : cCi ext X d y as T P := by
  intro S hS
  unfold cti ct
  rw [hL]
  exact h S hS
theorem cCv.of {P : cT → Prop} {L : av_Ls} (hL : av_ent as (sm_ml y) = L) (h : cA ext X d y 0 L [] T (cQv X P)) : cCv ext X d y as T P := by
  intro S hS
  unfold ctv ct
  rw [hL]
  exact h S hS
theorem cCr.of {P : Option Nat → cT → Prop} {L : av_Ls} (hL : av_ent as (sm_ml y) = L) (h : cA ext X d y 0 L [] T (cQr X s P)) : cCr ext X s d y as T P := by
  intro S hS
  unfold ctr ct
  rw [hL]
  exact aw.post (h S hS) (fun r S' ⟨o, e, W', h1, h2⟩ => ⟨o.map (X.1 s), e, o, W', rfl, h1, h2⟩)
end CC
