/-! A FILE'S CHAIN OF LINKS: taking one in -/
def c_kpf (t f : Nat) (K : List Nat) (T T' : cT) : Prop := T'.1 = T.1 ∧ (∀ s, s ≠ 6 → s ≠ 9 → T'.2 s = T.2 s) ∧ (∀ i k, ¬ (i = f ∧ k = 2) → T'.2 6 i k = T.2 6 i k) ∧ (∀ i k, k ≠ 4 → T'.2 9 i k = T.2 9 i k) ∧ (∀ i, i ≠ t → i ∉ K → T'.2 9 i 4 = T.2 9 i 4)
section CFT
variable {ext : av_X} {X : cX} {T : cT}
theorem c_ftake {fm : Nat → Nat} {t f : Nat} {K : List Nat} (lt : X.2.1 9 t) (lf : X.2.1 6 f) (lK : ∀ x ∈ K, X.2.1 9 x) (hn : ∀ x, (x = t ∨ x ∈ K) → T.1 9 x 2 = nI (fm x) ∧ fm x < 1000000) (hnd : K.Nodup) (hd : t ∉ K) (hl : K.length < 600) (h7 : T.2 6 f 2 = K.head?) (h8 : c_chn T 9 4 K) :
    cCv ext X 0 46 [cv X 6 (some f), cv X 9 (some t)] T (fun T' => c_kpf t f K T T' ∧ ∃ l1 l2, K = l1 ++ l2 ∧ (∀ x ∈ l1, fm x ≤ fm t) ∧ (∀ x l, l2 = x :: l → fm t < fm x) ∧ T'.2 6 f 2 = (l1 ++ t :: l2).head? ∧ c_chn T' 9 4 (l1 ++ t :: l2)) := by
  refine cCv.of (L := [some (cv X 6 (some f)), some (cv X 9 (some t)), none, none, none]) (by rw [ml46]; rfl) ?_
  refine bc46_0 lf ?_
  rw [h7]
  generalize hQ : cQv X (fun T' => c_kpf t f K T T' ∧ ∃ l1 l2, K = l1 ++ l2 ∧ (∀ x ∈ l1, fm x ≤ fm t) ∧ (∀ x l, l2 = x :: l → fm t < fm x) ∧ T'.2 6 f 2 = (l1 ++ t :: l2).head? ∧ c_chn T' 9 4 (l1 ++ t :: l2)) = Q
  rw [c_chn_iff] at h8
  have fin : ∀ (l1 l2 : List Nat) (x4 : Int32), K = l1 ++ l2 → (∀ x ∈ l1, fm x ≤ fm t) → (∀ x l, l2 = x :: l → fm t < fm x) → cA ext X 0 46 46 [some (cv X 6 (some f)), some (cv X 9 (some t)), some (cv X 9 l1.getLast?), some (cv X 9 l2.head?), some (.int x4)] [] T Q := by
    intro l1 l2 x4 he hlt hge
    subst he
    obtain ⟨T1, hT1⟩ : ∃ T1, oset T 9 t 4 l2.head? = T1 := ⟨_, rfl⟩
    have f1 : T1.1 = T.1 := by rw [← hT1]; rfl
    have fs : ∀ s, s ≠ 9 → T1.2 s = T.2 s := fun s hs => by rw [← hT1, oset_k _ _ _ _ hs]
    have fd8 : T1.2 9 t 4 = l2.head? := by rw [← hT1, oset_s]
    have fo : ∀ i k, ¬ (i = t ∧ k = 4) → T1.2 9 i k = T.2 9 i k := fun i k hk => by rw [← hT1, oset_n _ _ (by omega)]
    refine bc46_46 lt (fun j hj => lK j (by
      cases l2 with
      | nil => cases hj
      | cons y l2 => cases hj; simp)) (fun q => ?_) (fun b q => ?_)
    · have e1 : l1 = [] := List.getLast?_eq_none_iff.mp q
      subst e1
      rw [hT1]
      refine bc46_55 lf (fun j hj => by cases hj; exact lt) (bc46_68 ?_)
      rw [← hQ]
      refine cQv.e ⟨⟨f1, fun s h6 h9 => by rw [oset_k _ _ _ _ h6, fs s h9], fun i k hk => ?_, fun i k hk => ?_, fun i hi _ => ?_⟩, [], l2, rfl, hlt, hge, ?_, ?_⟩
      · rw [oset_n _ _ (by omega), fs 6 (by decide)]
      · rw [oset_n _ _ (by omega), fo i k (by omega)]
      · rw [oset_n _ _ (by omega), fo i 4 (by omega)]
      · rw [oset_s]; rfl
      · rw [c_chn_iff]
        refine chn_ins (g := fun x => T.2 9 x 4) (g' := fun x => (oset T1 6 f 2 (some t)).2 9 x 4) h8 hnd hd ?_ (fun b hb => by cases hb) (fun x hx _ => ?_)
        · show (oset T1 6 f 2 (some t)).2 9 t 4 = _
          rw [oset_n _ _ (by omega), fd8]
        · show (oset T1 6 f 2 (some t)).2 9 x 4 = _
          rw [oset_n _ _ (by omega), fo x 4 (by omega)]
    · rw [hT1, q]
      have hb : b ∈ l1 ++ l2 := List.mem_append_left _ (List.mem_of_getLast? q)
      have hbd : b ≠ t := fun e => hd (e ▸ hb)
      have hl1 : l1 ≠ [] := fun e => by rw [e] at q; cases q
      refine bc46_63 (lK b hb) (fun j hj => by cases hj; exact lt) (bc46_68 ?_)
      rw [← hQ]
      refine cQv.e ⟨⟨f1, fun s h6 h9 => by rw [oset_k _ _ _ _ h9, fs s h9], fun i k hk => ?_, fun i k hk => ?_, fun i hi hK => ?_⟩, l1, l2, rfl, hlt, hge, ?_, ?_⟩
      · rw [oset_n _ _ (by omega), fs 6 (by decide)]
      · rw [oset_n _ _ (by omega), fo i k (by omega)]
      · rw [oset_n _ _ (fun z => hK (by rw [z.2.1]; exact hb)), fo i 4 (by omega)]
      · rw [oset_n _ _ (by omega), fs 6 (by decide), h7]
        cases l1 with
        | nil => exact absurd rfl hl1
        | cons y l1 => rfl
      · rw [c_chn_iff]
        refine chn_ins (g := fun x => T.2 9 x 4) (g' := fun x => (oset T1 9 b 4 (some t)).2 9 x 4) h8 hnd hd ?_ (fun b' hb' => ?_) (fun x hx hxl => ?_)
        · show (oset T1 9 b 4 (some t)).2 9 t 4 = _
          rw [oset_n _ _ (by omega), fd8]
        · rw [q] at hb'
          cases hb'
          exact oset_s _ _ _ _ _
        · show (oset T1 9 b 4 (some t)).2 9 x 4 = _
          rw [oset_n _ _ (fun z => hxl (by rw [q, z.2.1])), fo x 4 (by omega)]
  have loop : ∀ (l2 l1 : List Nat), K = l1 ++ l2 → (∀ x ∈ l1, fm x ≤ fm t) → cA ext X 0 46 10 [some (cv X 6 (some f)), some (cv X 9 (some t)), some (cv X 9 l1.getLast?), some (cv X 9 l2.head?), some (.int (nI l1.length))] [] T Q := by
    intro l2
    induction l2 with
    | nil =>
      intro l1 he hlt
      have fn := fin l1 [] (nI l1.length) he hlt (fun x l e => by cases e)
      exact bc46_10 (fun _ => fn) (fun _ => bc46_18 (fun _ => fn) (fun _ q => by cases q))
    | cons y l2 ih =>
      intro l1 he hlt
      have hyK : y ∈ K := by rw [he]; simp
      have hlen : l1.length < 600 := by
        rw [he, List.length_append] at hl
        omega
      obtain ⟨ny, my⟩ := hn y (Or.inr hyK)
      obtain ⟨nt, mt⟩ := hn t (Or.inl rfl)
      refine bc46_10 (fun q => absurd q (nI_ge (b := 600) hlen (by decide))) (fun _ => bc46_18 (fun q => by cases q) (fun _ _ => bc46_22 lt (lK y hyK) (fun q => ?_) (fun q => ?_)))
      · rw [nt, ny, nI_ltI (by omega) (by omega)] at q
        exact fin l1 (y :: l2) _ he hlt (fun x l e => by cases e; exact q)
      · rw [nt, ny, nI_ltI (by omega) (by omega)] at q
        refine bc46_33 (lK y hyK) ?_
        have e8 : T.2 9 y 4 = l2.head? := by
          have := h8 l1.length y (by rw [he]; exact app_ge 0)
          rw [this, he, app_ge, List.getElem?_cons_succ, List.head?_eq_getElem?]
        rw [e8, nI_1]
        have := ih (l1 ++ [y]) (by rw [he, List.append_assoc]; rfl) (fun x hx => by
          rcases List.mem_append.mp hx with hx | hx
          · exact hlt x hx
          · rw [List.mem_singleton.mp hx]; omega)
        rw [List.length_append, List.getLast?_concat] at this
        exact this
  exact loop K [] rfl (fun x hx => by cases hx)
end CFT
/-! NEW CELLS -/
/-- behind the next address there is nothing -/
def fr (S : av_St) : Prop := ∀ b, S.2.2.1 ≤ b → S.1 b = none
theorem fr.new {S : av_St} (h : fr S) (t : av_Ty) (f : Nat → Value) (w : Nat) : fr (av_new S t f w) := fun b hb => by
  have hb' : S.2.2.1 + 1 ≤ b := hb
  show (if b = S.2.2.1 then some t else S.1 b) = none
  rw [if_neg (by omega)]
  exact h b (by omega)
theorem fr.set {S : av_St} (h : fr S) (a k : Nat) (v : Value) : fr (av_set S a k v) := h
theorem cr.lt {X : cX} {T : cT} {S : av_St} (h : cr X T S) (hf : fr S) {s i : Nat} (l : X.2.1 s i) : X.1 s i < S.2.2.1 := by
  by_cases q : X.1 s i < S.2.2.1
  · exact q
  · have h1 := h.kd l
    rw [hf _ (by omega)] at h1
    cases h1
/-- a new cell's contents are as T says -/
def c_nw (X : cX) (T : cT) (S : av_St) (s i : Nat) : Prop :=
  S.1 (X.1 s i) = some (c_kd s) ∧ (∀ k, c_R s k = none → c_F s k = none → S.2.1 (X.1 s i) k = .int (T.1 s i k)) ∧
  (∀ k t, c_R s k = some t → S.2.1 (X.1 s i) k = cv X t (T.2 s i k) ∧ ∀ j, T.2 s i k = some j → X.2.1 t j) ∧
  (∀ k t, c_F s k = some t → S.2.1 (X.1 s i) k = .ref (X.1 t i) ∧ X.2.1 t i)
theorem cr.grow {X X' : cX} {T T' : cT} {S S' : av_St} (h : cr X T S) (hf : fr S) (a1 : X'.2.2 = S') (a2 : ∀ b, b < S.2.2.1 → S'.1 b = S.1 b ∧ S'.2.1 b = S.2.1 b)
    (a3 : ∀ s i, X.2.1 s i → X'.2.1 s i ∧ X'.1 s i = X.1 s i ∧ T'.1 s i = T.1 s i ∧ T'.2 s i = T.2 s i)
    (a4 : ∀ s i, X'.2.1 s i → ¬ X.2.1 s i → S.2.2.1 ≤ X'.1 s i ∧ c_nw X' T' S' s i)
    (a5 : ∀ s i s' i', X'.2.1 s i → X'.2.1 s' i' → ¬ X.2.1 s i → ¬ X.2.1 s' i' → X'.1 s i = X'.1 s' i' → s = s' ∧ i = i') : cr X' T' S' := by
  have em : ∀ p : Prop, p ∨ ¬ p := Classical.em
  refine ⟨by rw [a1], by rw [a1], fun s i l => ?_, fun s i s' i' l l' e => ?_, fun s i k l e1 e2 => ?_, fun s i k t l e => ?_, fun s i k t l e => ?_, fun a _ => by rw [a1]⟩
  · rcases em (X.2.1 s i) with q | q
    · rw [(a3 s i q).2.1, (a2 _ (h.lt hf q)).1]
      exact h.kd q
    · exact (a4 s i l q).2.1
  · rcases em (X.2.1 s i) with q | q
    · rcases em (X.2.1 s' i') with q' | q'
      · rw [(a3 s i q).2.1, (a3 s' i' q').2.1] at e
        exact h.2.2.2.1 s i s' i' q q' e
      · have h1 := (a4 s' i' l' q').1
        have h2 := h.lt hf q
        rw [← e, (a3 s i q).2.1] at h1
        omega
    · rcases em (X.2.1 s' i') with q' | q'
      · have h1 := (a4 s i l q).1
        have h2 := h.lt hf q'
        rw [e, (a3 s' i' q').2.1] at h1
        omega
      · exact a5 s i s' i' l l' q q' e
  · rcases em (X.2.1 s i) with q | q
    · rw [(a3 s i q).2.1, (a2 _ (h.lt hf q)).2, (a3 s i q).2.2.1]
      exact h.i k e1 e2 q
    · exact (a4 s i l q).2.2.1 k e1 e2
  · rcases em (X.2.1 s i) with q | q
    · have h3 : ∀ j, T.2 s i k = some j → X.2.1 t j := h.rl k e q
      rw [(a3 s i q).2.1, (a2 _ (h.lt hf q)).2, (a3 s i q).2.2.2, h.r k e q]
      refine ⟨?_, fun j hj => (a3 t j (h3 j hj)).1⟩
      cases ht : T.2 s i k with
      | none => rfl
      | some j =>
        show Value.ref (X.1 t j) = Value.ref (X'.1 t j)
        rw [(a3 t j (h3 j ht)).2.1]
    · exact (a4 s i l q).2.2.2.1 k t e
  · rcases em (X.2.1 s i) with q | q
    · have h3 := h.fl k e q
      rw [(a3 s i q).2.1, (a2 _ (h.lt hf q)).2, h.f k e q, (a3 t i h3).2.1]
      exact ⟨rfl, (a3 t i h3).1⟩
    · exact (a4 s i l q).2.2.2.2 k t e
/-- what a call leaves, of the state that it began with -/
def c_gr (X X' : cX) (S' : av_St) : Prop :=
  fr S' ∧ (X.2.2.2.2.1 ≤ S'.2.2.1 ∧ S'.2.2.1 ≤ X.2.2.2.2.1 + 3) ∧ (X.2.2.2.2.2 ≤ S'.2.2.2 ∧ S'.2.2.2 ≤ X.2.2.2.2.2 + 40) ∧ (∀ b, b < X.2.2.2.2.1 → S'.1 b = X.2.2.1 b) ∧
  (∀ b, b < X.2.2.2.2.1 → (∀ s i, X.2.1 s i → b ≠ X.1 s i) → S'.2.1 b = X.2.2.2.1 b) ∧
  (X'.1 0 0 = X.1 0 0) ∧ ∀ s i, X'.2.1 s i → (X.2.1 s i ∧ X'.1 s i = X.1 s i) ∨ X.2.2.2.2.1 ≤ X'.1 s i
theorem cr.gr0 {X : cX} {T : cT} {S : av_St} (h : cr X T S) (hf : fr X.2.2) : c_gr X X S := by
  obtain ⟨h1, h2, -, -, -, -, -, h8⟩ := h
  refine ⟨fun b hb => ?_, ?_, ?_, fun b _ => by rw [h1], fun b _ => h8 b, rfl, fun s i l => Or.inl ⟨l, rfl⟩⟩
  · rw [h1]; rw [h2] at hb; exact hf b hb
  · rw [h2]; omega
  · rw [h2]; omega
theorem c_gr.go {X X' : cX} {T' : cT} {S' : av_St} (g : c_gr X X' X'.2.2) (h : cr X' T' S') : c_gr X X' S' := by
  obtain ⟨g1, g2, g3, g4, g5, g6, g7⟩ := g
  obtain ⟨h1, h2, -, -, -, -, -, h8⟩ := h
  refine ⟨fun b hb => ?_, ?_, ?_, fun b hb => ?_, fun b hb hn => ?_, g6, g7⟩
  · rw [h1]; rw [h2] at hb; exact g1 b hb
  · rw [h2]; exact g2
  · rw [h2]; exact g3
  · rw [h1]; exact g4 b hb
  · rw [h8 b (fun s i l e => ?_)]
    · exact g5 b hb hn
    · rcases g7 s i l with ⟨q1, q2⟩ | q
      · exact hn s i q1 (by rw [e, q2])
      · omega
/-- a call that may make cells -/
def cN (ext : av_X) (X : cX) (d y : Nat) (as : List Value) (T : cT) (P : Int32 → cX → cT → Prop) : Prop := ∀ S, cr X T S → fr X.2.2 → cti ext d y as S (fun x S' => ∃ X' T', cr X' T' S' ∧ c_gr X X' S' ∧ P x X' T')
def cQn (X : cX) (P : Int32 → cX → cT → Prop) : Option Value → av_St → Prop := fun r S' => ∃ x, r = some (.int x) ∧ ∃ X' T', cr X' T' S' ∧ c_gr X X' S' ∧ P x X' T'
theorem cN.of {ext : av_X} {X : cX} {d y : Nat} {as : List Value} {T : cT} {P : Int32 → cX → cT → Prop} {L : av_Ls} (hL : av_ent as (sm_ml y) = L) (h : fr X.2.2 → cA ext X d y 0 L [] T (cQn X P)) : cN ext X d y as T P := by
  intro S hS hf
  unfold cti ct
  rw [hL]
  exact h hf S hS
theorem cQn.e {X : cX} {T : cT} {P : Int32 → cX → cT → Prop} {x : Int32} (hf : fr X.2.2) (h : P x X T) : ∀ S, cr X T S → cQn X P (some (.int x)) S := fun _ hS => ⟨x, rfl, X, T, hS, hS.gr0 hf, h⟩
theorem cQn.g {X X' : cX} {T' : cT} {P : Int32 → cX → cT → Prop} {x : Int32} (g : c_gr X X' X'.2.2) (h : P x X' T') : ∀ S, cr X' T' S → cQn X P (some (.int x)) S := fun _ hS => ⟨x, rfl, X', T', hS, g.go hS, h⟩
theorem cCi.N {ext : av_X} {X : cX} {d y : Nat} {as : List Value} {T : cT} {P : Int32 → cT → Prop} (h : cCi ext X d y as T P) : cN ext X d y as T (fun x X' T' => X' = X ∧ P x T') := fun S hS hf => ct.post (h S hS) (fun r S' ⟨x, e, W', h1, h2⟩ => ⟨x, e, X, W', h1, h1.gr0 hf, rfl, h2⟩)
