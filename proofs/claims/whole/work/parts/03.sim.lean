/-! THE SMALL MACHINE IS THE MACHINE: what a small state is in the heap -/
def av_K (cl : List vw_C) (D : va_G) (ao : List String) (U : State) : Prop := (∀ (c : Nat) (q : vw_C), cl[c]? = some q → u_Kn U q.1 q.2.1 q.2.2 (D.1 c) (D.2 c)) ∧ ∀ C ∈ ao, va_AO C U
theorem av_K.moved {cl : List vw_C} {D : va_G} {ao : List String} {u U : State} (hvm : u.vm.Alike U.vm) (h : av_K cl D ao u) : av_K cl D ao U := ⟨fun c q hq => u_Kn_moved hvm (h.1 c q hq), fun C hC => va_AO.moved hvm (h.2 C hC)⟩
def av_ob (cl : List vw_C) (D : va_G) (H : Heap) (a ci : Nat) (f : Nat → Value) : Prop := ∃ r : vw_C, cl[ci]? = some r ∧ t_OB a (D.1 ci) r.2.2 (D.2 ci) H f
def av_ar (U : State) (H : Heap) (a n : Nat) (ty : FieldType) (f : Nat → Value) : Prop := ∃ cA : ClassId, H[a]? = some (arrV cA n f) ∧ ArrOfT U cA ty ∧ va_RA U cA ty
/-- an array that can be read: perhaps not one of ours -/
def av_rd (U : State) (H : Heap) (a n : Nat) (ty : FieldType) (f : Nat → Value) : Prop := ∃ cell : Cell, H[a]? = some cell ∧ U.isArrayOf cell ty ∧ cell.vm ≠ .unknown ∧ cell.slots.size = n ∧ ∀ i : Nat, i < n → cell.slots[i]? = some (f i)
theorem av_ar.rd {U : State} {H : Heap} {a n : Nat} {ty : FieldType} {f : Nat → Value} (h : av_ar U H a n ty f) : av_rd U H a n ty f := by
  obtain ⟨cA, h1, h2, h3⟩ := h
  exact ⟨_, h1, h2 n f, fun q => by (cases q), arrV_size _ _ _, fun i hi => arrV_read _ _ hi⟩
theorem av_rd.kept {U : State} {H H1 : Heap} {a n : Nat} {ty : FieldType} {f : Nat → Value} (h : av_rd U H a n ty f) (hq : H1[a]? = H[a]?) : av_rd U H1 a n ty f := by
  obtain ⟨cell, h1, h2⟩ := h
  exact ⟨cell, hq.trans h1, h2⟩
theorem av_rd.lt {U : State} {H : Heap} {a n : Nat} {ty : FieldType} {f : Nat → Value} (h : av_rd U H a n ty f) : a < H.size := by
  obtain ⟨cell, h1, -⟩ := h
  exact (Array.getElem?_eq_some_iff.mp h1).1
theorem av_rd.moved {u U : State} {H : Heap} {a n : Nat} {ty : FieldType} {f : Nat → Value} (hvm : u.vm.Alike U.vm) (h : av_rd u H a n ty f) : av_rd U H a n ty f := by
  obtain ⟨cell, h1, h2, h3⟩ := h
  exact ⟨cell, h1, State.isArrayOf_alike hvm h2, h3⟩
def av_R (cl : List vw_C) (aT : Nat → FieldType) (D : va_G) (base : Nat) (U : State) (H : Heap) (S : av_St) : Prop :=
  S.2.2.1 = H.size ∧ base ≤ H.size ∧ (∀ a ci : Nat, S.1 a = some (.inl ci) → base ≤ a ∧ av_ob cl D H a ci (S.2.1 a)) ∧ ∀ a j n : Nat, S.1 a = some (.inr (j, n)) → (j < 50 → base ≤ a ∧ av_ar U H a n (aT j) (S.2.1 a)) ∧ av_rd U H a n (aT j) (S.2.1 a)
theorem av_ob.kept {cl : List vw_C} {D : va_G} {H H1 : Heap} {a ci : Nat} {f : Nat → Value} (h : av_ob cl D H a ci f) (hq : H1[a]? = H[a]?) : av_ob cl D H1 a ci f := by
  obtain ⟨r, h1, h2⟩ := h
  exact ⟨r, h1, h2.kept hq⟩
theorem av_ob.lt {cl : List vw_C} {D : va_G} {H : Heap} {a ci : Nat} {f : Nat → Value} (h : av_ob cl D H a ci f) : a < H.size := by
  obtain ⟨r, h1, cell, h2, -⟩ := h
  exact (Array.getElem?_eq_some_iff.mp h2).1
theorem av_ar.kept {U : State} {H H1 : Heap} {a n : Nat} {ty : FieldType} {f : Nat → Value} (h : av_ar U H a n ty f) (hq : H1[a]? = H[a]?) : av_ar U H1 a n ty f := by
  obtain ⟨cA, h1, h2⟩ := h
  exact ⟨cA, hq.trans h1, h2⟩
theorem av_ar.lt {U : State} {H : Heap} {a n : Nat} {ty : FieldType} {f : Nat → Value} (h : av_ar U H a n ty f) : a < H.size := by
  obtain ⟨cA, h1, -⟩ := h
  exact (Array.getElem?_eq_some_iff.mp h1).1
theorem av_ar.moved {u U : State} {H : Heap} {a n : Nat} {ty : FieldType} {f : Nat → Value} (hvm : u.vm.Alike U.vm) (h : av_ar u H a n ty f) : av_ar U H a n ty f := by
  obtain ⟨cA, h1, h2, h3⟩ := h
  exact ⟨cA, h1, arrOfT_moved hvm h2, h3.moved hvm⟩
theorem av_R.moved {cl : List vw_C} {aT : Nat → FieldType} {D : va_G} {base : Nat} {u U : State} {H : Heap} {S : av_St} (hvm : u.vm.Alike U.vm) (h : av_R cl aT D base u H S) : av_R cl aT D base U H S :=
  ⟨h.1, h.2.1, h.2.2.1, fun a j n q => ⟨fun z => ⟨((h.2.2.2 a j n q).1 z).1, ((h.2.2.2 a j n q).1 z).2.moved hvm⟩, (h.2.2.2 a j n q).2.moved hvm⟩⟩
theorem av_put_eq (ct : Nat → Nat → Value) (a k : Nat) (v : Value) : av_put ct a k v a = updV (ct a) k v := if_pos rfl
theorem av_put_ne (ct : Nat → Nat → Value) {a b : Nat} (k : Nat) (v : Value) (h : b ≠ a) : av_put ct a k v b = ct b := if_neg h
/-- a cell is written: an object's -/
theorem av_R.seto {cl : List vw_C} {aT : Nat → FieldType} {D : va_G} {base : Nat} {U : State} {H H1 : Heap} {S : av_St} {a k ci : Nat} {v : Value} (h : av_R cl aT D base U H S) (ht : S.1 a = some (.inl ci)) (ho : av_ob cl D H1 a ci (updV (S.2.1 a) k v)) (z : H1.size = H.size) (oq : ∀ q, q ≠ a → H1[q]? = H[q]?) : av_R cl aT D base U H1 (av_set S a k v) := by
  refine ⟨h.1.trans z.symm, by rw [z]; exact h.2.1, fun b cj hb => ?_, fun b j n hb => ?_⟩
  · have hb' : S.1 b = some (.inl cj) := hb
    refine ⟨(h.2.2.1 b cj hb').1, ?_⟩
    by_cases e : b = a
    · subst e
      have e2 : cj = ci := by rw [ht] at hb'; cases hb'; rfl
      subst e2
      show av_ob cl D H1 b cj (av_put S.2.1 b k v b)
      rw [av_put_eq]
      exact ho
    · show av_ob cl D H1 b cj (av_put S.2.1 a k v b)
      rw [av_put_ne _ _ _ e]
      exact (h.2.2.1 b cj hb').2.kept (oq b e)
  · have hb' : S.1 b = some (.inr (j, n)) := hb
    have e : b ≠ a := fun e => by subst e; rw [ht] at hb'; cases hb'
    have e2 : (av_set S a k v).2.1 b = S.2.1 b := av_put_ne _ _ _ e
    rw [e2]
    exact ⟨fun z => ⟨((h.2.2.2 b j n hb').1 z).1, ((h.2.2.2 b j n hb').1 z).2.kept (oq b e)⟩, (h.2.2.2 b j n hb').2.kept (oq b e)⟩
/-- a cell is written: an array's -/
theorem av_R.seta {cl : List vw_C} {aT : Nat → FieldType} {D : va_G} {base : Nat} {U : State} {H H1 : Heap} {S : av_St} {a k j0 n0 : Nat} {v : Value} (h : av_R cl aT D base U H S) (ht : S.1 a = some (.inr (j0, n0))) (ho : av_ar U H1 a n0 (aT j0) (updV (S.2.1 a) k v)) (z : H1.size = H.size) (oq : ∀ q, q ≠ a → H1[q]? = H[q]?) : av_R cl aT D base U H1 (av_set S a k v) := by
  refine ⟨h.1.trans z.symm, by rw [z]; exact h.2.1, fun b cj hb => ?_, fun b j n hb => ?_⟩
  · have hb' : S.1 b = some (.inl cj) := hb
    refine ⟨(h.2.2.1 b cj hb').1, ?_⟩
    have e : b ≠ a := fun e => by subst e; rw [ht] at hb'; cases hb'
    show av_ob cl D H1 b cj (av_put S.2.1 a k v b)
    rw [av_put_ne _ _ _ e]
    exact (h.2.2.1 b cj hb').2.kept (oq b e)
  · have hb' : S.1 b = some (.inr (j, n)) := hb
    by_cases e : b = a
    · subst e
      have e2 : (j, n) = (j0, n0) := by rw [ht] at hb'; cases hb'; rfl
      cases e2
      have e3 : (av_set S b k v).2.1 b = updV (S.2.1 b) k v := av_put_eq _ _ _ _
      rw [e3]
      exact ⟨fun z => ⟨((h.2.2.2 b j0 n0 ht).1 z).1, ho⟩, ho.rd⟩
    · have e2 : (av_set S a k v).2.1 b = S.2.1 b := av_put_ne _ _ _ e
      rw [e2]
      exact ⟨fun z => ⟨((h.2.2.2 b j n hb').1 z).1, ((h.2.2.2 b j n hb').1 z).2.kept (oq b e)⟩, (h.2.2.2 b j n hb').2.kept (oq b e)⟩
/-- a cell is made -/
theorem av_R.new {cl : List vw_C} {aT : Nat → FieldType} {D : va_G} {base : Nat} {U : State} {H H1 : Heap} {S : av_St} {t : av_Ty} {f : Nat → Value} {w : Nat} (h : av_R cl aT D base U H S) (ho : match t with | .inl ci => av_ob cl D H1 H.size ci f | .inr q => av_ar U H1 H.size q.2 (aT q.1) f) (z : H1.size = H.size + 1) (oq : ∀ q, q < H.size → H1[q]? = H[q]?) : av_R cl aT D base U H1 (av_new S t f w) := by
  have hs : S.2.2.1 = H.size := h.1
  refine ⟨by show S.2.2.1 + 1 = H1.size; rw [hs, z], by rw [z]; exact Nat.le_succ_of_le h.2.1, fun b cj hb => ?_, fun b j n hb => ?_⟩
  · have hb' : (if b = S.2.2.1 then some t else S.1 b) = some (.inl cj) := hb
    show base ≤ b ∧ av_ob cl D H1 b cj (if b = S.2.2.1 then f else S.2.1 b)
    by_cases e : b = S.2.2.1
    · rw [if_pos e] at hb' ⊢
      cases hb'
      rw [e, hs]
      exact ⟨h.2.1, ho⟩
    · rw [if_neg e] at hb' ⊢
      have := h.2.2.1 b cj hb'
      exact ⟨this.1, this.2.kept (oq b this.2.lt)⟩
  · have hb' : (if b = S.2.2.1 then some t else S.1 b) = some (.inr (j, n)) := hb
    by_cases e : b = S.2.2.1
    · have e2 : (av_new S t f w).2.1 b = f := if_pos e
      rw [e2]
      rw [if_pos e] at hb'
      cases hb'
      rw [e, hs]
      have ho : av_ar U H1 H.size n (aT j) f := ho
      exact ⟨fun _ => ⟨h.2.1, ho⟩, ho.rd⟩
    · have e2 : (av_new S t f w).2.1 b = S.2.1 b := if_neg e
      rw [e2]
      rw [if_neg e] at hb'
      have := h.2.2.2 b j n hb'
      exact ⟨fun z => ⟨(this.1 z).1, (this.1 z).2.kept (oq b this.2.lt)⟩, this.2.kept (oq b this.2.lt)⟩
/-- the locals -/
def av_as : Nat → av_Ls → List (Nat × Value)
  | _, [] => []
  | k, none :: L => av_as (k + 1) L
  | k, some v :: L => (k, v) :: av_as (k + 1) L
theorem av_as_mem : ∀ (L : av_Ls) (k i : Nat) (v : Value), (i, v) ∈ av_as k L ↔ k ≤ i ∧ L[i - k]? = some (some v)
  | [], k, i, v => by simp [av_as]
  | none :: L, k, i, v => by
    rw [av_as, av_as_mem L (k + 1) i v]
    constructor
    · rintro ⟨h1, h2⟩
      refine ⟨by omega, ?_⟩
      rw [show i - k = (i - (k + 1)) + 1 by omega, List.getElem?_cons_succ]
      exact h2
    · rintro ⟨h1, h2⟩
      by_cases e : i = k
      · subst e
        rw [Nat.sub_self, List.getElem?_cons_zero] at h2
        cases h2
      · refine ⟨by omega, ?_⟩
        rw [show i - k = (i - (k + 1)) + 1 by omega, List.getElem?_cons_succ] at h2
        exact h2
  | some w :: L, k, i, v => by
    rw [av_as, List.mem_cons, av_as_mem L (k + 1) i v]
    constructor
    · rintro (h | ⟨h1, h2⟩)
      · cases h
        refine ⟨Nat.le_refl _, ?_⟩
        rw [Nat.sub_self, List.getElem?_cons_zero]
      · refine ⟨by omega, ?_⟩
        rw [show i - k = (i - (k + 1)) + 1 by omega, List.getElem?_cons_succ]
        exact h2
    · rintro ⟨h1, h2⟩
      by_cases e : i = k
      · subst e
        rw [Nat.sub_self, List.getElem?_cons_zero] at h2
        cases h2
        exact Or.inl rfl
      · refine Or.inr ⟨by omega, ?_⟩
        rw [show i - k = (i - (k + 1)) + 1 by omega, List.getElem?_cons_succ] at h2
        exact h2
def av_lv (ls : Array Slot) (n : Nat) (L : av_Ls) : Prop := L.length = n ∧ (∀ (i : Nat) (v : Value), L[i]? = some (some v) → v.category = 1) ∧ lv_has ls n (av_as 0 L)
theorem av_lv.at {ls : Array Slot} {n : Nat} {L : av_Ls} (h : av_lv ls n L) {i : Nat} {v : Value} (hv : av_ld L i = some v) : ls[i]? = some (.val v) := by
  refine h.2.2.2.2 (i, v) ((av_as_mem L 0 i v).mpr ⟨Nat.zero_le _, ?_⟩)
  unfold av_ld at hv
  rw [List.getD_eq_getElem?_getD] at hv
  rw [Nat.sub_zero]
  cases hq : L[i]? with
  | none => rw [hq] at hv; cases hv
  | some o => rw [hq] at hv; exact congrArg some hv
theorem av_lv.put {ls ls' : Array Slot} {n : Nat} {L : av_Ls} {i : Nat} {v : Value} (h : av_lv ls n L) (hi : i < L.length) (hc : v.category = 1) (h' : lv_has ls' n ((i, v) :: (av_as 0 L).filter (fun q => !(q.1 == i) && !(q.1 + 1 == i && q.2.category == 2)))) : av_lv ls' n (L.set i (some v)) := by
  refine ⟨by rw [List.length_set]; exact h.1, fun j w hj => ?_, h'.1, h'.2.1, fun q hq => ?_⟩
  · by_cases e : j = i
    · subst e
      rw [List.getElem?_set_self hi] at hj
      cases hj
      exact hc
    · rw [List.getElem?_set_ne (Ne.symm e)] at hj
      exact h.2.1 j w hj
  · obtain ⟨j, w⟩ := q
    have h1 := ((av_as_mem _ 0 j w).mp hq).2
    rw [Nat.sub_zero] at h1
    by_cases e : j = i
    · subst e
      rw [List.getElem?_set_self hi] at h1
      cases h1
      exact h'.2.2 (j, v) List.mem_cons_self
    · rw [List.getElem?_set_ne (Ne.symm e)] at h1
      refine h'.2.2 (j, w) (List.mem_cons_of_mem _ (List.mem_filter.mpr ⟨(av_as_mem L 0 j w).mpr ⟨Nat.zero_le _, by rw [Nat.sub_zero]; exact h1⟩, ?_⟩))
      have hw : w.category = 1 := h.2.1 j w h1
      simp [e, hw]
